theorem dX9_near_0 : decode cX9_near 0 = .ok (.aload_n 0, 1) := by decide +kernel
theorem dX9_near_1 : decode cX9_near 1 = .ok (.iload_n 1, 1) := by decide +kernel
theorem dX9_near_2 : decode cX9_near 2 = .ok (.invokevirtual 222, 3) := by decide +kernel
theorem dX9_near_5 : decode cX9_near 5 = .ok (.ifCond .eq 40, 3) := by decide +kernel
theorem dX9_near_8 : decode cX9_near 8 = .ok (.iload_n 2, 1) := by decide +kernel
theorem dX9_near_9 : decode cX9_near 9 = .ok (.invokestatic 225, 3) := by decide +kernel
theorem dX9_near_12 : decode cX9_near 12 = .ok (.ifCond .eq 33, 3) := by decide +kernel
theorem dX9_near_15 : decode cX9_near 15 = .ok (.iload_n 3, 1) := by decide +kernel
theorem dX9_near_16 : decode cX9_near 16 = .ok (.i2l, 1) := by decide +kernel
theorem dX9_near_17 : decode cX9_near 17 = .ok (.lconst 0, 1) := by decide +kernel
theorem dX9_near_18 : decode cX9_near 18 = .ok (.ldc2_w 150, 3) := by decide +kernel
theorem dX9_near_21 : decode cX9_near 21 = .ok (.invokestatic 132, 3) := by decide +kernel
theorem dX9_near_24 : decode cX9_near 24 = .ok (.ifCond .ne 25, 3) := by decide +kernel
theorem dX9_near_27 : decode cX9_near 27 = .ok (.iload_n 3, 1) := by decide +kernel
theorem dX9_near_28 : decode cX9_near 28 = .ok (.bipush 10, 2) := by decide +kernel
theorem dX9_near_30 : decode cX9_near 30 = .ok (.if_icmp .lt 15, 3) := by decide +kernel
theorem dX9_near_33 : decode cX9_near 33 = .ok (.aload_n 0, 1) := by decide +kernel
theorem dX9_near_34 : decode cX9_near 34 = .ok (.iload_n 1, 1) := by decide +kernel
theorem dX9_near_35 : decode cX9_near 35 = .ok (.iload_n 3, 1) := by decide +kernel
theorem dX9_near_36 : decode cX9_near 36 = .ok (.bipush 10, 2) := by decide +kernel
theorem dX9_near_38 : decode cX9_near 38 = .ok (.isub, 1) := by decide +kernel
theorem dX9_near_39 : decode cX9_near 39 = .ok (.invokevirtual 196, 3) := by decide +kernel
theorem dX9_near_42 : decode cX9_near 42 = .ok (.ifCond .ne 7, 3) := by decide +kernel
theorem dX9_near_45 : decode cX9_near 45 = .ok (.ldc2_w 167, 3) := by decide +kernel
theorem dX9_near_48 : decode cX9_near 48 = .ok (.lreturn, 1) := by decide +kernel
theorem dX9_near_49 : decode cX9_near 49 = .ok (.iconst 0, 1) := by decide +kernel
theorem dX9_near_50 : decode cX9_near 50 = .ok (.istore 4, 2) := by decide +kernel
theorem dX9_near_52 : decode cX9_near 52 = .ok (.iload 4, 2) := by decide +kernel
theorem dX9_near_54 : decode cX9_near 54 = .ok (.aload_n 0, 1) := by decide +kernel
theorem dX9_near_55 : decode cX9_near 55 = .ok (.getfield 129, 3) := by decide +kernel
theorem dX9_near_58 : decode cX9_near 58 = .ok (.if_icmp .ge 23, 3) := by decide +kernel
theorem dX9_near_61 : decode cX9_near 61 = .ok (.aload_n 0, 1) := by decide +kernel
theorem dX9_near_62 : decode cX9_near 62 = .ok (.getfield 54, 3) := by decide +kernel
theorem dX9_near_65 : decode cX9_near 65 = .ok (.iload 4, 2) := by decide +kernel
theorem dX9_near_67 : decode cX9_near 67 = .ok (.aload_n 0, 1) := by decide +kernel
theorem dX9_near_68 : decode cX9_near 68 = .ok (.getfield 38, 3) := by decide +kernel
theorem dX9_near_71 : decode cX9_near 71 = .ok (.iload 4, 2) := by decide +kernel
theorem dX9_near_73 : decode cX9_near 73 = .ok (.iaload, 1) := by decide +kernel
theorem dX9_near_74 : decode cX9_near 74 = .ok (.iastore, 1) := by decide +kernel
theorem dX9_near_75 : decode cX9_near 75 = .ok (.iinc 4 1, 3) := by decide +kernel
theorem dX9_near_78 : decode cX9_near 78 = .ok (.goto (-26), 3) := by decide +kernel
theorem dX9_near_81 : decode cX9_near 81 = .ok (.aload_n 0, 1) := by decide +kernel
theorem dX9_near_82 : decode cX9_near 82 = .ok (.iload_n 1, 1) := by decide +kernel
theorem dX9_near_83 : decode cX9_near 83 = .ok (.iload_n 2, 1) := by decide +kernel
theorem dX9_near_84 : decode cX9_near 84 = .ok (.invokevirtual 265, 3) := by decide +kernel
theorem dX9_near_87 : decode cX9_near 87 = .ok (.istore 4, 2) := by decide +kernel
theorem dX9_near_89 : decode cX9_near 89 = .ok (.iload_n 3, 1) := by decide +kernel
theorem dX9_near_90 : decode cX9_near 90 = .ok (.ifCond .ne 9, 3) := by decide +kernel
theorem dX9_near_93 : decode cX9_near 93 = .ok (.iload 4, 2) := by decide +kernel
theorem dX9_near_95 : decode cX9_near 95 = .ok (.i2l, 1) := by decide +kernel
theorem dX9_near_96 : decode cX9_near 96 = .ok (.goto 42, 3) := by decide +kernel
theorem dX9_near_99 : decode cX9_near 99 = .ok (.iload_n 3, 1) := by decide +kernel
theorem dX9_near_100 : decode cX9_near 100 = .ok (.bipush 10, 2) := by decide +kernel
theorem dX9_near_102 : decode cX9_near 102 = .ok (.if_icmp .lt 16, 3) := by decide +kernel
theorem dX9_near_105 : decode cX9_near 105 = .ok (.aload_n 0, 1) := by decide +kernel
theorem dX9_near_106 : decode cX9_near 106 = .ok (.getfield 38, 3) := by decide +kernel
theorem dX9_near_109 : decode cX9_near 109 = .ok (.iload_n 3, 1) := by decide +kernel
theorem dX9_near_110 : decode cX9_near 110 = .ok (.bipush 10, 2) := by decide +kernel
theorem dX9_near_112 : decode cX9_near 112 = .ok (.isub, 1) := by decide +kernel
theorem dX9_near_113 : decode cX9_near 113 = .ok (.iaload, 1) := by decide +kernel
theorem dX9_near_114 : decode cX9_near 114 = .ok (.i2l, 1) := by decide +kernel
theorem dX9_near_115 : decode cX9_near 115 = .ok (.goto 23, 3) := by decide +kernel
theorem dX9_near_118 : decode cX9_near 118 = .ok (.aload_n 0, 1) := by decide +kernel
theorem dX9_near_119 : decode cX9_near 119 = .ok (.iload_n 1, 1) := by decide +kernel
theorem dX9_near_120 : decode cX9_near 120 = .ok (.invokevirtual 262, 3) := by decide +kernel
theorem dX9_near_123 : decode cX9_near 123 = .ok (.ldc2_w 154, 3) := by decide +kernel
theorem dX9_near_126 : decode cX9_near 126 = .ok (.aload_n 0, 1) := by decide +kernel
theorem dX9_near_127 : decode cX9_near 127 = .ok (.iload_n 1, 1) := by decide +kernel
theorem dX9_near_128 : decode cX9_near 128 = .ok (.invokevirtual 239, 3) := by decide +kernel
theorem dX9_near_131 : decode cX9_near 131 = .ok (.lmul, 1) := by decide +kernel
theorem dX9_near_132 : decode cX9_near 132 = .ok (.iload_n 3, 1) := by decide +kernel
theorem dX9_near_133 : decode cX9_near 133 = .ok (.iconst 1, 1) := by decide +kernel
theorem dX9_near_134 : decode cX9_near 134 = .ok (.isub, 1) := by decide +kernel
theorem dX9_near_135 : decode cX9_near 135 = .ok (.invokestatic 243, 3) := by decide +kernel
theorem dX9_near_138 : decode cX9_near 138 = .ok (.lstore 5, 2) := by decide +kernel
theorem dX9_near_140 : decode cX9_near 140 = .ok (.iconst 0, 1) := by decide +kernel
theorem dX9_near_141 : decode cX9_near 141 = .ok (.istore 7, 2) := by decide +kernel
theorem dX9_near_143 : decode cX9_near 143 = .ok (.iload 7, 2) := by decide +kernel
theorem dX9_near_145 : decode cX9_near 145 = .ok (.aload_n 0, 1) := by decide +kernel
theorem dX9_near_146 : decode cX9_near 146 = .ok (.getfield 129, 3) := by decide +kernel
theorem dX9_near_149 : decode cX9_near 149 = .ok (.if_icmp .ge 23, 3) := by decide +kernel
theorem dX9_near_152 : decode cX9_near 152 = .ok (.aload_n 0, 1) := by decide +kernel
theorem dX9_near_153 : decode cX9_near 153 = .ok (.getfield 38, 3) := by decide +kernel
theorem dX9_near_156 : decode cX9_near 156 = .ok (.iload 7, 2) := by decide +kernel
theorem dX9_near_158 : decode cX9_near 158 = .ok (.aload_n 0, 1) := by decide +kernel
theorem dX9_near_159 : decode cX9_near 159 = .ok (.getfield 54, 3) := by decide +kernel
theorem dX9_near_162 : decode cX9_near 162 = .ok (.iload 7, 2) := by decide +kernel
theorem dX9_near_164 : decode cX9_near 164 = .ok (.iaload, 1) := by decide +kernel
theorem dX9_near_165 : decode cX9_near 165 = .ok (.iastore, 1) := by decide +kernel
theorem dX9_near_166 : decode cX9_near 166 = .ok (.iinc 7 1, 3) := by decide +kernel
theorem dX9_near_169 : decode cX9_near 169 = .ok (.goto (-26), 3) := by decide +kernel
theorem dX9_near_172 : decode cX9_near 172 = .ok (.lload 5, 2) := by decide +kernel
theorem dX9_near_174 : decode cX9_near 174 = .ok (.lreturn, 1) := by decide +kernel
theorem gX9_54 {p : Program} {l : Launch} {e : Env} {R : Room} {s : State} {m : MethodId} {args : Array Value} {below : List Frame} {meth : Method} {c : Code} {H : Heap} {locs : List Loc} {cells slots : Nat} {Q : State → Prop} {cc : ByteArray} {pc nL : Nat} {ls : Array Slot} {rest : List Value} {ret : Option FieldType} {G : xG} {β N : Nat} {x : MS} (C : Cx p s m args meth c RX9 cc nL ret (KK G)) (hw : MW β G N x H) (hd : decode cc pc = .ok (.getfield 54, 3)) (kk : W p l e R s m args below meth c H locs cells slots Q (F0 m (pc + 3) ls (.ref (β + 14) :: rest))) : W p l e R s m args below meth c H locs cells slots Q (F0 m pc ls (.ref β :: rest)) :=
  va_get C.1 C.2.1 C.2.2.2.2.1 iwX9 C.2.2.2.1 C.K.1 (xP1 (hw.2 0 (by decide))) 0 rfl rfl 21 (by decide) (C.2.2.2.2.1 (.fieldLink RX9 54 RX9 "aside" "[I") (tg 937 (by decide +kernel) rfl)) (fun _ h9 => h9) rfl hd kk
theorem asM_14 {p : Program} {l : Launch} {e : Env} {R : Room} {s : State} {m : MethodId} {args : Array Value} {below : List Frame} {meth : Method} {c : Code} {H : Heap} {locs : List Loc} {cells slots : Nat} {Q : State → Prop} {cc : ByteArray} {pc nL : Nat} {ls : Array Slot} {rest : List Value} {ret : Option FieldType} {G : xG} {β N : Nat} {x : MS} {own : String} {i : Int32} {v : Int32} (C : Cx p s m args meth c own cc nL ret (KK G)) (hw : MW β G N x H) (hS : va_S (AM β) s.heap H locs) (hin : ib i 10) (hd : decode cc pc = .ok (.iastore, 1)) (kk : ∀ (H1 : Heap) (locs1 : List Loc), MW β G N (msA x 14 i.toNatClampNeg v) H1 → va_S (AM β) s.heap H1 locs1 → W p l e R s m args below meth c H1 locs1 cells slots Q (F0 m (pc + 1) ls (rest))) : W p l e R s m args below meth c H locs cells slots Q (F0 m pc ls (.int v :: .int i :: .ref (β + 14) :: rest)) :=
  x_iast C.1 C.2.1 C.K.1 hS 0 (hw.2 14 (by decide)) (AM.in (by decide)) rfl hin hd (fun H1 locs1 hat ho hS => kk H1 locs1 (hw.setA 14 _ _ hat ho) hS)
theorem sX9_265 {p : Program} {l : Launch} {e : Env} {R : Room} {s : State} {m : MethodId} {args : Array Value} {below : List Frame} {meth : Method} {c : Code} {H : Heap} {locs : List Loc} {cells slots : Nat} {Q : State → Prop} {cc : ByteArray} {pc nL : Nat} {ls : Array Slot} {rest : List Value} {ret : Option FieldType} {G : xG} {β N : Nat} {x x' : MS} {a1 : Int32} {a2 : Int32} {r : Int32} (C : Cx p s m args meth c RX9 cc nL ret (KK G)) (h : fX9_nears x a1 a2 = some (r, x')) (hw : MW β G N x H) (hS : va_S (AM β) s.heap H locs) (hsz : ls.size = nL) (hW : (rest.map fun v => v.category).sum ≤ 8) (hR : 7 ≤ R.frames) (hR2 : 177 ≤ R.locals) (hcs : cells ≤ R.cells ∧ slots ≤ R.slots) (hd : decode cc pc = .ok (.invokevirtual 265, 3)) (kk : ∀ (H1 : Heap) (locs1 : List Loc), MW β G N x' H1 → va_S (AM β) s.heap H1 locs1 → W p l e R s m args below meth c H1 locs1 cells slots Q (F0 m (pc + 3) ls (.int r :: rest))) : W p l e R s m args below meth c H locs cells slots Q (F0 m pc ls (.int a2 :: .int a1 :: .ref β :: rest)) :=
  xcallV C (As := [.int a1, .int a2]) (rest := rest) (nA := 2) (ci := 9) (kX9_nears h) (tg 1321 (by decide +kernel) rfl) (tg 1323 (by decide +kernel) rfl) (sg (List.mem_of_getElem? (i := 88) (by decide +kernel)) rfl) (tg 14 (by decide +kernel) rfl) (tg 1324 (by decide +kernel) rfl) ⟨rfl, by decide +kernel, by decide +kernel, by decide +kernel⟩ rfl rfl rfl ⟨hR, hR2⟩ (hw.2 0 (by decide)) hw hS (fun _ q => q) rfl rfl hsz hW hd hcs (fun H1 locs1 hw hz hk hS => kk H1 locs1 hw hS)
theorem alM_14 {p : Program} {l : Launch} {e : Env} {R : Room} {s : State} {m : MethodId} {args : Array Value} {below : List Frame} {meth : Method} {c : Code} {H : Heap} {locs : List Loc} {cells slots : Nat} {Q : State → Prop} {cc : ByteArray} {pc nL : Nat} {ls : Array Slot} {rest : List Value} {ret : Option FieldType} {G : xG} {β N : Nat} {x : MS} {own : String} {i : Int32} (C : Cx p s m args meth c own cc nL ret (KK G)) (hw : MW β G N x H) (hin : ib i 10) (hd : decode cc pc = .ok (.iaload, 1)) (kk : W p l e R s m args below meth c H locs cells slots Q (F0 m (pc + 1) ls (.int (x.2.1 14 i.toNatClampNeg) :: rest))) : W p l e R s m args below meth c H locs cells slots Q (F0 m pc ls (.int i :: .ref (β + 14) :: rest)) :=
  va_iald C.1 C.2.1 C.K.1 (xP1 (hw.2 14 (by decide))) 0 0 rfl rfl hin hd kk
def BX9_near_52 (q1 : Int32) (q2 : Int32) (q3 : Int32) (lp : Int32 → MS → Option (MS)) (u4 : Int32) (x : MS) : Option (MS) := if (x.1 0 13) ≤ u4 then some x else if ib u4 10 then if ib u4 10 then lt (msA x 14 u4.toNatClampNeg (x.2.1 9 u4.toNatClampNeg)) fun x9 => lt (u4 + 1) fun v10 => lp v10 x9 else none else none
def LX9_near_52 (q1 : Int32) (q2 : Int32) (q3 : Int32) : Nat → Int32 → MS → Option (MS)
  | 0, _, _ => none
  | n + 1, u4, x => BX9_near_52 q1 q2 q3 (LX9_near_52 q1 q2 q3 n) u4 x
def BX9_near_143 (q5 : Int64) (lp : Int32 → MS → Option (MS)) (u7 : Int32) (x : MS) : Option (MS) := if (x.1 0 13) ≤ u7 then some x else if ib u7 10 then if ib u7 10 then lt (msA x 9 u7.toNatClampNeg (x.2.1 14 u7.toNatClampNeg)) fun x27 => lt (u7 + 1) fun v28 => lp v28 x27 else none else none
def LX9_near_143 (q5 : Int64) : Nat → Int32 → MS → Option (MS)
  | 0, _, _ => none
  | n + 1, u7, x => BX9_near_143 q5 (LX9_near_143 q5 n) u7 x
def fX9_near (x : MS) (a1 : Int32) (a2 : Int32) (a3 : Int32) : Option (Int64 × MS) := Option.bind (fX9_isField x a1) fun v1 => if v1 = true then Option.bind (fX9_isWhen a2) fun v3 => if v3 = true then Option.bind (fX9_in (a3.toInt64) 0 2) fun v5 => if v5 = true then Option.bind (LX9_near_52 a1 a2 a3 NF 0 x) fun x11 => bind2 (fX9_nears x11 a1 a2) fun v12 x13 => bind2 (if a3 = 0 then some (v12.toInt64, x13) else if a3 < 10 then bind2 (fX9_unevenness x13 a1) fun v15 x16 => Option.bind (fX9_cases x16 a1) fun v18 => Option.bind (fX9_lowest v15 (60 * v18) (a3 - 1)) fun v20 => some (v20, x16) else if ib (a3 - 10) 10 then some ((x13.2.1 9 (a3 - 10).toNatClampNeg).toInt64, x13) else none) fun v23 x24 => Option.bind (LX9_near_143 v23 NF 0 x24) fun x29 => some (v23, x29) else if a3 < 10 then some ((-4611686018427387904), x) else Option.bind (fX9_isOf x a1 (a3 - 10)) fun v30 => if v30 = true then Option.bind (LX9_near_52 a1 a2 a3 NF 0 x) fun x36 => bind2 (fX9_nears x36 a1 a2) fun v37 x38 => bind2 (if a3 = 0 then some (v37.toInt64, x38) else if a3 < 10 then bind2 (fX9_unevenness x38 a1) fun v40 x41 => Option.bind (fX9_cases x41 a1) fun v43 => Option.bind (fX9_lowest v40 (60 * v43) (a3 - 1)) fun v45 => some (v45, x41) else if ib (a3 - 10) 10 then some ((x38.2.1 9 (a3 - 10).toNatClampNeg).toInt64, x38) else none) fun v48 x49 => Option.bind (LX9_near_143 v48 NF 0 x49) fun x54 => some (v48, x54) else some ((-4611686018427387904), x) else some ((-4611686018427387904), x) else some ((-4611686018427387904), x)
set_option maxHeartbeats 4000000 in
set_option maxRecDepth 100000 in
theorem lX9_near_52 {p : Program} {l : Launch} {e : Env} {R : Room} {s : State} {m : MethodId} {args : Array Value} {below : List Frame} {meth : Method} {c : Code} {cells slots : Nat} {Q : State → Prop} {G : xG} {β N : Nat} (C : Cx p s m args meth c RX9 cX9_near 8 (some .long) (KK G)) (hRf : 7 ≤ R.frames) (hRl : 177 ≤ R.locals) (hcs : cells ≤ R.cells ∧ slots ≤ R.slots) (q1 : Int32) (q2 : Int32) (q3 : Int32) : ∀ (n : Nat) (u4 : Int32) (x : MS) (J : MS) (H : Heap) (locs : List Loc) (ls : Array Slot), LX9_near_52 q1 q2 q3 n u4 x = some J → MW β G N x H → va_S (AM β) s.heap H locs → lv_has ls 8 [(0, .ref β), (1, .int q1), (2, .int q2), (3, .int q3), (4, .int u4)] → (∀ (x1 : MS), J = x1 → ∀ (H : Heap) (locs : List Loc) (ls : Array Slot), MW β G N x1 H → va_S (AM β) s.heap H locs → lv_has ls 8 [(0, .ref β), (1, .int q1), (2, .int q2), (3, .int q3)] → W p l e R s m args below meth c H locs cells slots Q (F0 m 81 ls [])) → W p l e R s m args below meth c H locs cells slots Q (F0 m 52 ls []) := by
  have hx := C.1
  have hb := C.2.1
  have ho := C.2.2.2.1
  have hts := C.2.2.2.2.1
  intro n
  induction n with
  | zero =>
    intro u4 x J H locs ls hm
    exact absurd hm (by simp [LX9_near_52])
  | succ n ih =>
    intro u4 x J H locs ls hm hw hS hl ke
    replace hm : BX9_near_52 q1 q2 q3 (LX9_near_52 q1 q2 q3 n) u4 x = some J := hm
    unfold BX9_near_52 at hm
    refine lv_iload hx hb dX9_near_52 (lv_at hl 4 rfl) ?_
    refine lv_aload_n hx hb dX9_near_54 rfl (lv_at hl 0 rfl) ?_
    refine gX9_129 C hw dX9_near_55 ?_
    refine lv_icmp_ge (tgt := 81) hx hb dX9_near_58 (by decide) (fun cc => ?_) (fun cc => ?_)
    · replace hm := ite_p cc hm
      exact ke _ (Option.some.inj hm).symm _ _ _ hw hS (lv_sub hl [0, 1, 2, 3] rfl)
    · replace hm := ite_n cc hm
      refine lv_aload_n hx hb dX9_near_61 rfl (lv_at hl 0 rfl) ?_
      refine gX9_54 C hw dX9_near_62 ?_
      refine lv_iload hx hb dX9_near_65 (lv_at hl 4 rfl) ?_
      refine lv_aload_n hx hb dX9_near_67 rfl (lv_at hl 0 rfl) ?_
      refine gX9_38 C hw dX9_near_68 ?_
      refine lv_iload hx hb dX9_near_71 (lv_at hl 4 rfl) ?_
      obtain ⟨h7, hm⟩ := chk_e hm
      refine alM_9 C hw h7 dX9_near_73 ?_
      obtain ⟨h8, hm⟩ := chk_e hm
      refine asM_14 C hw hS h8 dX9_near_74 (fun H locs hw hS => ?_)
      obtain ⟨x9, ev, hm⟩ := lt_e hm
      rw [← ev] at hw
      clear ev
      obtain ⟨v10, ev, hm⟩ := lt_e hm
      refine lv_iinc (v := v10) (lv' := [(4, .int v10), (0, .ref β), (1, .int q1), (2, .int q2), (3, .int q3)]) hx hb dX9_near_75 hl (k := 4) rfl (by rw [ev]; rfl) (by decide) rfl (fun ls hl => ?_)
      clear ev
      refine lv_goto (tgt := 52) hx hb dX9_near_78 (by decide) ?_
      exact ih _ _ _ _ _ _ hm hw hS (lv_sub hl [1, 2, 3, 4, 0] rfl) ke
set_option maxHeartbeats 4000000 in
set_option maxRecDepth 100000 in
theorem lX9_near_143 {p : Program} {l : Launch} {e : Env} {R : Room} {s : State} {m : MethodId} {args : Array Value} {below : List Frame} {meth : Method} {c : Code} {cells slots : Nat} {Q : State → Prop} {G : xG} {β N : Nat} (C : Cx p s m args meth c RX9 cX9_near 8 (some .long) (KK G)) (hRf : 7 ≤ R.frames) (hRl : 177 ≤ R.locals) (hcs : cells ≤ R.cells ∧ slots ≤ R.slots) (q5 : Int64) : ∀ (n : Nat) (u7 : Int32) (x : MS) (J : MS) (H : Heap) (locs : List Loc) (ls : Array Slot), LX9_near_143 q5 n u7 x = some J → MW β G N x H → va_S (AM β) s.heap H locs → lv_has ls 8 [(0, .ref β), (5, .long q5), (7, .int u7)] → (∀ (x1 : MS), J = x1 → ∀ (H : Heap) (locs : List Loc) (ls : Array Slot), MW β G N x1 H → va_S (AM β) s.heap H locs → lv_has ls 8 [(5, .long q5)] → W p l e R s m args below meth c H locs cells slots Q (F0 m 172 ls [])) → W p l e R s m args below meth c H locs cells slots Q (F0 m 143 ls []) := by
  have hx := C.1
  have hb := C.2.1
  have ho := C.2.2.2.1
  have hts := C.2.2.2.2.1
  intro n
  induction n with
  | zero =>
    intro u7 x J H locs ls hm
    exact absurd hm (by simp [LX9_near_143])
  | succ n ih =>
    intro u7 x J H locs ls hm hw hS hl ke
    replace hm : BX9_near_143 q5 (LX9_near_143 q5 n) u7 x = some J := hm
    unfold BX9_near_143 at hm
    refine lv_iload hx hb dX9_near_143 (lv_at hl 2 rfl) ?_
    refine lv_aload_n hx hb dX9_near_145 rfl (lv_at hl 0 rfl) ?_
    refine gX9_129 C hw dX9_near_146 ?_
    refine lv_icmp_ge (tgt := 172) hx hb dX9_near_149 (by decide) (fun cc => ?_) (fun cc => ?_)
    · replace hm := ite_p cc hm
      exact ke _ (Option.some.inj hm).symm _ _ _ hw hS (lv_sub hl [1] rfl)
    · replace hm := ite_n cc hm
      refine lv_aload_n hx hb dX9_near_152 rfl (lv_at hl 0 rfl) ?_
      refine gX9_38 C hw dX9_near_153 ?_
      refine lv_iload hx hb dX9_near_156 (lv_at hl 2 rfl) ?_
      refine lv_aload_n hx hb dX9_near_158 rfl (lv_at hl 0 rfl) ?_
      refine gX9_54 C hw dX9_near_159 ?_
      refine lv_iload hx hb dX9_near_162 (lv_at hl 2 rfl) ?_
      obtain ⟨h25, hm⟩ := chk_e hm
      refine alM_14 C hw h25 dX9_near_164 ?_
      obtain ⟨h26, hm⟩ := chk_e hm
      refine asM_9 C hw hS h26 dX9_near_165 (fun H locs hw hS => ?_)
      obtain ⟨x27, ev, hm⟩ := lt_e hm
      rw [← ev] at hw
      clear ev
      obtain ⟨v28, ev, hm⟩ := lt_e hm
      refine lv_iinc (v := v28) (lv' := [(7, .int v28), (0, .ref β), (5, .long q5)]) hx hb dX9_near_166 hl (k := 2) rfl (by rw [ev]; rfl) (by decide) rfl (fun ls hl => ?_)
      clear ev
      refine lv_goto (tgt := 143) hx hb dX9_near_169 (by decide) ?_
      exact ih _ _ _ _ _ _ hm hw hS (lv_sub hl [1, 2, 0] rfl) ke
abbrev rmX9_near : Room := { frames := 7, cells := 0, slots := 0, locals := 177 }
set_option maxHeartbeats 4000000 in
set_option maxRecDepth 100000 in
theorem kX9_near {l : Launch} {G : xG} {β N : Nat} {x x' : MS} {a1 : Int32} {a2 : Int32} {a3 : Int32} {r : Int64} (hm : fX9_near x a1 a2 a3 = some (r, x')) : Met l yX9_near (.code yX9_near cX9_near 8 (some .long) :: GT) rmX9_near (PcW [.ref β, .int a1, .int a2, .int a3] (MW β G N x) (KK G)) (QcW (AM β) (some (.long r)) (MW β G N x')) 0 0 (AM β) := by
  unfold fX9_near at hm
  refine xpro (own := RX9) (by decide +kernel) rfl (Nat.le_of_ble_eq_true rfl) ?_
  intro p e s m args below meth c C hw ls hl
  have hx := C.1
  have hb := C.2.1
  have ho := C.2.2.2.1
  have hts := C.2.2.2.2.1
  have hS : va_S (AM β) s.heap s.heap [] := va_S.rf
  have hl : lv_has ls 8 [(0, .ref β), (1, .int a1), (2, .int a2), (3, .int a3)] := hl
  have hRf : 7 ≤ rmX9_near.frames := Nat.le_refl _
  have hRl : 177 ≤ rmX9_near.locals := Nat.le_refl _
  have hcs : 0 ≤ rmX9_near.cells ∧ 0 ≤ rmX9_near.slots := ⟨Nat.le_refl _, Nat.le_refl _⟩
  refine lv_aload_n hx hb dX9_near_0 rfl (lv_at hl 0 rfl) ?_
  refine lv_iload_n hx hb dX9_near_1 rfl (lv_at hl 1 rfl) ?_
  obtain ⟨v1, h2, hm⟩ := bind_e hm
  refine sX9_222 C h2 hw hS hl.1 (Nat.le_of_ble_eq_true rfl) (Nat.le_trans (Nat.le_of_ble_eq_true rfl) hRf) (Nat.le_trans (Nat.le_of_ble_eq_true rfl) hRl) hcs dX9_near_2 (fun H locs hw hS => ?_)
  refine x_ifeqB hx hb dX9_near_5 (tgt := 45) (by decide) (fun cc => ?_) (fun cc => ?_)
  · replace hm := ite_n cc hm
    refine lv_ldc2 (v := (-4611686018427387904)) hx hb ho (hts (.constantLong RX9 167 (-4611686018427387904)) (tg 1130 (by decide +kernel) rfl)) dX9_near_45 ?_
    obtain ⟨rfl, rfl⟩ := inj2 hm
    exact xret_l C hw hS dX9_near_48
  · replace hm := ite_p cc hm
    refine lv_iload_n hx hb dX9_near_8 rfl (lv_at hl 2 rfl) ?_
    obtain ⟨v3, h4, hm⟩ := bind_e hm
    refine sX9_225 C h4 hw hS hl.1 (Nat.le_of_ble_eq_true rfl) (Nat.le_trans (Nat.le_of_ble_eq_true rfl) hRf) (Nat.le_trans (Nat.le_of_ble_eq_true rfl) hRl) hcs dX9_near_9 (fun H locs hw hS => ?_)
    refine x_ifeqB hx hb dX9_near_12 (tgt := 45) (by decide) (fun cc => ?_) (fun cc => ?_)
    · replace hm := ite_n cc hm
      refine lv_ldc2 (v := (-4611686018427387904)) hx hb ho (hts (.constantLong RX9 167 (-4611686018427387904)) (tg 1130 (by decide +kernel) rfl)) dX9_near_45 ?_
      obtain ⟨rfl, rfl⟩ := inj2 hm
      exact xret_l C hw hS dX9_near_48
    · replace hm := ite_p cc hm
      refine lv_iload_n hx hb dX9_near_15 rfl (lv_at hl 3 rfl) ?_
      refine lv_i2l hx hb dX9_near_16 rfl ?_
      refine lv_lconst (v := 0) hx hb dX9_near_17 (by decide) ?_
      refine lv_ldc2 (v := 2) hx hb ho (hts (.constantLong RX9 150 2) (tg 1109 (by decide +kernel) rfl)) dX9_near_18 ?_
      obtain ⟨v5, h6, hm⟩ := bind_e hm
      refine sX9_132 C h6 hw hS hl.1 (Nat.le_of_ble_eq_true rfl) (Nat.le_trans (Nat.le_of_ble_eq_true rfl) hRf) (Nat.le_trans (Nat.le_of_ble_eq_true rfl) hRl) hcs dX9_near_21 (fun H locs hw hS => ?_)
      refine x_ifneB hx hb dX9_near_24 (tgt := 49) (by decide) (fun cc => ?_) (fun cc => ?_)
      · replace hm := ite_p cc hm
        refine lv_iconst (v := 0) hx hb dX9_near_49 (by decide) ?_
        refine lv_istore (lv' := [(4, .int 0), (0, .ref β), (1, .int a1), (2, .int a2), (3, .int a3)]) hx hb dX9_near_50 hl (by decide) rfl (fun ls hl => ?_)
        obtain ⟨x11, hj, hm⟩ := bind_e hm
        refine lX9_near_52 C hRf hRl hcs a1 a2 a3 NF _ _ _ _ _ _ hj hw hS (lv_sub hl [1, 2, 3, 4, 0] rfl) (fun x11_ e0 H locs ls hw hS hl => ?_)
        cases e0
        refine lv_aload_n hx hb dX9_near_81 rfl (lv_at hl 0 rfl) ?_
        refine lv_iload_n hx hb dX9_near_82 rfl (lv_at hl 1 rfl) ?_
        refine lv_iload_n hx hb dX9_near_83 rfl (lv_at hl 2 rfl) ?_
        obtain ⟨v12, x13, h14, hm⟩ := bind2_e hm
        refine sX9_265 C h14 hw hS hl.1 (Nat.le_of_ble_eq_true rfl) (Nat.le_trans (Nat.le_of_ble_eq_true rfl) hRf) (Nat.le_trans (Nat.le_of_ble_eq_true rfl) hRl) hcs dX9_near_84 (fun H locs hw hS => ?_)
        refine lv_istore (lv' := [(4, .int v12), (0, .ref β), (1, .int a1), (2, .int a2), (3, .int a3)]) hx hb dX9_near_87 hl (by decide) rfl (fun ls hl => ?_)
        refine lv_iload_n hx hb dX9_near_89 rfl (lv_at hl 4 rfl) ?_
        obtain ⟨v23, x24, hj, hm⟩ := bind2_e hm
        have kk : ∀ (H : Heap) (locs : List Loc) (ls : Array Slot), MW β G N x24 H → va_S (AM β) s.heap H locs → lv_has ls 8 [(0, .ref β)] → W p l e rmX9_near s m args below meth c H locs 0 0 (MQ below (QcW (AM β) (some (.long r)) (MW β G N x')) args s 0 0 (AM β)) (F0 m 138 ls [.long v23]) := by
          intro H locs ls hw hS hl
          refine lv_lstore (lv' := [(5, .long v23), (0, .ref β)]) hx hb dX9_near_138 hl (by decide) rfl (fun ls hl => ?_)
          refine lv_iconst (v := 0) hx hb dX9_near_140 (by decide) ?_
          refine lv_istore (lv' := [(7, .int 0), (5, .long v23), (0, .ref β)]) hx hb dX9_near_141 hl (by decide) rfl (fun ls hl => ?_)
          obtain ⟨x29, hj, hm⟩ := bind_e hm
          refine lX9_near_143 C hRf hRl hcs v23 NF _ _ _ _ _ _ hj hw hS (lv_sub hl [2, 1, 0] rfl) (fun x29_ e0 H locs ls hw hS hl => ?_)
          cases e0
          refine lv_lload hx hb dX9_near_172 (lv_at hl 0 rfl) ?_
          obtain ⟨rfl, rfl⟩ := inj2 hm
          exact xret_l C hw hS dX9_near_174
        clear hm
        replace hm := hj
        clear hj
        refine lv_if_ne (tgt := 99) hx hb dX9_near_90 (by decide) (fun cc => ?_) (fun cc => ?_)
        · replace hm := ite_n cc hm
          refine lv_iload_n hx hb dX9_near_99 rfl (lv_at hl 4 rfl) ?_
          refine lv_bipush (v := 10) hx hb dX9_near_100 (by decide) ?_
          refine lv_icmp_lt (tgt := 118) hx hb dX9_near_102 (by decide) (fun cc => ?_) (fun cc => ?_)
          · replace hm := ite_p cc hm
            refine lv_aload_n hx hb dX9_near_118 rfl (lv_at hl 1 rfl) ?_
            refine lv_iload_n hx hb dX9_near_119 rfl (lv_at hl 2 rfl) ?_
            obtain ⟨v15, x16, h17, hm⟩ := bind2_e hm
            refine sX9_262 C h17 hw hS hl.1 (Nat.le_of_ble_eq_true rfl) (Nat.le_trans (Nat.le_of_ble_eq_true rfl) hRf) (Nat.le_trans (Nat.le_of_ble_eq_true rfl) hRl) hcs dX9_near_120 (fun H locs hw hS => ?_)
            refine lv_ldc2 (v := 60) hx hb ho (hts (.constantLong RX9 154 60) (tg 1111 (by decide +kernel) rfl)) dX9_near_123 ?_
            refine lv_aload_n hx hb dX9_near_126 rfl (lv_at hl 1 rfl) ?_
            refine lv_iload_n hx hb dX9_near_127 rfl (lv_at hl 2 rfl) ?_
            obtain ⟨v18, h19, hm⟩ := bind_e hm
            refine sX9_239 C h19 hw hS hl.1 (Nat.le_of_ble_eq_true rfl) (Nat.le_trans (Nat.le_of_ble_eq_true rfl) hRf) (Nat.le_trans (Nat.le_of_ble_eq_true rfl) hRl) hcs dX9_near_128 (fun H locs hw hS => ?_)
            refine lv_lmul hx hb dX9_near_131 ?_
            refine lv_iload_n hx hb dX9_near_132 rfl (lv_at hl 4 rfl) ?_
            refine lv_iconst (v := 1) hx hb dX9_near_133 (by decide) ?_
            refine lv_isub hx hb dX9_near_134 ?_
            obtain ⟨v20, h21, hm⟩ := bind_e hm
            refine sX9_243 C h21 hw hS hl.1 (Nat.le_of_ble_eq_true rfl) (Nat.le_trans (Nat.le_of_ble_eq_true rfl) hRf) (Nat.le_trans (Nat.le_of_ble_eq_true rfl) hRl) hcs dX9_near_135 (fun H locs hw hS => ?_)
            obtain ⟨rfl, rfl⟩ := inj2 hm
            exact kk _ _ _ hw hS (lv_sub hl [1] rfl)
          · replace hm := ite_n cc hm
            refine lv_aload_n hx hb dX9_near_105 rfl (lv_at hl 1 rfl) ?_
            refine gX9_38 C hw dX9_near_106 ?_
            refine lv_iload_n hx hb dX9_near_109 rfl (lv_at hl 4 rfl) ?_
            refine lv_bipush (v := 10) hx hb dX9_near_110 (by decide) ?_
            refine lv_isub hx hb dX9_near_112 ?_
            obtain ⟨h22, hm⟩ := chk_e hm
            refine alM_9 C hw h22 dX9_near_113 ?_
            refine lv_i2l hx hb dX9_near_114 rfl ?_
            refine lv_goto (tgt := 138) hx hb dX9_near_115 (by decide) ?_
            obtain ⟨rfl, rfl⟩ := inj2 hm
            exact kk _ _ _ hw hS (lv_sub hl [1] rfl)
        · replace hm := ite_p cc hm
          refine lv_iload hx hb dX9_near_93 (lv_at hl 0 rfl) ?_
          refine lv_i2l hx hb dX9_near_95 rfl ?_
          refine lv_goto (tgt := 138) hx hb dX9_near_96 (by decide) ?_
          obtain ⟨rfl, rfl⟩ := inj2 hm
          exact kk _ _ _ hw hS (lv_sub hl [1] rfl)
      · replace hm := ite_n cc hm
        refine lv_iload_n hx hb dX9_near_27 rfl (lv_at hl 3 rfl) ?_
        refine lv_bipush (v := 10) hx hb dX9_near_28 (by decide) ?_
        refine lv_icmp_lt (tgt := 45) hx hb dX9_near_30 (by decide) (fun cc => ?_) (fun cc => ?_)
        · replace hm := ite_p cc hm
          refine lv_ldc2 (v := (-4611686018427387904)) hx hb ho (hts (.constantLong RX9 167 (-4611686018427387904)) (tg 1130 (by decide +kernel) rfl)) dX9_near_45 ?_
          obtain ⟨rfl, rfl⟩ := inj2 hm
          exact xret_l C hw hS dX9_near_48
        · replace hm := ite_n cc hm
          refine lv_aload_n hx hb dX9_near_33 rfl (lv_at hl 0 rfl) ?_
          refine lv_iload_n hx hb dX9_near_34 rfl (lv_at hl 1 rfl) ?_
          refine lv_iload_n hx hb dX9_near_35 rfl (lv_at hl 3 rfl) ?_
          refine lv_bipush (v := 10) hx hb dX9_near_36 (by decide) ?_
          refine lv_isub hx hb dX9_near_38 ?_
          obtain ⟨v30, h31, hm⟩ := bind_e hm
          refine sX9_196 C h31 hw hS hl.1 (Nat.le_of_ble_eq_true rfl) (Nat.le_trans (Nat.le_of_ble_eq_true rfl) hRf) (Nat.le_trans (Nat.le_of_ble_eq_true rfl) hRl) hcs dX9_near_39 (fun H locs hw hS => ?_)
          refine x_ifneB hx hb dX9_near_42 (tgt := 49) (by decide) (fun cc => ?_) (fun cc => ?_)
          · replace hm := ite_p cc hm
            refine lv_iconst (v := 0) hx hb dX9_near_49 (by decide) ?_
            refine lv_istore (lv' := [(4, .int 0), (0, .ref β), (1, .int a1), (2, .int a2), (3, .int a3)]) hx hb dX9_near_50 hl (by decide) rfl (fun ls hl => ?_)
            obtain ⟨x36, hj, hm⟩ := bind_e hm
            refine lX9_near_52 C hRf hRl hcs a1 a2 a3 NF _ _ _ _ _ _ hj hw hS (lv_sub hl [1, 2, 3, 4, 0] rfl) (fun x36_ e0 H locs ls hw hS hl => ?_)
            cases e0
            refine lv_aload_n hx hb dX9_near_81 rfl (lv_at hl 0 rfl) ?_
            refine lv_iload_n hx hb dX9_near_82 rfl (lv_at hl 1 rfl) ?_
            refine lv_iload_n hx hb dX9_near_83 rfl (lv_at hl 2 rfl) ?_
            obtain ⟨v37, x38, h39, hm⟩ := bind2_e hm
            refine sX9_265 C h39 hw hS hl.1 (Nat.le_of_ble_eq_true rfl) (Nat.le_trans (Nat.le_of_ble_eq_true rfl) hRf) (Nat.le_trans (Nat.le_of_ble_eq_true rfl) hRl) hcs dX9_near_84 (fun H locs hw hS => ?_)
            refine lv_istore (lv' := [(4, .int v37), (0, .ref β), (1, .int a1), (2, .int a2), (3, .int a3)]) hx hb dX9_near_87 hl (by decide) rfl (fun ls hl => ?_)
            refine lv_iload_n hx hb dX9_near_89 rfl (lv_at hl 4 rfl) ?_
            obtain ⟨v48, x49, hj, hm⟩ := bind2_e hm
            have kk : ∀ (H : Heap) (locs : List Loc) (ls : Array Slot), MW β G N x49 H → va_S (AM β) s.heap H locs → lv_has ls 8 [(0, .ref β)] → W p l e rmX9_near s m args below meth c H locs 0 0 (MQ below (QcW (AM β) (some (.long r)) (MW β G N x')) args s 0 0 (AM β)) (F0 m 138 ls [.long v48]) := by
              intro H locs ls hw hS hl
              refine lv_lstore (lv' := [(5, .long v48), (0, .ref β)]) hx hb dX9_near_138 hl (by decide) rfl (fun ls hl => ?_)
              refine lv_iconst (v := 0) hx hb dX9_near_140 (by decide) ?_
              refine lv_istore (lv' := [(7, .int 0), (5, .long v48), (0, .ref β)]) hx hb dX9_near_141 hl (by decide) rfl (fun ls hl => ?_)
              obtain ⟨x54, hj, hm⟩ := bind_e hm
              refine lX9_near_143 C hRf hRl hcs v48 NF _ _ _ _ _ _ hj hw hS (lv_sub hl [2, 1, 0] rfl) (fun x54_ e0 H locs ls hw hS hl => ?_)
              cases e0
              refine lv_lload hx hb dX9_near_172 (lv_at hl 0 rfl) ?_
              obtain ⟨rfl, rfl⟩ := inj2 hm
              exact xret_l C hw hS dX9_near_174
            clear hm
            replace hm := hj
            clear hj
            refine lv_if_ne (tgt := 99) hx hb dX9_near_90 (by decide) (fun cc => ?_) (fun cc => ?_)
            · replace hm := ite_n cc hm
              refine lv_iload_n hx hb dX9_near_99 rfl (lv_at hl 4 rfl) ?_
              refine lv_bipush (v := 10) hx hb dX9_near_100 (by decide) ?_
              refine lv_icmp_lt (tgt := 118) hx hb dX9_near_102 (by decide) (fun cc => ?_) (fun cc => ?_)
              · replace hm := ite_p cc hm
                refine lv_aload_n hx hb dX9_near_118 rfl (lv_at hl 1 rfl) ?_
                refine lv_iload_n hx hb dX9_near_119 rfl (lv_at hl 2 rfl) ?_
                obtain ⟨v40, x41, h42, hm⟩ := bind2_e hm
                refine sX9_262 C h42 hw hS hl.1 (Nat.le_of_ble_eq_true rfl) (Nat.le_trans (Nat.le_of_ble_eq_true rfl) hRf) (Nat.le_trans (Nat.le_of_ble_eq_true rfl) hRl) hcs dX9_near_120 (fun H locs hw hS => ?_)
                refine lv_ldc2 (v := 60) hx hb ho (hts (.constantLong RX9 154 60) (tg 1111 (by decide +kernel) rfl)) dX9_near_123 ?_
                refine lv_aload_n hx hb dX9_near_126 rfl (lv_at hl 1 rfl) ?_
                refine lv_iload_n hx hb dX9_near_127 rfl (lv_at hl 2 rfl) ?_
                obtain ⟨v43, h44, hm⟩ := bind_e hm
                refine sX9_239 C h44 hw hS hl.1 (Nat.le_of_ble_eq_true rfl) (Nat.le_trans (Nat.le_of_ble_eq_true rfl) hRf) (Nat.le_trans (Nat.le_of_ble_eq_true rfl) hRl) hcs dX9_near_128 (fun H locs hw hS => ?_)
                refine lv_lmul hx hb dX9_near_131 ?_
                refine lv_iload_n hx hb dX9_near_132 rfl (lv_at hl 4 rfl) ?_
                refine lv_iconst (v := 1) hx hb dX9_near_133 (by decide) ?_
                refine lv_isub hx hb dX9_near_134 ?_
                obtain ⟨v45, h46, hm⟩ := bind_e hm
                refine sX9_243 C h46 hw hS hl.1 (Nat.le_of_ble_eq_true rfl) (Nat.le_trans (Nat.le_of_ble_eq_true rfl) hRf) (Nat.le_trans (Nat.le_of_ble_eq_true rfl) hRl) hcs dX9_near_135 (fun H locs hw hS => ?_)
                obtain ⟨rfl, rfl⟩ := inj2 hm
                exact kk _ _ _ hw hS (lv_sub hl [1] rfl)
              · replace hm := ite_n cc hm
                refine lv_aload_n hx hb dX9_near_105 rfl (lv_at hl 1 rfl) ?_
                refine gX9_38 C hw dX9_near_106 ?_
                refine lv_iload_n hx hb dX9_near_109 rfl (lv_at hl 4 rfl) ?_
                refine lv_bipush (v := 10) hx hb dX9_near_110 (by decide) ?_
                refine lv_isub hx hb dX9_near_112 ?_
                obtain ⟨h47, hm⟩ := chk_e hm
                refine alM_9 C hw h47 dX9_near_113 ?_
                refine lv_i2l hx hb dX9_near_114 rfl ?_
                refine lv_goto (tgt := 138) hx hb dX9_near_115 (by decide) ?_
                obtain ⟨rfl, rfl⟩ := inj2 hm
                exact kk _ _ _ hw hS (lv_sub hl [1] rfl)
            · replace hm := ite_p cc hm
              refine lv_iload hx hb dX9_near_93 (lv_at hl 0 rfl) ?_
              refine lv_i2l hx hb dX9_near_95 rfl ?_
              refine lv_goto (tgt := 138) hx hb dX9_near_96 (by decide) ?_
              obtain ⟨rfl, rfl⟩ := inj2 hm
              exact kk _ _ _ hw hS (lv_sub hl [1] rfl)
          · replace hm := ite_n cc hm
            refine lv_ldc2 (v := (-4611686018427387904)) hx hb ho (hts (.constantLong RX9 167 (-4611686018427387904)) (tg 1130 (by decide +kernel) rfl)) dX9_near_45 ?_
            obtain ⟨rfl, rfl⟩ := inj2 hm
            exact xret_l C hw hS dX9_near_48
theorem dX9_lay_0 : decode cX9_lay 0 = .ok (.aload_n 0, 1) := by decide +kernel
theorem dX9_lay_1 : decode cX9_lay 1 = .ok (.iload_n 1, 1) := by decide +kernel
theorem dX9_lay_2 : decode cX9_lay 2 = .ok (.invokevirtual 222, 3) := by decide +kernel
theorem dX9_lay_5 : decode cX9_lay 5 = .ok (.ifCond .eq 19, 3) := by decide +kernel
theorem dX9_lay_8 : decode cX9_lay 8 = .ok (.iload_n 2, 1) := by decide +kernel
theorem dX9_lay_9 : decode cX9_lay 9 = .ok (.invokestatic 225, 3) := by decide +kernel
theorem dX9_lay_12 : decode cX9_lay 12 = .ok (.ifCond .eq 12, 3) := by decide +kernel
theorem dX9_lay_15 : decode cX9_lay 15 = .ok (.aload_n 0, 1) := by decide +kernel
theorem dX9_lay_16 : decode cX9_lay 16 = .ok (.iload_n 1, 1) := by decide +kernel
theorem dX9_lay_17 : decode cX9_lay 17 = .ok (.iload_n 2, 1) := by decide +kernel
theorem dX9_lay_18 : decode cX9_lay 18 = .ok (.invokevirtual 265, 3) := by decide +kernel
theorem dX9_lay_21 : decode cX9_lay 21 = .ok (.goto 5, 3) := by decide +kernel
theorem dX9_lay_24 : decode cX9_lay 24 = .ok (.bipush (-2), 2) := by decide +kernel
theorem dX9_lay_26 : decode cX9_lay 26 = .ok (.ireturn, 1) := by decide +kernel
def fX9_lay (x : MS) (a1 : Int32) (a2 : Int32) : Option (Int32 × MS) := Option.bind (fX9_isField x a1) fun v1 => if v1 = true then Option.bind (fX9_isWhen a2) fun v3 => if v3 = true then bind2 (fX9_nears x a1 a2) fun v5 x6 => some (v5, x6) else some ((-2), x) else some ((-2), x)
abbrev rmX9_lay : Room := { frames := 7, cells := 0, slots := 0, locals := 177 }
set_option maxHeartbeats 4000000 in
set_option maxRecDepth 100000 in
theorem kX9_lay {l : Launch} {G : xG} {β N : Nat} {x x' : MS} {a1 : Int32} {a2 : Int32} {r : Int32} (hm : fX9_lay x a1 a2 = some (r, x')) : Met l yX9_lay (.code yX9_lay cX9_lay 3 (some .int) :: GT) rmX9_lay (PcW [.ref β, .int a1, .int a2] (MW β G N x) (KK G)) (QcW (AM β) (some (.int r)) (MW β G N x')) 0 0 (AM β) := by
  unfold fX9_lay at hm
  refine xpro (own := RX9) (by decide +kernel) rfl (Nat.le_of_ble_eq_true rfl) ?_
  intro p e s m args below meth c C hw ls hl
  have hx := C.1
  have hb := C.2.1
  have ho := C.2.2.2.1
  have hts := C.2.2.2.2.1
  have hS : va_S (AM β) s.heap s.heap [] := va_S.rf
  have hl : lv_has ls 3 [(0, .ref β), (1, .int a1), (2, .int a2)] := hl
  have hRf : 7 ≤ rmX9_lay.frames := Nat.le_refl _
  have hRl : 177 ≤ rmX9_lay.locals := Nat.le_refl _
  have hcs : 0 ≤ rmX9_lay.cells ∧ 0 ≤ rmX9_lay.slots := ⟨Nat.le_refl _, Nat.le_refl _⟩
  refine lv_aload_n hx hb dX9_lay_0 rfl (lv_at hl 0 rfl) ?_
  refine lv_iload_n hx hb dX9_lay_1 rfl (lv_at hl 1 rfl) ?_
  obtain ⟨v1, h2, hm⟩ := bind_e hm
  refine sX9_222 C h2 hw hS hl.1 (Nat.le_of_ble_eq_true rfl) (Nat.le_trans (Nat.le_of_ble_eq_true rfl) hRf) (Nat.le_trans (Nat.le_of_ble_eq_true rfl) hRl) hcs dX9_lay_2 (fun H locs hw hS => ?_)
  refine x_ifeqB hx hb dX9_lay_5 (tgt := 24) (by decide) (fun cc => ?_) (fun cc => ?_)
  · replace hm := ite_n cc hm
    refine lv_bipush (v := (-2)) hx hb dX9_lay_24 (by decide) ?_
    obtain ⟨rfl, rfl⟩ := inj2 hm
    exact xret_i C hw hS dX9_lay_26
  · replace hm := ite_p cc hm
    refine lv_iload_n hx hb dX9_lay_8 rfl (lv_at hl 2 rfl) ?_
    obtain ⟨v3, h4, hm⟩ := bind_e hm
    refine sX9_225 C h4 hw hS hl.1 (Nat.le_of_ble_eq_true rfl) (Nat.le_trans (Nat.le_of_ble_eq_true rfl) hRf) (Nat.le_trans (Nat.le_of_ble_eq_true rfl) hRl) hcs dX9_lay_9 (fun H locs hw hS => ?_)
    refine x_ifeqB hx hb dX9_lay_12 (tgt := 24) (by decide) (fun cc => ?_) (fun cc => ?_)
    · replace hm := ite_n cc hm
      refine lv_bipush (v := (-2)) hx hb dX9_lay_24 (by decide) ?_
      obtain ⟨rfl, rfl⟩ := inj2 hm
      exact xret_i C hw hS dX9_lay_26
    · replace hm := ite_p cc hm
      refine lv_aload_n hx hb dX9_lay_15 rfl (lv_at hl 0 rfl) ?_
      refine lv_iload_n hx hb dX9_lay_16 rfl (lv_at hl 1 rfl) ?_
      refine lv_iload_n hx hb dX9_lay_17 rfl (lv_at hl 2 rfl) ?_
      obtain ⟨v5, x6, h7, hm⟩ := bind2_e hm
      refine sX9_265 C h7 hw hS hl.1 (Nat.le_of_ble_eq_true rfl) (Nat.le_trans (Nat.le_of_ble_eq_true rfl) hRf) (Nat.le_trans (Nat.le_of_ble_eq_true rfl) hRl) hcs dX9_lay_18 (fun H locs hw hS => ?_)
      refine lv_goto (tgt := 26) hx hb dX9_lay_21 (by decide) ?_
      obtain ⟨rfl, rfl⟩ := inj2 hm
      exact xret_i C hw hS dX9_lay_26
theorem dX9_feed_0 : decode cX9_feed 0 = .ok (.iload_n 1, 1) := by decide +kernel
theorem dX9_feed_1 : decode cX9_feed 1 = .ok (.i2l, 1) := by decide +kernel
theorem dX9_feed_2 : decode cX9_feed 2 = .ok (.lconst 1, 1) := by decide +kernel
theorem dX9_feed_3 : decode cX9_feed 3 = .ok (.ldc2_w 268, 3) := by decide +kernel
theorem dX9_feed_6 : decode cX9_feed 6 = .ok (.invokestatic 132, 3) := by decide +kernel
theorem dX9_feed_9 : decode cX9_feed 9 = .ok (.ifCond .ne 6, 3) := by decide +kernel
theorem dX9_feed_12 : decode cX9_feed 12 = .ok (.bipush (-2), 2) := by decide +kernel
theorem dX9_feed_14 : decode cX9_feed 14 = .ok (.ireturn, 1) := by decide +kernel
theorem dX9_feed_15 : decode cX9_feed 15 = .ok (.aload_n 0, 1) := by decide +kernel
theorem dX9_feed_16 : decode cX9_feed 16 = .ok (.getfield 270, 3) := by decide +kernel
theorem dX9_feed_19 : decode cX9_feed 19 = .ok (.iload_n 1, 1) := by decide +kernel
theorem dX9_feed_20 : decode cX9_feed 20 = .ok (.iadd, 1) := by decide +kernel
theorem dX9_feed_21 : decode cX9_feed 21 = .ok (.sipush 160, 3) := by decide +kernel
theorem dX9_feed_24 : decode cX9_feed 24 = .ok (.if_icmp .le 6, 3) := by decide +kernel
theorem dX9_feed_27 : decode cX9_feed 27 = .ok (.bipush (-4), 2) := by decide +kernel
theorem dX9_feed_29 : decode cX9_feed 29 = .ok (.ireturn, 1) := by decide +kernel
theorem dX9_feed_30 : decode cX9_feed 30 = .ok (.iconst 0, 1) := by decide +kernel
theorem dX9_feed_31 : decode cX9_feed 31 = .ok (.istore 4, 2) := by decide +kernel
theorem dX9_feed_33 : decode cX9_feed 33 = .ok (.iload 4, 2) := by decide +kernel
theorem dX9_feed_35 : decode cX9_feed 35 = .ok (.iload_n 1, 1) := by decide +kernel
theorem dX9_feed_36 : decode cX9_feed 36 = .ok (.if_icmp .ge 40, 3) := by decide +kernel
theorem dX9_feed_39 : decode cX9_feed 39 = .ok (.aload_n 0, 1) := by decide +kernel
theorem dX9_feed_40 : decode cX9_feed 40 = .ok (.getfield 20, 3) := by decide +kernel
theorem dX9_feed_43 : decode cX9_feed 43 = .ok (.aload_n 0, 1) := by decide +kernel
theorem dX9_feed_44 : decode cX9_feed 44 = .ok (.getfield 270, 3) := by decide +kernel
theorem dX9_feed_47 : decode cX9_feed 47 = .ok (.lload_n 2, 1) := by decide +kernel
theorem dX9_feed_48 : decode cX9_feed 48 = .ok (.bipush 8, 2) := by decide +kernel
theorem dX9_feed_50 : decode cX9_feed 50 = .ok (.iload 4, 2) := by decide +kernel
theorem dX9_feed_52 : decode cX9_feed 52 = .ok (.imul, 1) := by decide +kernel
theorem dX9_feed_53 : decode cX9_feed 53 = .ok (.lshr, 1) := by decide +kernel
theorem dX9_feed_54 : decode cX9_feed 54 = .ok (.ldc2_w 127, 3) := by decide +kernel
theorem dX9_feed_57 : decode cX9_feed 57 = .ok (.land, 1) := by decide +kernel
theorem dX9_feed_58 : decode cX9_feed 58 = .ok (.l2i, 1) := by decide +kernel
theorem dX9_feed_59 : decode cX9_feed 59 = .ok (.iastore, 1) := by decide +kernel
theorem dX9_feed_60 : decode cX9_feed 60 = .ok (.aload_n 0, 1) := by decide +kernel
theorem dX9_feed_61 : decode cX9_feed 61 = .ok (.dup, 1) := by decide +kernel
theorem dX9_feed_62 : decode cX9_feed 62 = .ok (.getfield 270, 3) := by decide +kernel
theorem dX9_feed_65 : decode cX9_feed 65 = .ok (.iconst 1, 1) := by decide +kernel
theorem dX9_feed_66 : decode cX9_feed 66 = .ok (.iadd, 1) := by decide +kernel
theorem dX9_feed_67 : decode cX9_feed 67 = .ok (.putfield 270, 3) := by decide +kernel
theorem dX9_feed_70 : decode cX9_feed 70 = .ok (.iinc 4 1, 3) := by decide +kernel
theorem dX9_feed_73 : decode cX9_feed 73 = .ok (.goto (-40), 3) := by decide +kernel
theorem dX9_feed_76 : decode cX9_feed 76 = .ok (.aload_n 0, 1) := by decide +kernel
theorem dX9_feed_77 : decode cX9_feed 77 = .ok (.getfield 270, 3) := by decide +kernel
theorem dX9_feed_80 : decode cX9_feed 80 = .ok (.ireturn, 1) := by decide +kernel
theorem gX9_270 {p : Program} {l : Launch} {e : Env} {R : Room} {s : State} {m : MethodId} {args : Array Value} {below : List Frame} {meth : Method} {c : Code} {H : Heap} {locs : List Loc} {cells slots : Nat} {Q : State → Prop} {cc : ByteArray} {pc nL : Nat} {ls : Array Slot} {rest : List Value} {ret : Option FieldType} {G : xG} {β N : Nat} {x : MS} (C : Cx p s m args meth c RX9 cc nL ret (KK G)) (hw : MW β G N x H) (hd : decode cc pc = .ok (.getfield 270, 3)) (kk : W p l e R s m args below meth c H locs cells slots Q (F0 m (pc + 3) ls (.int (x.1 0 6) :: rest))) : W p l e R s m args below meth c H locs cells slots Q (F0 m pc ls (.ref β :: rest)) :=
  va_get C.1 C.2.1 C.2.2.2.2.1 iwX9 C.2.2.2.1 C.K.1 (xP1 (hw.2 0 (by decide))) 0 rfl rfl 6 (by decide) (C.2.2.2.2.1 (.fieldLink RX9 270 RX9 "taped" "I") (tg 922 (by decide +kernel) rfl)) (fun _ h9 => h9) rfl hd kk
theorem gX9_20 {p : Program} {l : Launch} {e : Env} {R : Room} {s : State} {m : MethodId} {args : Array Value} {below : List Frame} {meth : Method} {c : Code} {H : Heap} {locs : List Loc} {cells slots : Nat} {Q : State → Prop} {cc : ByteArray} {pc nL : Nat} {ls : Array Slot} {rest : List Value} {ret : Option FieldType} {G : xG} {β N : Nat} {x : MS} (C : Cx p s m args meth c RX9 cc nL ret (KK G)) (hw : MW β G N x H) (hd : decode cc pc = .ok (.getfield 20, 3)) (kk : W p l e R s m args below meth c H locs cells slots Q (F0 m (pc + 3) ls (.ref (β + 3) :: rest))) : W p l e R s m args below meth c H locs cells slots Q (F0 m pc ls (.ref β :: rest)) :=
  va_get C.1 C.2.1 C.2.2.2.2.1 iwX9 C.2.2.2.1 C.K.1 (xP1 (hw.2 0 (by decide))) 0 rfl rfl 5 (by decide) (C.2.2.2.2.1 (.fieldLink RX9 20 RX9 "tape" "[I") (tg 921 (by decide +kernel) rfl)) (fun _ h9 => h9) rfl hd kk
theorem asM_3 {p : Program} {l : Launch} {e : Env} {R : Room} {s : State} {m : MethodId} {args : Array Value} {below : List Frame} {meth : Method} {c : Code} {H : Heap} {locs : List Loc} {cells slots : Nat} {Q : State → Prop} {cc : ByteArray} {pc nL : Nat} {ls : Array Slot} {rest : List Value} {ret : Option FieldType} {G : xG} {β N : Nat} {x : MS} {own : String} {i : Int32} {v : Int32} (C : Cx p s m args meth c own cc nL ret (KK G)) (hw : MW β G N x H) (hS : va_S (AM β) s.heap H locs) (hin : ib i 160) (hd : decode cc pc = .ok (.iastore, 1)) (kk : ∀ (H1 : Heap) (locs1 : List Loc), MW β G N (msA x 3 i.toNatClampNeg v) H1 → va_S (AM β) s.heap H1 locs1 → W p l e R s m args below meth c H1 locs1 cells slots Q (F0 m (pc + 1) ls (rest))) : W p l e R s m args below meth c H locs cells slots Q (F0 m pc ls (.int v :: .int i :: .ref (β + 3) :: rest)) :=
  x_iast C.1 C.2.1 C.K.1 hS 0 (hw.2 3 (by decide)) (AM.in (by decide)) rfl hin hd (fun H1 locs1 hat ho hS => kk H1 locs1 (hw.setA 3 _ _ hat ho) hS)
theorem pX9_270 {p : Program} {l : Launch} {e : Env} {R : Room} {s : State} {m : MethodId} {args : Array Value} {below : List Frame} {meth : Method} {c : Code} {H : Heap} {locs : List Loc} {cells slots : Nat} {Q : State → Prop} {cc : ByteArray} {pc nL : Nat} {ls : Array Slot} {rest : List Value} {ret : Option FieldType} {G : xG} {β N : Nat} {x : MS} {v : Int32} (C : Cx p s m args meth c RX9 cc nL ret (KK G)) (hw : MW β G N x H) (hS : va_S (AM β) s.heap H locs) (hd : decode cc pc = .ok (.putfield 270, 3)) (kk : ∀ (H1 : Heap) (locs1 : List Loc), MW β G N (msS x 0 6 v) H1 → va_S (AM β) s.heap H1 locs1 → W p l e R s m args below meth c H1 locs1 cells slots Q (F0 m (pc + 3) ls (rest))) : W p l e R s m args below meth c H locs cells slots Q (F0 m pc ls (.int v :: .ref β :: rest)) :=
  x_put C.1 C.2.1 C.2.2.2.2.1 iwX9 tyX9 tyX9_ok nmX9 C.2.2.2.1 C.K.1 hS (hw.2 0 (by decide)) (AM.in (by decide)) rfl 6 (by decide) (C.2.2.2.2.1 (.fieldLink RX9 270 RX9 "taped" "I") (tg 922 (by decide +kernel) rfl)) (fun _ h9 => h9) rfl (ty := .int) (by decide +kernel) rfl rfl (Nat.le_of_ble_eq_true rfl) hd (fun H1 locs1 hat ho hS => kk H1 locs1 (hw.setS 0 6 v hat ho) hS)
def BX9_feed_33 (q1 : Int32) (q2 : Int64) (lp : Int32 → MS → Option (MS)) (u4 : Int32) (x : MS) : Option (MS) := if q1 ≤ u4 then some x else if ib (x.1 0 6) 160 then lt (msA x 3 (x.1 0 6).toNatClampNeg (((q2 >>> ((8 * u4).toInt64 &&& 63)) &&& 255).toInt32)) fun x4 => lt (msS x4 0 6 ((x4.1 0 6) + 1)) fun x5 => lt (u4 + 1) fun v6 => lp v6 x5 else none
def LX9_feed_33 (q1 : Int32) (q2 : Int64) : Nat → Int32 → MS → Option (MS)
  | 0, _, _ => none
  | n + 1, u4, x => BX9_feed_33 q1 q2 (LX9_feed_33 q1 q2 n) u4 x
def fX9_feed (x : MS) (a1 : Int32) (a2 : Int64) : Option (Int32 × MS) := Option.bind (fX9_in (a1.toInt64) 1 8) fun v1 => if v1 = true then if ((x.1 0 6) + a1) ≤ 160 then Option.bind (LX9_feed_33 a1 a2 NF 0 x) fun x7 => some (x7.1 0 6, x7) else some ((-4), x) else some ((-2), x)
set_option maxHeartbeats 4000000 in
set_option maxRecDepth 100000 in
theorem lX9_feed_33 {p : Program} {l : Launch} {e : Env} {R : Room} {s : State} {m : MethodId} {args : Array Value} {below : List Frame} {meth : Method} {c : Code} {cells slots : Nat} {Q : State → Prop} {G : xG} {β N : Nat} (C : Cx p s m args meth c RX9 cX9_feed 5 (some .int) (KK G)) (hRf : 1 ≤ R.frames) (hRl : 25 ≤ R.locals) (hcs : cells ≤ R.cells ∧ slots ≤ R.slots) (q1 : Int32) (q2 : Int64) : ∀ (n : Nat) (u4 : Int32) (x : MS) (J : MS) (H : Heap) (locs : List Loc) (ls : Array Slot), LX9_feed_33 q1 q2 n u4 x = some J → MW β G N x H → va_S (AM β) s.heap H locs → lv_has ls 5 [(0, .ref β), (1, .int q1), (2, .long q2), (4, .int u4)] → (∀ (x1 : MS), J = x1 → ∀ (H : Heap) (locs : List Loc) (ls : Array Slot), MW β G N x1 H → va_S (AM β) s.heap H locs → lv_has ls 5 [(0, .ref β)] → W p l e R s m args below meth c H locs cells slots Q (F0 m 76 ls [])) → W p l e R s m args below meth c H locs cells slots Q (F0 m 33 ls []) := by
  have hx := C.1
  have hb := C.2.1
  have ho := C.2.2.2.1
  have hts := C.2.2.2.2.1
  intro n
  induction n with
  | zero =>
    intro u4 x J H locs ls hm
    exact absurd hm (by simp [LX9_feed_33])
  | succ n ih =>
    intro u4 x J H locs ls hm hw hS hl ke
    replace hm : BX9_feed_33 q1 q2 (LX9_feed_33 q1 q2 n) u4 x = some J := hm
    unfold BX9_feed_33 at hm
    refine lv_iload hx hb dX9_feed_33 (lv_at hl 3 rfl) ?_
    refine lv_iload_n hx hb dX9_feed_35 rfl (lv_at hl 1 rfl) ?_
    refine lv_icmp_ge (tgt := 76) hx hb dX9_feed_36 (by decide) (fun cc => ?_) (fun cc => ?_)
    · replace hm := ite_p cc hm
      exact ke _ (Option.some.inj hm).symm _ _ _ hw hS (lv_sub hl [0] rfl)
    · replace hm := ite_n cc hm
      refine lv_aload_n hx hb dX9_feed_39 rfl (lv_at hl 0 rfl) ?_
      refine gX9_20 C hw dX9_feed_40 ?_
      refine lv_aload_n hx hb dX9_feed_43 rfl (lv_at hl 0 rfl) ?_
      refine gX9_270 C hw dX9_feed_44 ?_
      refine lv_lload_n hx hb dX9_feed_47 rfl (lv_at hl 2 rfl) ?_
      refine lv_bipush (v := 8) hx hb dX9_feed_48 (by decide) ?_
      refine lv_iload hx hb dX9_feed_50 (lv_at hl 3 rfl) ?_
      refine lv_imul hx hb dX9_feed_52 ?_
      refine lv_lshr hx hb dX9_feed_53 rfl ?_
      refine lv_ldc2 (v := 255) hx hb ho (hts (.constantLong RX9 127 255) (tg 910 (by decide +kernel) rfl)) dX9_feed_54 ?_
      refine lv_land hx hb dX9_feed_57 ?_
      refine lv_l2i hx hb dX9_feed_58 rfl ?_
      obtain ⟨h3, hm⟩ := chk_e hm
      refine asM_3 C hw hS h3 dX9_feed_59 (fun H locs hw hS => ?_)
      obtain ⟨x4, ev, hm⟩ := lt_e hm
      rw [← ev] at hw
      clear ev
      refine lv_aload_n hx hb dX9_feed_60 rfl (lv_at hl 0 rfl) ?_
      refine lv_dup hx hb dX9_feed_61 rfl ?_
      refine gX9_270 C hw dX9_feed_62 ?_
      refine lv_iconst (v := 1) hx hb dX9_feed_65 (by decide) ?_
      refine lv_iadd hx hb dX9_feed_66 ?_
      refine pX9_270 C hw hS dX9_feed_67 (fun H locs hw hS => ?_)
      obtain ⟨x5, ev, hm⟩ := lt_e hm
      rw [← ev] at hw
      clear ev
      obtain ⟨v6, ev, hm⟩ := lt_e hm
      refine lv_iinc (v := v6) (lv' := [(4, .int v6), (0, .ref β), (1, .int q1), (2, .long q2)]) hx hb dX9_feed_70 hl (k := 3) rfl (by rw [ev]; rfl) (by decide) rfl (fun ls hl => ?_)
      clear ev
      refine lv_goto (tgt := 33) hx hb dX9_feed_73 (by decide) ?_
      exact ih _ _ _ _ _ _ hm hw hS (lv_sub hl [1, 2, 3, 0] rfl) ke
abbrev rmX9_feed : Room := { frames := 1, cells := 0, slots := 0, locals := 25 }
set_option maxHeartbeats 4000000 in
set_option maxRecDepth 100000 in
theorem kX9_feed {l : Launch} {G : xG} {β N : Nat} {x x' : MS} {a1 : Int32} {a2 : Int64} {r : Int32} (hm : fX9_feed x a1 a2 = some (r, x')) : Met l yX9_feed (.code yX9_feed cX9_feed 5 (some .int) :: GT) rmX9_feed (PcW [.ref β, .int a1, .long a2] (MW β G N x) (KK G)) (QcW (AM β) (some (.int r)) (MW β G N x')) 0 0 (AM β) := by
  unfold fX9_feed at hm
  refine xpro (own := RX9) (by decide +kernel) rfl (Nat.le_of_ble_eq_true rfl) ?_
  intro p e s m args below meth c C hw ls hl
  have hx := C.1
  have hb := C.2.1
  have ho := C.2.2.2.1
  have hts := C.2.2.2.2.1
  have hS : va_S (AM β) s.heap s.heap [] := va_S.rf
  have hl : lv_has ls 5 [(0, .ref β), (1, .int a1), (2, .long a2)] := hl
  have hRf : 1 ≤ rmX9_feed.frames := Nat.le_refl _
  have hRl : 25 ≤ rmX9_feed.locals := Nat.le_refl _
  have hcs : 0 ≤ rmX9_feed.cells ∧ 0 ≤ rmX9_feed.slots := ⟨Nat.le_refl _, Nat.le_refl _⟩
  refine lv_iload_n hx hb dX9_feed_0 rfl (lv_at hl 1 rfl) ?_
  refine lv_i2l hx hb dX9_feed_1 rfl ?_
  refine lv_lconst (v := 1) hx hb dX9_feed_2 (by decide) ?_
  refine lv_ldc2 (v := 8) hx hb ho (hts (.constantLong RX9 268 8) (tg 1333 (by decide +kernel) rfl)) dX9_feed_3 ?_
  obtain ⟨v1, h2, hm⟩ := bind_e hm
  refine sX9_132 C h2 hw hS hl.1 (Nat.le_of_ble_eq_true rfl) (Nat.le_trans (Nat.le_of_ble_eq_true rfl) hRf) (Nat.le_trans (Nat.le_of_ble_eq_true rfl) hRl) hcs dX9_feed_6 (fun H locs hw hS => ?_)
  refine x_ifneB hx hb dX9_feed_9 (tgt := 15) (by decide) (fun cc => ?_) (fun cc => ?_)
  · replace hm := ite_p cc hm
    refine lv_aload_n hx hb dX9_feed_15 rfl (lv_at hl 0 rfl) ?_
    refine gX9_270 C hw dX9_feed_16 ?_
    refine lv_iload_n hx hb dX9_feed_19 rfl (lv_at hl 1 rfl) ?_
    refine lv_iadd hx hb dX9_feed_20 ?_
    refine lv_sipush (v := 160) hx hb dX9_feed_21 (by decide) ?_
    refine lv_icmp_le (tgt := 30) hx hb dX9_feed_24 (by decide) (fun cc => ?_) (fun cc => ?_)
    · replace hm := ite_p cc hm
      refine lv_iconst (v := 0) hx hb dX9_feed_30 (by decide) ?_
      refine lv_istore (lv' := [(4, .int 0), (0, .ref β), (1, .int a1), (2, .long a2)]) hx hb dX9_feed_31 hl (by decide) rfl (fun ls hl => ?_)
      obtain ⟨x7, hj, hm⟩ := bind_e hm
      refine lX9_feed_33 C hRf hRl hcs a1 a2 NF _ _ _ _ _ _ hj hw hS (lv_sub hl [1, 2, 3, 0] rfl) (fun x7_ e0 H locs ls hw hS hl => ?_)
      cases e0
      refine lv_aload_n hx hb dX9_feed_76 rfl (lv_at hl 0 rfl) ?_
      refine gX9_270 C hw dX9_feed_77 ?_
      obtain ⟨rfl, rfl⟩ := inj2 hm
      exact xret_i C hw hS dX9_feed_80
    · replace hm := ite_n cc hm
      refine lv_bipush (v := (-4)) hx hb dX9_feed_27 (by decide) ?_
      obtain ⟨rfl, rfl⟩ := inj2 hm
      exact xret_i C hw hS dX9_feed_29
  · replace hm := ite_n cc hm
    refine lv_bipush (v := (-2)) hx hb dX9_feed_12 (by decide) ?_
    obtain ⟨rfl, rfl⟩ := inj2 hm
    exact xret_i C hw hS dX9_feed_14
theorem dX9_byteAt_0 : decode cX9_byteAt 0 = .ok (.iload_n 1, 1) := by decide +kernel
theorem dX9_byteAt_1 : decode cX9_byteAt 1 = .ok (.aload_n 0, 1) := by decide +kernel
theorem dX9_byteAt_2 : decode cX9_byteAt 2 = .ok (.getfield 273, 3) := by decide +kernel
theorem dX9_byteAt_5 : decode cX9_byteAt 5 = .ok (.if_icmp .ge 17, 3) := by decide +kernel
theorem dX9_byteAt_8 : decode cX9_byteAt 8 = .ok (.aload_n 0, 1) := by decide +kernel
theorem dX9_byteAt_9 : decode cX9_byteAt 9 = .ok (.getfield 13, 3) := by decide +kernel
theorem dX9_byteAt_12 : decode cX9_byteAt 12 = .ok (.aload_n 0, 1) := by decide +kernel
theorem dX9_byteAt_13 : decode cX9_byteAt 13 = .ok (.getfield 276, 3) := by decide +kernel
theorem dX9_byteAt_16 : decode cX9_byteAt 16 = .ok (.iload_n 1, 1) := by decide +kernel
theorem dX9_byteAt_17 : decode cX9_byteAt 17 = .ok (.iadd, 1) := by decide +kernel
theorem dX9_byteAt_18 : decode cX9_byteAt 18 = .ok (.iaload, 1) := by decide +kernel
theorem dX9_byteAt_19 : decode cX9_byteAt 19 = .ok (.goto 4, 3) := by decide +kernel
theorem dX9_byteAt_22 : decode cX9_byteAt 22 = .ok (.iconst (-1), 1) := by decide +kernel
theorem dX9_byteAt_23 : decode cX9_byteAt 23 = .ok (.ireturn, 1) := by decide +kernel
theorem gX9_273 {p : Program} {l : Launch} {e : Env} {R : Room} {s : State} {m : MethodId} {args : Array Value} {below : List Frame} {meth : Method} {c : Code} {H : Heap} {locs : List Loc} {cells slots : Nat} {Q : State → Prop} {cc : ByteArray} {pc nL : Nat} {ls : Array Slot} {rest : List Value} {ret : Option FieldType} {G : xG} {β N : Nat} {x : MS} (C : Cx p s m args meth c RX9 cc nL ret (KK G)) (hw : MW β G N x H) (hd : decode cc pc = .ok (.getfield 273, 3)) (kk : W p l e R s m args below meth c H locs cells slots Q (F0 m (pc + 3) ls (.int (x.1 0 23) :: rest))) : W p l e R s m args below meth c H locs cells slots Q (F0 m pc ls (.ref β :: rest)) :=
  va_get C.1 C.2.1 C.2.2.2.2.1 iwX9 C.2.2.2.1 C.K.1 (xP1 (hw.2 0 (by decide))) 0 rfl rfl 23 (by decide) (C.2.2.2.2.1 (.fieldLink RX9 273 RX9 "size" "I") (tg 939 (by decide +kernel) rfl)) (fun _ h9 => h9) rfl hd kk
theorem gX9_276 {p : Program} {l : Launch} {e : Env} {R : Room} {s : State} {m : MethodId} {args : Array Value} {below : List Frame} {meth : Method} {c : Code} {H : Heap} {locs : List Loc} {cells slots : Nat} {Q : State → Prop} {cc : ByteArray} {pc nL : Nat} {ls : Array Slot} {rest : List Value} {ret : Option FieldType} {G : xG} {β N : Nat} {x : MS} (C : Cx p s m args meth c RX9 cc nL ret (KK G)) (hw : MW β G N x H) (hd : decode cc pc = .ok (.getfield 276, 3)) (kk : W p l e R s m args below meth c H locs cells slots Q (F0 m (pc + 3) ls (.int (x.1 0 22) :: rest))) : W p l e R s m args below meth c H locs cells slots Q (F0 m pc ls (.ref β :: rest)) :=
  va_get C.1 C.2.1 C.2.2.2.2.1 iwX9 C.2.2.2.1 C.K.1 (xP1 (hw.2 0 (by decide))) 0 rfl rfl 22 (by decide) (C.2.2.2.2.1 (.fieldLink RX9 276 RX9 "from" "I") (tg 938 (by decide +kernel) rfl)) (fun _ h9 => h9) rfl hd kk
theorem alM_1 {p : Program} {l : Launch} {e : Env} {R : Room} {s : State} {m : MethodId} {args : Array Value} {below : List Frame} {meth : Method} {c : Code} {H : Heap} {locs : List Loc} {cells slots : Nat} {Q : State → Prop} {cc : ByteArray} {pc nL : Nat} {ls : Array Slot} {rest : List Value} {ret : Option FieldType} {G : xG} {β N : Nat} {x : MS} {own : String} {i : Int32} (C : Cx p s m args meth c own cc nL ret (KK G)) (hw : MW β G N x H) (hin : ib i 960) (hd : decode cc pc = .ok (.iaload, 1)) (kk : W p l e R s m args below meth c H locs cells slots Q (F0 m (pc + 1) ls (.int (x.2.1 1 i.toNatClampNeg) :: rest))) : W p l e R s m args below meth c H locs cells slots Q (F0 m pc ls (.int i :: .ref (β + 1) :: rest)) :=
  va_iald C.1 C.2.1 C.K.1 (xP1 (hw.2 1 (by decide))) 0 0 rfl rfl hin hd kk
def fX9_byteAt (x : MS) (a1 : Int32) : Option (Int32) := if (x.1 0 23) ≤ a1 then some (-1) else if ib ((x.1 0 22) + a1) 960 then some (x.2.1 1 ((x.1 0 22) + a1).toNatClampNeg) else none
abbrev rmX9_byteAt : Room := { frames := 0, cells := 0, slots := 0, locals := 0 }
set_option maxHeartbeats 4000000 in
set_option maxRecDepth 100000 in
theorem kX9_byteAt {l : Launch} {G : xG} {β N : Nat} {x : MS} {a1 : Int32} {r : Int32} (hm : fX9_byteAt x a1 = some r) : Met l yX9_byteAt (.code yX9_byteAt cX9_byteAt 2 (some .int) :: GT) rmX9_byteAt (PcW [.ref β, .int a1] (MW β G N x) (KK G)) (QcW (AM β) (some (.int r)) (MW β G N x)) 0 0 (AM β) := by
  unfold fX9_byteAt at hm
  refine xpro (own := RX9) (by decide +kernel) rfl (Nat.le_of_ble_eq_true rfl) ?_
  intro p e s m args below meth c C hw ls hl
  have hx := C.1
  have hb := C.2.1
  have ho := C.2.2.2.1
  have hts := C.2.2.2.2.1
  have hS : va_S (AM β) s.heap s.heap [] := va_S.rf
  have hl : lv_has ls 2 [(0, .ref β), (1, .int a1)] := hl
  have hRf : 0 ≤ rmX9_byteAt.frames := Nat.le_refl _
  have hRl : 0 ≤ rmX9_byteAt.locals := Nat.le_refl _
  have hcs : 0 ≤ rmX9_byteAt.cells ∧ 0 ≤ rmX9_byteAt.slots := ⟨Nat.le_refl _, Nat.le_refl _⟩
  refine lv_iload_n hx hb dX9_byteAt_0 rfl (lv_at hl 1 rfl) ?_
  refine lv_aload_n hx hb dX9_byteAt_1 rfl (lv_at hl 0 rfl) ?_
  refine gX9_273 C hw dX9_byteAt_2 ?_
  refine lv_icmp_ge (tgt := 22) hx hb dX9_byteAt_5 (by decide) (fun cc => ?_) (fun cc => ?_)
  · replace hm := ite_p cc hm
    refine lv_iconst (v := (-1)) hx hb dX9_byteAt_22 (by decide) ?_
    obtain rfl := Option.some.inj hm
    exact xret_i C hw hS dX9_byteAt_23
  · replace hm := ite_n cc hm
    refine lv_aload_n hx hb dX9_byteAt_8 rfl (lv_at hl 0 rfl) ?_
    refine gX9_13 C hw dX9_byteAt_9 ?_
    refine lv_aload_n hx hb dX9_byteAt_12 rfl (lv_at hl 0 rfl) ?_
    refine gX9_276 C hw dX9_byteAt_13 ?_
    refine lv_iload_n hx hb dX9_byteAt_16 rfl (lv_at hl 1 rfl) ?_
    refine lv_iadd hx hb dX9_byteAt_17 ?_
    obtain ⟨h1, hm⟩ := chk_e hm
    refine alM_1 C hw h1 dX9_byteAt_18 ?_
    refine lv_goto (tgt := 23) hx hb dX9_byteAt_19 (by decide) ?_
    obtain rfl := Option.some.inj hm
    exact xret_i C hw hS dX9_byteAt_23
theorem dX9_next_0 : decode cX9_next 0 = .ok (.aload_n 0, 1) := by decide +kernel
theorem dX9_next_1 : decode cX9_next 1 = .ok (.aload_n 0, 1) := by decide +kernel
theorem dX9_next_2 : decode cX9_next 2 = .ok (.getfield 279, 3) := by decide +kernel
theorem dX9_next_5 : decode cX9_next 5 = .ok (.invokevirtual 282, 3) := by decide +kernel
theorem dX9_next_8 : decode cX9_next 8 = .ok (.bipush 32, 2) := by decide +kernel
theorem dX9_next_10 : decode cX9_next 10 = .ok (.if_icmp .eq 16, 3) := by decide +kernel
theorem dX9_next_13 : decode cX9_next 13 = .ok (.aload_n 0, 1) := by decide +kernel
theorem dX9_next_14 : decode cX9_next 14 = .ok (.aload_n 0, 1) := by decide +kernel
theorem dX9_next_15 : decode cX9_next 15 = .ok (.getfield 279, 3) := by decide +kernel
theorem dX9_next_18 : decode cX9_next 18 = .ok (.invokevirtual 282, 3) := by decide +kernel
theorem dX9_next_21 : decode cX9_next 21 = .ok (.bipush 10, 2) := by decide +kernel
theorem dX9_next_23 : decode cX9_next 23 = .ok (.if_icmp .ne 16, 3) := by decide +kernel
theorem dX9_next_26 : decode cX9_next 26 = .ok (.aload_n 0, 1) := by decide +kernel
theorem dX9_next_27 : decode cX9_next 27 = .ok (.dup, 1) := by decide +kernel
theorem dX9_next_28 : decode cX9_next 28 = .ok (.getfield 279, 3) := by decide +kernel
theorem dX9_next_31 : decode cX9_next 31 = .ok (.iconst 1, 1) := by decide +kernel
theorem dX9_next_32 : decode cX9_next 32 = .ok (.iadd, 1) := by decide +kernel
theorem dX9_next_33 : decode cX9_next 33 = .ok (.putfield 279, 3) := by decide +kernel
theorem dX9_next_36 : decode cX9_next 36 = .ok (.goto (-36), 3) := by decide +kernel
theorem dX9_next_39 : decode cX9_next 39 = .ok (.aload_n 0, 1) := by decide +kernel
theorem dX9_next_40 : decode cX9_next 40 = .ok (.aload_n 0, 1) := by decide +kernel
theorem dX9_next_41 : decode cX9_next 41 = .ok (.getfield 279, 3) := by decide +kernel
theorem dX9_next_44 : decode cX9_next 44 = .ok (.putfield 285, 3) := by decide +kernel
theorem dX9_next_47 : decode cX9_next 47 = .ok (.aload_n 0, 1) := by decide +kernel
theorem dX9_next_48 : decode cX9_next 48 = .ok (.aload_n 0, 1) := by decide +kernel
theorem dX9_next_49 : decode cX9_next 49 = .ok (.getfield 279, 3) := by decide +kernel
theorem dX9_next_52 : decode cX9_next 52 = .ok (.invokevirtual 282, 3) := by decide +kernel
theorem dX9_next_55 : decode cX9_next 55 = .ok (.istore_n 1, 1) := by decide +kernel
theorem dX9_next_56 : decode cX9_next 56 = .ok (.aload_n 0, 1) := by decide +kernel
theorem dX9_next_57 : decode cX9_next 57 = .ok (.iconst 4, 1) := by decide +kernel
theorem dX9_next_58 : decode cX9_next 58 = .ok (.putfield 288, 3) := by decide +kernel
theorem dX9_next_61 : decode cX9_next 61 = .ok (.iload_n 1, 1) := by decide +kernel
theorem dX9_next_62 : decode cX9_next 62 = .ok (.ifCond .ge 19, 3) := by decide +kernel
theorem dX9_next_65 : decode cX9_next 65 = .ok (.aload_n 0, 1) := by decide +kernel
theorem dX9_next_66 : decode cX9_next 66 = .ok (.iconst 0, 1) := by decide +kernel
theorem dX9_next_67 : decode cX9_next 67 = .ok (.putfield 288, 3) := by decide +kernel
theorem dX9_next_70 : decode cX9_next 70 = .ok (.aload_n 0, 1) := by decide +kernel
theorem dX9_next_71 : decode cX9_next 71 = .ok (.aload_n 0, 1) := by decide +kernel
theorem dX9_next_72 : decode cX9_next 72 = .ok (.getfield 273, 3) := by decide +kernel
theorem dX9_next_75 : decode cX9_next 75 = .ok (.putfield 285, 3) := by decide +kernel
theorem dX9_next_78 : decode cX9_next 78 = .ok (.goto 294, 3) := by decide +kernel
theorem dX9_next_81 : decode cX9_next 81 = .ok (.iload_n 1, 1) := by decide +kernel
theorem dX9_next_82 : decode cX9_next 82 = .ok (.i2l, 1) := by decide +kernel
theorem dX9_next_83 : decode cX9_next 83 = .ok (.ldc2_w 291, 3) := by decide +kernel
theorem dX9_next_86 : decode cX9_next 86 = .ok (.ldc2_w 293, 3) := by decide +kernel
theorem dX9_next_89 : decode cX9_next 89 = .ok (.invokestatic 132, 3) := by decide +kernel
theorem dX9_next_92 : decode cX9_next 92 = .ok (.ifCond .eq 93, 3) := by decide +kernel
theorem dX9_next_95 : decode cX9_next 95 = .ok (.aload_n 0, 1) := by decide +kernel
theorem dX9_next_96 : decode cX9_next 96 = .ok (.iconst 1, 1) := by decide +kernel
theorem dX9_next_97 : decode cX9_next 97 = .ok (.putfield 288, 3) := by decide +kernel
theorem dX9_next_100 : decode cX9_next 100 = .ok (.aload_n 0, 1) := by decide +kernel
theorem dX9_next_101 : decode cX9_next 101 = .ok (.lconst 0, 1) := by decide +kernel
theorem dX9_next_102 : decode cX9_next 102 = .ok (.putfield 295, 3) := by decide +kernel
theorem dX9_next_105 : decode cX9_next 105 = .ok (.iconst 0, 1) := by decide +kernel
theorem dX9_next_106 : decode cX9_next 106 = .ok (.istore_n 2, 1) := by decide +kernel
theorem dX9_next_107 : decode cX9_next 107 = .ok (.aload_n 0, 1) := by decide +kernel
theorem dX9_next_108 : decode cX9_next 108 = .ok (.aload_n 0, 1) := by decide +kernel
theorem dX9_next_109 : decode cX9_next 109 = .ok (.getfield 279, 3) := by decide +kernel
theorem dX9_next_112 : decode cX9_next 112 = .ok (.invokevirtual 282, 3) := by decide +kernel
theorem dX9_next_115 : decode cX9_next 115 = .ok (.i2l, 1) := by decide +kernel
theorem dX9_next_116 : decode cX9_next 116 = .ok (.ldc2_w 291, 3) := by decide +kernel
theorem dX9_next_119 : decode cX9_next 119 = .ok (.ldc2_w 293, 3) := by decide +kernel
theorem dX9_next_122 : decode cX9_next 122 = .ok (.invokestatic 132, 3) := by decide +kernel
theorem dX9_next_125 : decode cX9_next 125 = .ok (.ifCond .eq 57, 3) := by decide +kernel
theorem dX9_next_128 : decode cX9_next 128 = .ok (.aload_n 0, 1) := by decide +kernel
theorem dX9_next_129 : decode cX9_next 129 = .ok (.iload_n 2, 1) := by decide +kernel
theorem dX9_next_130 : decode cX9_next 130 = .ok (.bipush 8, 2) := by decide +kernel
theorem dX9_next_132 : decode cX9_next 132 = .ok (.if_icmp .ge 28, 3) := by decide +kernel
theorem dX9_next_135 : decode cX9_next 135 = .ok (.ldc2_w 299, 3) := by decide +kernel
theorem dX9_next_138 : decode cX9_next 138 = .ok (.aload_n 0, 1) := by decide +kernel
theorem dX9_next_139 : decode cX9_next 139 = .ok (.getfield 295, 3) := by decide +kernel
theorem dX9_next_142 : decode cX9_next 142 = .ok (.lmul, 1) := by decide +kernel
theorem dX9_next_143 : decode cX9_next 143 = .ok (.aload_n 0, 1) := by decide +kernel
theorem dX9_next_144 : decode cX9_next 144 = .ok (.aload_n 0, 1) := by decide +kernel
theorem dX9_next_145 : decode cX9_next 145 = .ok (.getfield 279, 3) := by decide +kernel
theorem dX9_next_148 : decode cX9_next 148 = .ok (.invokevirtual 282, 3) := by decide +kernel
theorem dX9_next_151 : decode cX9_next 151 = .ok (.i2l, 1) := by decide +kernel
theorem dX9_next_152 : decode cX9_next 152 = .ok (.ladd, 1) := by decide +kernel
theorem dX9_next_153 : decode cX9_next 153 = .ok (.ldc2_w 301, 3) := by decide +kernel
theorem dX9_next_156 : decode cX9_next 156 = .ok (.lsub, 1) := by decide +kernel
theorem dX9_next_157 : decode cX9_next 157 = .ok (.goto 6, 3) := by decide +kernel
theorem dX9_next_160 : decode cX9_next 160 = .ok (.ldc2_w 257, 3) := by decide +kernel
theorem dX9_next_163 : decode cX9_next 163 = .ok (.putfield 295, 3) := by decide +kernel
theorem dX9_next_166 : decode cX9_next 166 = .ok (.iinc 2 1, 3) := by decide +kernel
theorem dX9_next_169 : decode cX9_next 169 = .ok (.aload_n 0, 1) := by decide +kernel
theorem dX9_next_170 : decode cX9_next 170 = .ok (.dup, 1) := by decide +kernel
theorem dX9_next_171 : decode cX9_next 171 = .ok (.getfield 279, 3) := by decide +kernel
theorem dX9_next_174 : decode cX9_next 174 = .ok (.iconst 1, 1) := by decide +kernel
theorem dX9_next_175 : decode cX9_next 175 = .ok (.iadd, 1) := by decide +kernel
theorem dX9_next_176 : decode cX9_next 176 = .ok (.putfield 279, 3) := by decide +kernel
theorem dX9_next_179 : decode cX9_next 179 = .ok (.goto (-72), 3) := by decide +kernel
theorem dX9_next_182 : decode cX9_next 182 = .ok (.goto 190, 3) := by decide +kernel
theorem dX9_next_185 : decode cX9_next 185 = .ok (.iload_n 1, 1) := by decide +kernel
theorem dX9_next_186 : decode cX9_next 186 = .ok (.i2l, 1) := by decide +kernel
theorem dX9_next_187 : decode cX9_next 187 = .ok (.ldc2_w 303, 3) := by decide +kernel
theorem dX9_next_190 : decode cX9_next 190 = .ok (.ldc2_w 305, 3) := by decide +kernel
theorem dX9_next_193 : decode cX9_next 193 = .ok (.invokestatic 132, 3) := by decide +kernel
theorem dX9_next_196 : decode cX9_next 196 = .ok (.ifCond .eq 107, 3) := by decide +kernel
theorem dX9_next_199 : decode cX9_next 199 = .ok (.aload_n 0, 1) := by decide +kernel
theorem dX9_next_200 : decode cX9_next 200 = .ok (.iconst 2, 1) := by decide +kernel
theorem dX9_next_201 : decode cX9_next 201 = .ok (.putfield 288, 3) := by decide +kernel
theorem dX9_next_204 : decode cX9_next 204 = .ok (.aload_n 0, 1) := by decide +kernel
theorem dX9_next_205 : decode cX9_next 205 = .ok (.lconst 0, 1) := by decide +kernel
theorem dX9_next_206 : decode cX9_next 206 = .ok (.putfield 295, 3) := by decide +kernel
theorem dX9_next_209 : decode cX9_next 209 = .ok (.iconst 0, 1) := by decide +kernel
theorem dX9_next_210 : decode cX9_next 210 = .ok (.istore_n 2, 1) := by decide +kernel
theorem dX9_next_211 : decode cX9_next 211 = .ok (.aload_n 0, 1) := by decide +kernel
theorem dX9_next_212 : decode cX9_next 212 = .ok (.aload_n 0, 1) := by decide +kernel
theorem dX9_next_213 : decode cX9_next 213 = .ok (.getfield 279, 3) := by decide +kernel
theorem dX9_next_216 : decode cX9_next 216 = .ok (.invokevirtual 282, 3) := by decide +kernel
theorem dX9_next_219 : decode cX9_next 219 = .ok (.i2l, 1) := by decide +kernel
theorem dX9_next_220 : decode cX9_next 220 = .ok (.ldc2_w 303, 3) := by decide +kernel
theorem dX9_next_223 : decode cX9_next 223 = .ok (.ldc2_w 305, 3) := by decide +kernel
theorem dX9_next_226 : decode cX9_next 226 = .ok (.invokestatic 132, 3) := by decide +kernel
theorem dX9_next_229 : decode cX9_next 229 = .ok (.ifCond .eq 57, 3) := by decide +kernel
theorem dX9_next_232 : decode cX9_next 232 = .ok (.aload_n 0, 1) := by decide +kernel
theorem dX9_next_233 : decode cX9_next 233 = .ok (.iload_n 2, 1) := by decide +kernel
theorem dX9_next_234 : decode cX9_next 234 = .ok (.iconst 4, 1) := by decide +kernel
theorem dX9_next_235 : decode cX9_next 235 = .ok (.if_icmp .ge 28, 3) := by decide +kernel
theorem dX9_next_238 : decode cX9_next 238 = .ok (.ldc2_w 307, 3) := by decide +kernel
theorem dX9_next_241 : decode cX9_next 241 = .ok (.aload_n 0, 1) := by decide +kernel
theorem dX9_next_242 : decode cX9_next 242 = .ok (.getfield 295, 3) := by decide +kernel
theorem dX9_next_245 : decode cX9_next 245 = .ok (.lmul, 1) := by decide +kernel
theorem dX9_next_246 : decode cX9_next 246 = .ok (.aload_n 0, 1) := by decide +kernel
theorem dX9_next_247 : decode cX9_next 247 = .ok (.aload_n 0, 1) := by decide +kernel
theorem dX9_next_248 : decode cX9_next 248 = .ok (.getfield 279, 3) := by decide +kernel
theorem dX9_next_251 : decode cX9_next 251 = .ok (.invokevirtual 282, 3) := by decide +kernel
theorem dX9_next_254 : decode cX9_next 254 = .ok (.i2l, 1) := by decide +kernel
theorem dX9_next_255 : decode cX9_next 255 = .ok (.ladd, 1) := by decide +kernel
theorem dX9_next_256 : decode cX9_next 256 = .ok (.ldc2_w 303, 3) := by decide +kernel
theorem dX9_next_259 : decode cX9_next 259 = .ok (.lsub, 1) := by decide +kernel
theorem dX9_next_260 : decode cX9_next 260 = .ok (.goto 7, 3) := by decide +kernel
theorem dX9_next_263 : decode cX9_next 263 = .ok (.aload_n 0, 1) := by decide +kernel
theorem dX9_next_264 : decode cX9_next 264 = .ok (.getfield 295, 3) := by decide +kernel
theorem dX9_next_267 : decode cX9_next 267 = .ok (.putfield 295, 3) := by decide +kernel
theorem dX9_next_270 : decode cX9_next 270 = .ok (.iinc 2 1, 3) := by decide +kernel
theorem dX9_next_273 : decode cX9_next 273 = .ok (.aload_n 0, 1) := by decide +kernel
theorem dX9_next_274 : decode cX9_next 274 = .ok (.dup, 1) := by decide +kernel
theorem dX9_next_275 : decode cX9_next 275 = .ok (.getfield 279, 3) := by decide +kernel
theorem dX9_next_278 : decode cX9_next 278 = .ok (.iconst 1, 1) := by decide +kernel
theorem dX9_next_279 : decode cX9_next 279 = .ok (.iadd, 1) := by decide +kernel
theorem dX9_next_280 : decode cX9_next 280 = .ok (.putfield 279, 3) := by decide +kernel
theorem dX9_next_283 : decode cX9_next 283 = .ok (.goto (-72), 3) := by decide +kernel
theorem dX9_next_286 : decode cX9_next 286 = .ok (.aload_n 0, 1) := by decide +kernel
theorem dX9_next_287 : decode cX9_next 287 = .ok (.iload_n 2, 1) := by decide +kernel
theorem dX9_next_288 : decode cX9_next 288 = .ok (.iconst 4, 1) := by decide +kernel
theorem dX9_next_289 : decode cX9_next 289 = .ok (.if_icmp .le 7, 3) := by decide +kernel
theorem dX9_next_292 : decode cX9_next 292 = .ok (.iconst 4, 1) := by decide +kernel
theorem dX9_next_293 : decode cX9_next 293 = .ok (.goto 4, 3) := by decide +kernel
theorem dX9_next_296 : decode cX9_next 296 = .ok (.iconst 2, 1) := by decide +kernel
theorem dX9_next_297 : decode cX9_next 297 = .ok (.putfield 288, 3) := by decide +kernel
theorem dX9_next_300 : decode cX9_next 300 = .ok (.goto 72, 3) := by decide +kernel
theorem dX9_next_303 : decode cX9_next 303 = .ok (.iload_n 1, 1) := by decide +kernel
theorem dX9_next_304 : decode cX9_next 304 = .ok (.bipush 40, 2) := by decide +kernel
theorem dX9_next_306 : decode cX9_next 306 = .ok (.if_icmp .eq 45, 3) := by decide +kernel
theorem dX9_next_309 : decode cX9_next 309 = .ok (.iload_n 1, 1) := by decide +kernel
theorem dX9_next_310 : decode cX9_next 310 = .ok (.bipush 41, 2) := by decide +kernel
theorem dX9_next_312 : decode cX9_next 312 = .ok (.if_icmp .eq 39, 3) := by decide +kernel
theorem dX9_next_315 : decode cX9_next 315 = .ok (.iload_n 1, 1) := by decide +kernel
theorem dX9_next_316 : decode cX9_next 316 = .ok (.bipush 59, 2) := by decide +kernel
theorem dX9_next_318 : decode cX9_next 318 = .ok (.if_icmp .eq 33, 3) := by decide +kernel
theorem dX9_next_321 : decode cX9_next 321 = .ok (.iload_n 1, 1) := by decide +kernel
theorem dX9_next_322 : decode cX9_next 322 = .ok (.bipush 43, 2) := by decide +kernel
theorem dX9_next_324 : decode cX9_next 324 = .ok (.if_icmp .eq 27, 3) := by decide +kernel
theorem dX9_next_327 : decode cX9_next 327 = .ok (.iload_n 1, 1) := by decide +kernel
theorem dX9_next_328 : decode cX9_next 328 = .ok (.bipush 45, 2) := by decide +kernel
theorem dX9_next_330 : decode cX9_next 330 = .ok (.if_icmp .eq 21, 3) := by decide +kernel
theorem dX9_next_333 : decode cX9_next 333 = .ok (.iload_n 1, 1) := by decide +kernel
theorem dX9_next_334 : decode cX9_next 334 = .ok (.bipush 42, 2) := by decide +kernel
theorem dX9_next_336 : decode cX9_next 336 = .ok (.if_icmp .eq 15, 3) := by decide +kernel
theorem dX9_next_339 : decode cX9_next 339 = .ok (.iload_n 1, 1) := by decide +kernel
theorem dX9_next_340 : decode cX9_next 340 = .ok (.bipush 60, 2) := by decide +kernel
theorem dX9_next_342 : decode cX9_next 342 = .ok (.if_icmp .eq 9, 3) := by decide +kernel
theorem dX9_next_345 : decode cX9_next 345 = .ok (.iload_n 1, 1) := by decide +kernel
theorem dX9_next_346 : decode cX9_next 346 = .ok (.bipush 61, 2) := by decide +kernel
theorem dX9_next_348 : decode cX9_next 348 = .ok (.if_icmp .ne 24, 3) := by decide +kernel
theorem dX9_next_351 : decode cX9_next 351 = .ok (.aload_n 0, 1) := by decide +kernel
theorem dX9_next_352 : decode cX9_next 352 = .ok (.iconst 3, 1) := by decide +kernel
theorem dX9_next_353 : decode cX9_next 353 = .ok (.putfield 288, 3) := by decide +kernel
theorem dX9_next_356 : decode cX9_next 356 = .ok (.aload_n 0, 1) := by decide +kernel
theorem dX9_next_357 : decode cX9_next 357 = .ok (.iload_n 1, 1) := by decide +kernel
theorem dX9_next_358 : decode cX9_next 358 = .ok (.i2l, 1) := by decide +kernel
theorem dX9_next_359 : decode cX9_next 359 = .ok (.putfield 295, 3) := by decide +kernel
theorem dX9_next_362 : decode cX9_next 362 = .ok (.aload_n 0, 1) := by decide +kernel
theorem dX9_next_363 : decode cX9_next 363 = .ok (.dup, 1) := by decide +kernel
theorem dX9_next_364 : decode cX9_next 364 = .ok (.getfield 279, 3) := by decide +kernel
theorem dX9_next_367 : decode cX9_next 367 = .ok (.iconst 1, 1) := by decide +kernel
theorem dX9_next_368 : decode cX9_next 368 = .ok (.iadd, 1) := by decide +kernel
theorem dX9_next_369 : decode cX9_next 369 = .ok (.putfield 279, 3) := by decide +kernel
theorem dX9_next_372 : decode cX9_next 372 = .ok (.return_, 1) := by decide +kernel
theorem gX9_279 {p : Program} {l : Launch} {e : Env} {R : Room} {s : State} {m : MethodId} {args : Array Value} {below : List Frame} {meth : Method} {c : Code} {H : Heap} {locs : List Loc} {cells slots : Nat} {Q : State → Prop} {cc : ByteArray} {pc nL : Nat} {ls : Array Slot} {rest : List Value} {ret : Option FieldType} {G : xG} {β N : Nat} {x : MS} (C : Cx p s m args meth c RX9 cc nL ret (KK G)) (hw : MW β G N x H) (hd : decode cc pc = .ok (.getfield 279, 3)) (kk : W p l e R s m args below meth c H locs cells slots Q (F0 m (pc + 3) ls (.int (x.1 0 27) :: rest))) : W p l e R s m args below meth c H locs cells slots Q (F0 m pc ls (.ref β :: rest)) :=
  va_get C.1 C.2.1 C.2.2.2.2.1 iwX9 C.2.2.2.1 C.K.1 (xP1 (hw.2 0 (by decide))) 0 rfl rfl 27 (by decide) (C.2.2.2.2.1 (.fieldLink RX9 279 RX9 "here" "I") (tg 943 (by decide +kernel) rfl)) (fun _ h9 => h9) rfl hd kk
theorem sX9_282 {p : Program} {l : Launch} {e : Env} {R : Room} {s : State} {m : MethodId} {args : Array Value} {below : List Frame} {meth : Method} {c : Code} {H : Heap} {locs : List Loc} {cells slots : Nat} {Q : State → Prop} {cc : ByteArray} {pc nL : Nat} {ls : Array Slot} {rest : List Value} {ret : Option FieldType} {G : xG} {β N : Nat} {x : MS} {a1 : Int32} {r : Int32} (C : Cx p s m args meth c RX9 cc nL ret (KK G)) (h : fX9_byteAt x a1 = some r) (hw : MW β G N x H) (hS : va_S (AM β) s.heap H locs) (hsz : ls.size = nL) (hW : (rest.map fun v => v.category).sum ≤ 8) (hR : 1 ≤ R.frames) (hR2 : 21 ≤ R.locals) (hcs : cells ≤ R.cells ∧ slots ≤ R.slots) (hd : decode cc pc = .ok (.invokevirtual 282, 3)) (kk : ∀ (H1 : Heap) (locs1 : List Loc), MW β G N x H1 → va_S (AM β) s.heap H1 locs1 → W p l e R s m args below meth c H1 locs1 cells slots Q (F0 m (pc + 3) ls (.int r :: rest))) : W p l e R s m args below meth c H locs cells slots Q (F0 m pc ls (.int a1 :: .ref β :: rest)) :=
  xcallV C (As := [.int a1]) (rest := rest) (nA := 1) (ci := 9) (kX9_byteAt h) (tg 1156 (by decide +kernel) rfl) (tg 1158 (by decide +kernel) rfl) (sg (List.mem_of_getElem? (i := 62) (by decide +kernel)) rfl) (tg 14 (by decide +kernel) rfl) (tg 1159 (by decide +kernel) rfl) ⟨rfl, by decide +kernel, by decide +kernel, by decide +kernel⟩ rfl rfl rfl ⟨hR, hR2⟩ (hw.2 0 (by decide)) hw hS (fun _ q => q) rfl rfl hsz hW hd hcs (fun H1 locs1 hw hz hk hS => kk H1 locs1 hw hS)
theorem pX9_279 {p : Program} {l : Launch} {e : Env} {R : Room} {s : State} {m : MethodId} {args : Array Value} {below : List Frame} {meth : Method} {c : Code} {H : Heap} {locs : List Loc} {cells slots : Nat} {Q : State → Prop} {cc : ByteArray} {pc nL : Nat} {ls : Array Slot} {rest : List Value} {ret : Option FieldType} {G : xG} {β N : Nat} {x : MS} {v : Int32} (C : Cx p s m args meth c RX9 cc nL ret (KK G)) (hw : MW β G N x H) (hS : va_S (AM β) s.heap H locs) (hd : decode cc pc = .ok (.putfield 279, 3)) (kk : ∀ (H1 : Heap) (locs1 : List Loc), MW β G N (msS x 0 27 v) H1 → va_S (AM β) s.heap H1 locs1 → W p l e R s m args below meth c H1 locs1 cells slots Q (F0 m (pc + 3) ls (rest))) : W p l e R s m args below meth c H locs cells slots Q (F0 m pc ls (.int v :: .ref β :: rest)) :=
  x_put C.1 C.2.1 C.2.2.2.2.1 iwX9 tyX9 tyX9_ok nmX9 C.2.2.2.1 C.K.1 hS (hw.2 0 (by decide)) (AM.in (by decide)) rfl 27 (by decide) (C.2.2.2.2.1 (.fieldLink RX9 279 RX9 "here" "I") (tg 943 (by decide +kernel) rfl)) (fun _ h9 => h9) rfl (ty := .int) (by decide +kernel) rfl rfl (Nat.le_of_ble_eq_true rfl) hd (fun H1 locs1 hat ho hS => kk H1 locs1 (hw.setS 0 27 v hat ho) hS)
theorem pX9_285 {p : Program} {l : Launch} {e : Env} {R : Room} {s : State} {m : MethodId} {args : Array Value} {below : List Frame} {meth : Method} {c : Code} {H : Heap} {locs : List Loc} {cells slots : Nat} {Q : State → Prop} {cc : ByteArray} {pc nL : Nat} {ls : Array Slot} {rest : List Value} {ret : Option FieldType} {G : xG} {β N : Nat} {x : MS} {v : Int32} (C : Cx p s m args meth c RX9 cc nL ret (KK G)) (hw : MW β G N x H) (hS : va_S (AM β) s.heap H locs) (hd : decode cc pc = .ok (.putfield 285, 3)) (kk : ∀ (H1 : Heap) (locs1 : List Loc), MW β G N (msS x 0 25 v) H1 → va_S (AM β) s.heap H1 locs1 → W p l e R s m args below meth c H1 locs1 cells slots Q (F0 m (pc + 3) ls (rest))) : W p l e R s m args below meth c H locs cells slots Q (F0 m pc ls (.int v :: .ref β :: rest)) :=
  x_put C.1 C.2.1 C.2.2.2.2.1 iwX9 tyX9 tyX9_ok nmX9 C.2.2.2.1 C.K.1 hS (hw.2 0 (by decide)) (AM.in (by decide)) rfl 25 (by decide) (C.2.2.2.2.1 (.fieldLink RX9 285 RX9 "tokenAt" "I") (tg 941 (by decide +kernel) rfl)) (fun _ h9 => h9) rfl (ty := .int) (by decide +kernel) rfl rfl (Nat.le_of_ble_eq_true rfl) hd (fun H1 locs1 hat ho hS => kk H1 locs1 (hw.setS 0 25 v hat ho) hS)
theorem pX9_288 {p : Program} {l : Launch} {e : Env} {R : Room} {s : State} {m : MethodId} {args : Array Value} {below : List Frame} {meth : Method} {c : Code} {H : Heap} {locs : List Loc} {cells slots : Nat} {Q : State → Prop} {cc : ByteArray} {pc nL : Nat} {ls : Array Slot} {rest : List Value} {ret : Option FieldType} {G : xG} {β N : Nat} {x : MS} {v : Int32} (C : Cx p s m args meth c RX9 cc nL ret (KK G)) (hw : MW β G N x H) (hS : va_S (AM β) s.heap H locs) (hd : decode cc pc = .ok (.putfield 288, 3)) (kk : ∀ (H1 : Heap) (locs1 : List Loc), MW β G N (msS x 0 24 v) H1 → va_S (AM β) s.heap H1 locs1 → W p l e R s m args below meth c H1 locs1 cells slots Q (F0 m (pc + 3) ls (rest))) : W p l e R s m args below meth c H locs cells slots Q (F0 m pc ls (.int v :: .ref β :: rest)) :=
  x_put C.1 C.2.1 C.2.2.2.2.1 iwX9 tyX9 tyX9_ok nmX9 C.2.2.2.1 C.K.1 hS (hw.2 0 (by decide)) (AM.in (by decide)) rfl 24 (by decide) (C.2.2.2.2.1 (.fieldLink RX9 288 RX9 "token" "I") (tg 940 (by decide +kernel) rfl)) (fun _ h9 => h9) rfl (ty := .int) (by decide +kernel) rfl rfl (Nat.le_of_ble_eq_true rfl) hd (fun H1 locs1 hat ho hS => kk H1 locs1 (hw.setS 0 24 v hat ho) hS)
theorem pX9_295 {p : Program} {l : Launch} {e : Env} {R : Room} {s : State} {m : MethodId} {args : Array Value} {below : List Frame} {meth : Method} {c : Code} {H : Heap} {locs : List Loc} {cells slots : Nat} {Q : State → Prop} {cc : ByteArray} {pc nL : Nat} {ls : Array Slot} {rest : List Value} {ret : Option FieldType} {G : xG} {β N : Nat} {x : MS} {v : Int64} (C : Cx p s m args meth c RX9 cc nL ret (KK G)) (hw : MW β G N x H) (hS : va_S (AM β) s.heap H locs) (hd : decode cc pc = .ok (.putfield 295, 3)) (kk : ∀ (H1 : Heap) (locs1 : List Loc), MW β G N (msL x 0 26 v) H1 → va_S (AM β) s.heap H1 locs1 → W p l e R s m args below meth c H1 locs1 cells slots Q (F0 m (pc + 3) ls (rest))) : W p l e R s m args below meth c H locs cells slots Q (F0 m pc ls (.long v :: .ref β :: rest)) :=
  x_put C.1 C.2.1 C.2.2.2.2.1 iwX9 tyX9 tyX9_ok nmX9 C.2.2.2.1 C.K.1 hS (hw.2 0 (by decide)) (AM.in (by decide)) rfl 26 (by decide) (C.2.2.2.2.1 (.fieldLink RX9 295 RX9 "tokenWorth" "J") (tg 942 (by decide +kernel) rfl)) (fun _ h9 => h9) rfl (ty := .long) (by decide +kernel) rfl rfl (Nat.le_of_ble_eq_true rfl) hd (fun H1 locs1 hat ho hS => kk H1 locs1 (hw.setL 0 26 v hat ho) hS)
theorem gX9_295 {p : Program} {l : Launch} {e : Env} {R : Room} {s : State} {m : MethodId} {args : Array Value} {below : List Frame} {meth : Method} {c : Code} {H : Heap} {locs : List Loc} {cells slots : Nat} {Q : State → Prop} {cc : ByteArray} {pc nL : Nat} {ls : Array Slot} {rest : List Value} {ret : Option FieldType} {G : xG} {β N : Nat} {x : MS} (C : Cx p s m args meth c RX9 cc nL ret (KK G)) (hw : MW β G N x H) (hd : decode cc pc = .ok (.getfield 295, 3)) (kk : W p l e R s m args below meth c H locs cells slots Q (F0 m (pc + 3) ls (.long (x.2.2 0 26) :: rest))) : W p l e R s m args below meth c H locs cells slots Q (F0 m pc ls (.ref β :: rest)) :=
  va_get C.1 C.2.1 C.2.2.2.2.1 iwX9 C.2.2.2.1 C.K.1 (xP1 (hw.2 0 (by decide))) 0 rfl rfl 26 (by decide) (C.2.2.2.2.1 (.fieldLink RX9 295 RX9 "tokenWorth" "J") (tg 942 (by decide +kernel) rfl)) (fun _ h9 => h9) rfl hd kk
def BX9_next_0 (lp : MS → Option (MS)) (x : MS) : Option (MS) := Option.bind (fX9_byteAt x (x.1 0 27)) fun v1 => if v1 = 32 then lt (msS x 0 27 ((x.1 0 27) + 1)) fun x3 => lp x3 else Option.bind (fX9_byteAt x (x.1 0 27)) fun v4 => if v4 = 10 then lt (msS x 0 27 ((x.1 0 27) + 1)) fun x6 => lp x6 else some x
def LX9_next_0 : Nat → MS → Option (MS)
  | 0, _ => none
  | n + 1, x => BX9_next_0 (LX9_next_0 n) x
def BX9_next_211 (lp : Int32 → MS → Option (Int32 × MS)) (u2 : Int32) (x : MS) : Option (Int32 × MS) := Option.bind (fX9_byteAt x (x.1 0 27)) fun v42 => Option.bind (fX9_in (v42.toInt64) 48 57) fun v44 => if v44 = true then if 4 ≤ u2 then lt (msL x 0 26 (x.2.2 0 26)) fun x46 => lt (u2 + 1) fun v47 => lt (msS x46 0 27 ((x46.1 0 27) + 1)) fun x48 => lp v47 x48 else Option.bind (fX9_byteAt x (x.1 0 27)) fun v49 => lt (msL x 0 26 (((10 * (x.2.2 0 26)) + (v49.toInt64)) - 48)) fun x51 => lt (u2 + 1) fun v52 => lt (msS x51 0 27 ((x51.1 0 27) + 1)) fun x53 => lp v52 x53 else some (u2, x)
def LX9_next_211 : Nat → Int32 → MS → Option (Int32 × MS)
  | 0, _, _ => none
  | n + 1, u2, x => BX9_next_211 (LX9_next_211 n) u2 x
def BX9_next_107 (lp : Int32 → MS → Option (MS)) (u2 : Int32) (x : MS) : Option (MS) := Option.bind (fX9_byteAt x (x.1 0 27)) fun v60 => Option.bind (fX9_in (v60.toInt64) 97 122) fun v62 => if v62 = true then if 8 ≤ u2 then lt (msL x 0 26 ((-1))) fun x64 => lt (u2 + 1) fun v65 => lt (msS x64 0 27 ((x64.1 0 27) + 1)) fun x66 => lp v65 x66 else Option.bind (fX9_byteAt x (x.1 0 27)) fun v67 => lt (msL x 0 26 (((27 * (x.2.2 0 26)) + (v67.toInt64)) - 96)) fun x69 => lt (u2 + 1) fun v70 => lt (msS x69 0 27 ((x69.1 0 27) + 1)) fun x71 => lp v70 x71 else some x
def LX9_next_107 : Nat → Int32 → MS → Option (MS)
  | 0, _, _ => none
  | n + 1, u2, x => BX9_next_107 (LX9_next_107 n) u2 x
def fX9_next (x : MS) : Option (MS) := Option.bind (LX9_next_0 NF x) fun x7 => lt (msS x7 0 25 (x7.1 0 27)) fun x8 => Option.bind (fX9_byteAt x8 (x8.1 0 27)) fun v9 => lt (msS x8 0 24 4) fun x11 => if 0 ≤ v9 then Option.bind (fX9_in (v9.toInt64) 97 122) fun v12 => if v12 = true then lt (msS x11 0 24 1) fun x58 => lt (msL x58 0 26 (0)) fun x59 => Option.bind (LX9_next_107 NF 0 x59) fun x72 => some x72 else Option.bind (fX9_in (v9.toInt64) 48 57) fun v14 => if v14 = true then lt (msS x11 0 24 2) fun x40 => lt (msL x40 0 26 (0)) fun x41 => bind2 (LX9_next_211 NF 0 x41) fun v54 x55 => if v54 ≤ 4 then lt (msS x55 0 24 2) fun x56 => some x56 else lt (msS x55 0 24 4) fun x57 => some x57 else if v9 = 40 then lt (msS x11 0 24 3) fun x16 => lt (msL x16 0 26 (v9.toInt64)) fun x17 => lt (msS x17 0 27 ((x17.1 0 27) + 1)) fun x18 => some x18 else if v9 = 41 then lt (msS x11 0 24 3) fun x19 => lt (msL x19 0 26 (v9.toInt64)) fun x20 => lt (msS x20 0 27 ((x20.1 0 27) + 1)) fun x21 => some x21 else if v9 = 59 then lt (msS x11 0 24 3) fun x22 => lt (msL x22 0 26 (v9.toInt64)) fun x23 => lt (msS x23 0 27 ((x23.1 0 27) + 1)) fun x24 => some x24 else if v9 = 43 then lt (msS x11 0 24 3) fun x25 => lt (msL x25 0 26 (v9.toInt64)) fun x26 => lt (msS x26 0 27 ((x26.1 0 27) + 1)) fun x27 => some x27 else if v9 = 45 then lt (msS x11 0 24 3) fun x28 => lt (msL x28 0 26 (v9.toInt64)) fun x29 => lt (msS x29 0 27 ((x29.1 0 27) + 1)) fun x30 => some x30 else if v9 = 42 then lt (msS x11 0 24 3) fun x31 => lt (msL x31 0 26 (v9.toInt64)) fun x32 => lt (msS x32 0 27 ((x32.1 0 27) + 1)) fun x33 => some x33 else if v9 = 60 then lt (msS x11 0 24 3) fun x34 => lt (msL x34 0 26 (v9.toInt64)) fun x35 => lt (msS x35 0 27 ((x35.1 0 27) + 1)) fun x36 => some x36 else if v9 = 61 then lt (msS x11 0 24 3) fun x37 => lt (msL x37 0 26 (v9.toInt64)) fun x38 => lt (msS x38 0 27 ((x38.1 0 27) + 1)) fun x39 => some x39 else some x11 else lt (msS x11 0 24 0) fun x73 => lt (msS x73 0 25 (x73.1 0 23)) fun x74 => some x74
set_option maxHeartbeats 4000000 in
set_option maxRecDepth 100000 in
theorem lX9_next_0 {p : Program} {l : Launch} {e : Env} {R : Room} {s : State} {m : MethodId} {args : Array Value} {below : List Frame} {meth : Method} {c : Code} {cells slots : Nat} {Q : State → Prop} {G : xG} {β N : Nat} (C : Cx p s m args meth c RX9 cX9_next 3 none (KK G)) (hRf : 1 ≤ R.frames) (hRl : 25 ≤ R.locals) (hcs : cells ≤ R.cells ∧ slots ≤ R.slots) : ∀ (n : Nat) (x : MS) (J : MS) (H : Heap) (locs : List Loc) (ls : Array Slot), LX9_next_0 n x = some J → MW β G N x H → va_S (AM β) s.heap H locs → lv_has ls 3 [(0, .ref β)] → (∀ (x1 : MS), J = x1 → ∀ (H : Heap) (locs : List Loc) (ls : Array Slot), MW β G N x1 H → va_S (AM β) s.heap H locs → lv_has ls 3 [(0, .ref β)] → W p l e R s m args below meth c H locs cells slots Q (F0 m 39 ls [])) → W p l e R s m args below meth c H locs cells slots Q (F0 m 0 ls []) := by
  have hx := C.1
  have hb := C.2.1
  have ho := C.2.2.2.1
  have hts := C.2.2.2.2.1
  intro n
  induction n with
  | zero =>
    intro x J H locs ls hm
    exact absurd hm (by simp [LX9_next_0])
  | succ n ih =>
    intro x J H locs ls hm hw hS hl ke
    replace hm : BX9_next_0 (LX9_next_0 n) x = some J := hm
    unfold BX9_next_0 at hm
    refine lv_aload_n hx hb dX9_next_0 rfl (lv_at hl 0 rfl) ?_
    refine lv_aload_n hx hb dX9_next_1 rfl (lv_at hl 0 rfl) ?_
    refine gX9_279 C hw dX9_next_2 ?_
    obtain ⟨v1, h2, hm⟩ := bind_e hm
    refine sX9_282 C h2 hw hS hl.1 (Nat.le_of_ble_eq_true rfl) (Nat.le_trans (Nat.le_of_ble_eq_true rfl) hRf) (Nat.le_trans (Nat.le_of_ble_eq_true rfl) hRl) hcs dX9_next_5 (fun H locs hw hS => ?_)
    refine lv_bipush (v := 32) hx hb dX9_next_8 (by decide) ?_
    refine lv_icmp_eq (tgt := 26) hx hb dX9_next_10 (by decide) (fun cc => ?_) (fun cc => ?_)
    · replace hm := ite_p cc hm
      refine lv_aload_n hx hb dX9_next_26 rfl (lv_at hl 0 rfl) ?_
      refine lv_dup hx hb dX9_next_27 rfl ?_
      refine gX9_279 C hw dX9_next_28 ?_
      refine lv_iconst (v := 1) hx hb dX9_next_31 (by decide) ?_
      refine lv_iadd hx hb dX9_next_32 ?_
      refine pX9_279 C hw hS dX9_next_33 (fun H locs hw hS => ?_)
      obtain ⟨x3, ev, hm⟩ := lt_e hm
      rw [← ev] at hw
      clear ev
      refine lv_goto (tgt := 0) hx hb dX9_next_36 (by decide) ?_
      exact ih _ _ _ _ _ hm hw hS (lv_sub hl [0] rfl) ke
    · replace hm := ite_n cc hm
      refine lv_aload_n hx hb dX9_next_13 rfl (lv_at hl 0 rfl) ?_
      refine lv_aload_n hx hb dX9_next_14 rfl (lv_at hl 0 rfl) ?_
      refine gX9_279 C hw dX9_next_15 ?_
      obtain ⟨v4, h5, hm⟩ := bind_e hm
      refine sX9_282 C h5 hw hS hl.1 (Nat.le_of_ble_eq_true rfl) (Nat.le_trans (Nat.le_of_ble_eq_true rfl) hRf) (Nat.le_trans (Nat.le_of_ble_eq_true rfl) hRl) hcs dX9_next_18 (fun H locs hw hS => ?_)
      refine lv_bipush (v := 10) hx hb dX9_next_21 (by decide) ?_
      refine lv_icmp_ne (tgt := 39) hx hb dX9_next_23 (by decide) (fun cc => ?_) (fun cc => ?_)
      · replace hm := ite_n cc hm
        exact ke _ (Option.some.inj hm).symm _ _ _ hw hS (lv_sub hl [0] rfl)
      · replace hm := ite_p cc hm
        refine lv_aload_n hx hb dX9_next_26 rfl (lv_at hl 0 rfl) ?_
        refine lv_dup hx hb dX9_next_27 rfl ?_
        refine gX9_279 C hw dX9_next_28 ?_
        refine lv_iconst (v := 1) hx hb dX9_next_31 (by decide) ?_
        refine lv_iadd hx hb dX9_next_32 ?_
        refine pX9_279 C hw hS dX9_next_33 (fun H locs hw hS => ?_)
        obtain ⟨x6, ev, hm⟩ := lt_e hm
        rw [← ev] at hw
        clear ev
        refine lv_goto (tgt := 0) hx hb dX9_next_36 (by decide) ?_
        exact ih _ _ _ _ _ hm hw hS (lv_sub hl [0] rfl) ke
set_option maxHeartbeats 4000000 in
set_option maxRecDepth 100000 in
theorem lX9_next_211 {p : Program} {l : Launch} {e : Env} {R : Room} {s : State} {m : MethodId} {args : Array Value} {below : List Frame} {meth : Method} {c : Code} {cells slots : Nat} {Q : State → Prop} {G : xG} {β N : Nat} (C : Cx p s m args meth c RX9 cX9_next 3 none (KK G)) (hRf : 1 ≤ R.frames) (hRl : 25 ≤ R.locals) (hcs : cells ≤ R.cells ∧ slots ≤ R.slots) : ∀ (n : Nat) (u2 : Int32) (x : MS) (J : Int32 × MS) (H : Heap) (locs : List Loc) (ls : Array Slot), LX9_next_211 n u2 x = some J → MW β G N x H → va_S (AM β) s.heap H locs → lv_has ls 3 [(0, .ref β), (2, .int u2)] → (∀ (w2 : Int32) (x1 : MS), J = (w2, x1) → ∀ (H : Heap) (locs : List Loc) (ls : Array Slot), MW β G N x1 H → va_S (AM β) s.heap H locs → lv_has ls 3 [(0, .ref β), (2, .int w2)] → W p l e R s m args below meth c H locs cells slots Q (F0 m 286 ls [])) → W p l e R s m args below meth c H locs cells slots Q (F0 m 211 ls []) := by
  have hx := C.1
  have hb := C.2.1
  have ho := C.2.2.2.1
  have hts := C.2.2.2.2.1
  intro n
  induction n with
  | zero =>
    intro u2 x J H locs ls hm
    exact absurd hm (by simp [LX9_next_211])
  | succ n ih =>
    intro u2 x J H locs ls hm hw hS hl ke
    replace hm : BX9_next_211 (LX9_next_211 n) u2 x = some J := hm
    unfold BX9_next_211 at hm
    refine lv_aload_n hx hb dX9_next_211 rfl (lv_at hl 0 rfl) ?_
    refine lv_aload_n hx hb dX9_next_212 rfl (lv_at hl 0 rfl) ?_
    refine gX9_279 C hw dX9_next_213 ?_
    obtain ⟨v42, h43, hm⟩ := bind_e hm
    refine sX9_282 C h43 hw hS hl.1 (Nat.le_of_ble_eq_true rfl) (Nat.le_trans (Nat.le_of_ble_eq_true rfl) hRf) (Nat.le_trans (Nat.le_of_ble_eq_true rfl) hRl) hcs dX9_next_216 (fun H locs hw hS => ?_)
    refine lv_i2l hx hb dX9_next_219 rfl ?_
    refine lv_ldc2 (v := 48) hx hb ho (hts (.constantLong RX9 303 48) (tg 1165 (by decide +kernel) rfl)) dX9_next_220 ?_
    refine lv_ldc2 (v := 57) hx hb ho (hts (.constantLong RX9 305 57) (tg 1166 (by decide +kernel) rfl)) dX9_next_223 ?_
    obtain ⟨v44, h45, hm⟩ := bind_e hm
    refine sX9_132 C h45 hw hS hl.1 (Nat.le_of_ble_eq_true rfl) (Nat.le_trans (Nat.le_of_ble_eq_true rfl) hRf) (Nat.le_trans (Nat.le_of_ble_eq_true rfl) hRl) hcs dX9_next_226 (fun H locs hw hS => ?_)
    refine x_ifeqB hx hb dX9_next_229 (tgt := 286) (by decide) (fun cc => ?_) (fun cc => ?_)
    · replace hm := ite_n cc hm
      exact ke _ _ (Option.some.inj hm).symm _ _ _ hw hS (lv_sub hl [0, 1] rfl)
    · replace hm := ite_p cc hm
      refine lv_aload_n hx hb dX9_next_232 rfl (lv_at hl 0 rfl) ?_
      refine lv_iload_n hx hb dX9_next_233 rfl (lv_at hl 1 rfl) ?_
      refine lv_iconst (v := 4) hx hb dX9_next_234 (by decide) ?_
      refine lv_icmp_ge (tgt := 263) hx hb dX9_next_235 (by decide) (fun cc => ?_) (fun cc => ?_)
      · replace hm := ite_p cc hm
        refine lv_aload_n hx hb dX9_next_263 rfl (lv_at hl 0 rfl) ?_
        refine gX9_295 C hw dX9_next_264 ?_
        refine pX9_295 C hw hS dX9_next_267 (fun H locs hw hS => ?_)
        obtain ⟨x46, ev, hm⟩ := lt_e hm
        rw [← ev] at hw
        clear ev
        obtain ⟨v47, ev, hm⟩ := lt_e hm
        refine lv_iinc (v := v47) (lv' := [(2, .int v47), (0, .ref β)]) hx hb dX9_next_270 hl (k := 1) rfl (by rw [ev]; rfl) (by decide) rfl (fun ls hl => ?_)
        clear ev
        refine lv_aload_n hx hb dX9_next_273 rfl (lv_at hl 1 rfl) ?_
        refine lv_dup hx hb dX9_next_274 rfl ?_
        refine gX9_279 C hw dX9_next_275 ?_
        refine lv_iconst (v := 1) hx hb dX9_next_278 (by decide) ?_
        refine lv_iadd hx hb dX9_next_279 ?_
        refine pX9_279 C hw hS dX9_next_280 (fun H locs hw hS => ?_)
        obtain ⟨x48, ev, hm⟩ := lt_e hm
        rw [← ev] at hw
        clear ev
        refine lv_goto (tgt := 211) hx hb dX9_next_283 (by decide) ?_
        exact ih _ _ _ _ _ _ hm hw hS (lv_sub hl [1, 0] rfl) ke
      · replace hm := ite_n cc hm
        refine lv_ldc2 (v := 10) hx hb ho (hts (.constantLong RX9 307 10) (tg 1167 (by decide +kernel) rfl)) dX9_next_238 ?_
        refine lv_aload_n hx hb dX9_next_241 rfl (lv_at hl 0 rfl) ?_
        refine gX9_295 C hw dX9_next_242 ?_
        refine lv_lmul hx hb dX9_next_245 ?_
        refine lv_aload_n hx hb dX9_next_246 rfl (lv_at hl 0 rfl) ?_
        refine lv_aload_n hx hb dX9_next_247 rfl (lv_at hl 0 rfl) ?_
        refine gX9_279 C hw dX9_next_248 ?_
        obtain ⟨v49, h50, hm⟩ := bind_e hm
        refine sX9_282 C h50 hw hS hl.1 (Nat.le_of_ble_eq_true rfl) (Nat.le_trans (Nat.le_of_ble_eq_true rfl) hRf) (Nat.le_trans (Nat.le_of_ble_eq_true rfl) hRl) hcs dX9_next_251 (fun H locs hw hS => ?_)
        refine lv_i2l hx hb dX9_next_254 rfl ?_
        refine lv_ladd hx hb dX9_next_255 ?_
        refine lv_ldc2 (v := 48) hx hb ho (hts (.constantLong RX9 303 48) (tg 1165 (by decide +kernel) rfl)) dX9_next_256 ?_
        refine lv_lsub hx hb dX9_next_259 ?_
        refine lv_goto (tgt := 267) hx hb dX9_next_260 (by decide) ?_
        refine pX9_295 C hw hS dX9_next_267 (fun H locs hw hS => ?_)
        obtain ⟨x51, ev, hm⟩ := lt_e hm
        rw [← ev] at hw
        clear ev
        obtain ⟨v52, ev, hm⟩ := lt_e hm
        refine lv_iinc (v := v52) (lv' := [(2, .int v52), (0, .ref β)]) hx hb dX9_next_270 hl (k := 1) rfl (by rw [ev]; rfl) (by decide) rfl (fun ls hl => ?_)
        clear ev
        refine lv_aload_n hx hb dX9_next_273 rfl (lv_at hl 1 rfl) ?_
        refine lv_dup hx hb dX9_next_274 rfl ?_
        refine gX9_279 C hw dX9_next_275 ?_
        refine lv_iconst (v := 1) hx hb dX9_next_278 (by decide) ?_
        refine lv_iadd hx hb dX9_next_279 ?_
        refine pX9_279 C hw hS dX9_next_280 (fun H locs hw hS => ?_)
        obtain ⟨x53, ev, hm⟩ := lt_e hm
        rw [← ev] at hw
        clear ev
        refine lv_goto (tgt := 211) hx hb dX9_next_283 (by decide) ?_
        exact ih _ _ _ _ _ _ hm hw hS (lv_sub hl [1, 0] rfl) ke
set_option maxHeartbeats 4000000 in
set_option maxRecDepth 100000 in
theorem lX9_next_107 {p : Program} {l : Launch} {e : Env} {R : Room} {s : State} {m : MethodId} {args : Array Value} {below : List Frame} {meth : Method} {c : Code} {cells slots : Nat} {Q : State → Prop} {G : xG} {β N : Nat} (C : Cx p s m args meth c RX9 cX9_next 3 none (KK G)) (hRf : 1 ≤ R.frames) (hRl : 25 ≤ R.locals) (hcs : cells ≤ R.cells ∧ slots ≤ R.slots) : ∀ (n : Nat) (u2 : Int32) (x : MS) (J : MS) (H : Heap) (locs : List Loc) (ls : Array Slot), LX9_next_107 n u2 x = some J → MW β G N x H → va_S (AM β) s.heap H locs → lv_has ls 3 [(0, .ref β), (2, .int u2)] → (∀ (x1 : MS), J = x1 → ∀ (H : Heap) (locs : List Loc) (ls : Array Slot), MW β G N x1 H → va_S (AM β) s.heap H locs → lv_has ls 3 [] → W p l e R s m args below meth c H locs cells slots Q (F0 m 182 ls [])) → W p l e R s m args below meth c H locs cells slots Q (F0 m 107 ls []) := by
  have hx := C.1
  have hb := C.2.1
  have ho := C.2.2.2.1
  have hts := C.2.2.2.2.1
  intro n
  induction n with
  | zero =>
    intro u2 x J H locs ls hm
    exact absurd hm (by simp [LX9_next_107])
  | succ n ih =>
    intro u2 x J H locs ls hm hw hS hl ke
    replace hm : BX9_next_107 (LX9_next_107 n) u2 x = some J := hm
    unfold BX9_next_107 at hm
    refine lv_aload_n hx hb dX9_next_107 rfl (lv_at hl 0 rfl) ?_
    refine lv_aload_n hx hb dX9_next_108 rfl (lv_at hl 0 rfl) ?_
    refine gX9_279 C hw dX9_next_109 ?_
    obtain ⟨v60, h61, hm⟩ := bind_e hm
    refine sX9_282 C h61 hw hS hl.1 (Nat.le_of_ble_eq_true rfl) (Nat.le_trans (Nat.le_of_ble_eq_true rfl) hRf) (Nat.le_trans (Nat.le_of_ble_eq_true rfl) hRl) hcs dX9_next_112 (fun H locs hw hS => ?_)
    refine lv_i2l hx hb dX9_next_115 rfl ?_
    refine lv_ldc2 (v := 97) hx hb ho (hts (.constantLong RX9 291 97) (tg 1160 (by decide +kernel) rfl)) dX9_next_116 ?_
    refine lv_ldc2 (v := 122) hx hb ho (hts (.constantLong RX9 293 122) (tg 1161 (by decide +kernel) rfl)) dX9_next_119 ?_
    obtain ⟨v62, h63, hm⟩ := bind_e hm
    refine sX9_132 C h63 hw hS hl.1 (Nat.le_of_ble_eq_true rfl) (Nat.le_trans (Nat.le_of_ble_eq_true rfl) hRf) (Nat.le_trans (Nat.le_of_ble_eq_true rfl) hRl) hcs dX9_next_122 (fun H locs hw hS => ?_)
    refine x_ifeqB hx hb dX9_next_125 (tgt := 182) (by decide) (fun cc => ?_) (fun cc => ?_)
    · replace hm := ite_n cc hm
      exact ke _ (Option.some.inj hm).symm _ _ _ hw hS (lv_sub hl [] rfl)
    · replace hm := ite_p cc hm
      refine lv_aload_n hx hb dX9_next_128 rfl (lv_at hl 0 rfl) ?_
      refine lv_iload_n hx hb dX9_next_129 rfl (lv_at hl 1 rfl) ?_
      refine lv_bipush (v := 8) hx hb dX9_next_130 (by decide) ?_
      refine lv_icmp_ge (tgt := 160) hx hb dX9_next_132 (by decide) (fun cc => ?_) (fun cc => ?_)
      · replace hm := ite_p cc hm
        refine lv_ldc2 (v := (-1)) hx hb ho (hts (.constantLong RX9 257 (-1)) (tg 1164 (by decide +kernel) rfl)) dX9_next_160 ?_
        refine pX9_295 C hw hS dX9_next_163 (fun H locs hw hS => ?_)
        obtain ⟨x64, ev, hm⟩ := lt_e hm
        rw [← ev] at hw
        clear ev
        obtain ⟨v65, ev, hm⟩ := lt_e hm
        refine lv_iinc (v := v65) (lv' := [(2, .int v65), (0, .ref β)]) hx hb dX9_next_166 hl (k := 1) rfl (by rw [ev]; rfl) (by decide) rfl (fun ls hl => ?_)
        clear ev
        refine lv_aload_n hx hb dX9_next_169 rfl (lv_at hl 1 rfl) ?_
        refine lv_dup hx hb dX9_next_170 rfl ?_
        refine gX9_279 C hw dX9_next_171 ?_
        refine lv_iconst (v := 1) hx hb dX9_next_174 (by decide) ?_
        refine lv_iadd hx hb dX9_next_175 ?_
        refine pX9_279 C hw hS dX9_next_176 (fun H locs hw hS => ?_)
        obtain ⟨x66, ev, hm⟩ := lt_e hm
        rw [← ev] at hw
        clear ev
        refine lv_goto (tgt := 107) hx hb dX9_next_179 (by decide) ?_
        exact ih _ _ _ _ _ _ hm hw hS (lv_sub hl [1, 0] rfl) ke
      · replace hm := ite_n cc hm
        refine lv_ldc2 (v := 27) hx hb ho (hts (.constantLong RX9 299 27) (tg 1162 (by decide +kernel) rfl)) dX9_next_135 ?_
        refine lv_aload_n hx hb dX9_next_138 rfl (lv_at hl 0 rfl) ?_
        refine gX9_295 C hw dX9_next_139 ?_
        refine lv_lmul hx hb dX9_next_142 ?_
        refine lv_aload_n hx hb dX9_next_143 rfl (lv_at hl 0 rfl) ?_
        refine lv_aload_n hx hb dX9_next_144 rfl (lv_at hl 0 rfl) ?_
        refine gX9_279 C hw dX9_next_145 ?_
        obtain ⟨v67, h68, hm⟩ := bind_e hm
        refine sX9_282 C h68 hw hS hl.1 (Nat.le_of_ble_eq_true rfl) (Nat.le_trans (Nat.le_of_ble_eq_true rfl) hRf) (Nat.le_trans (Nat.le_of_ble_eq_true rfl) hRl) hcs dX9_next_148 (fun H locs hw hS => ?_)
        refine lv_i2l hx hb dX9_next_151 rfl ?_
        refine lv_ladd hx hb dX9_next_152 ?_
        refine lv_ldc2 (v := 96) hx hb ho (hts (.constantLong RX9 301 96) (tg 1163 (by decide +kernel) rfl)) dX9_next_153 ?_
        refine lv_lsub hx hb dX9_next_156 ?_
        refine lv_goto (tgt := 163) hx hb dX9_next_157 (by decide) ?_
        refine pX9_295 C hw hS dX9_next_163 (fun H locs hw hS => ?_)
        obtain ⟨x69, ev, hm⟩ := lt_e hm
        rw [← ev] at hw
        clear ev
        obtain ⟨v70, ev, hm⟩ := lt_e hm
        refine lv_iinc (v := v70) (lv' := [(2, .int v70), (0, .ref β)]) hx hb dX9_next_166 hl (k := 1) rfl (by rw [ev]; rfl) (by decide) rfl (fun ls hl => ?_)
        clear ev
        refine lv_aload_n hx hb dX9_next_169 rfl (lv_at hl 1 rfl) ?_
        refine lv_dup hx hb dX9_next_170 rfl ?_
        refine gX9_279 C hw dX9_next_171 ?_
        refine lv_iconst (v := 1) hx hb dX9_next_174 (by decide) ?_
        refine lv_iadd hx hb dX9_next_175 ?_
        refine pX9_279 C hw hS dX9_next_176 (fun H locs hw hS => ?_)
        obtain ⟨x71, ev, hm⟩ := lt_e hm
        rw [← ev] at hw
        clear ev
        refine lv_goto (tgt := 107) hx hb dX9_next_179 (by decide) ?_
        exact ih _ _ _ _ _ _ hm hw hS (lv_sub hl [1, 0] rfl) ke
abbrev rmX9_next : Room := { frames := 1, cells := 0, slots := 0, locals := 25 }
set_option maxHeartbeats 4000000 in
set_option maxRecDepth 100000 in
theorem kX9_next {l : Launch} {G : xG} {β N : Nat} {x x' : MS} (hm : fX9_next x = some x') : Met l yX9_next (.code yX9_next cX9_next 3 none :: GT) rmX9_next (PcW [.ref β] (MW β G N x) (KK G)) (QcW (AM β) none (MW β G N x')) 0 0 (AM β) := by
  unfold fX9_next at hm
  refine xpro (own := RX9) (by decide +kernel) rfl (Nat.le_of_ble_eq_true rfl) ?_
  intro p e s m args below meth c C hw ls hl
  have hx := C.1
  have hb := C.2.1
  have ho := C.2.2.2.1
  have hts := C.2.2.2.2.1
  have hS : va_S (AM β) s.heap s.heap [] := va_S.rf
  have hl : lv_has ls 3 [(0, .ref β)] := hl
  have hRf : 1 ≤ rmX9_next.frames := Nat.le_refl _
  have hRl : 25 ≤ rmX9_next.locals := Nat.le_refl _
  have hcs : 0 ≤ rmX9_next.cells ∧ 0 ≤ rmX9_next.slots := ⟨Nat.le_refl _, Nat.le_refl _⟩
  obtain ⟨x7, hj, hm⟩ := bind_e hm
  refine lX9_next_0 C hRf hRl hcs NF _ _ _ _ _ hj hw hS (lv_sub hl [0] rfl) (fun x7_ e0 H locs ls hw hS hl => ?_)
  cases e0
  refine lv_aload_n hx hb dX9_next_39 rfl (lv_at hl 0 rfl) ?_
  refine lv_aload_n hx hb dX9_next_40 rfl (lv_at hl 0 rfl) ?_
  refine gX9_279 C hw dX9_next_41 ?_
  refine pX9_285 C hw hS dX9_next_44 (fun H locs hw hS => ?_)
  obtain ⟨x8, ev, hm⟩ := lt_e hm
  rw [← ev] at hw
  clear ev
  refine lv_aload_n hx hb dX9_next_47 rfl (lv_at hl 0 rfl) ?_
  refine lv_aload_n hx hb dX9_next_48 rfl (lv_at hl 0 rfl) ?_
  refine gX9_279 C hw dX9_next_49 ?_
  obtain ⟨v9, h10, hm⟩ := bind_e hm
  refine sX9_282 C h10 hw hS hl.1 (Nat.le_of_ble_eq_true rfl) (Nat.le_trans (Nat.le_of_ble_eq_true rfl) hRf) (Nat.le_trans (Nat.le_of_ble_eq_true rfl) hRl) hcs dX9_next_52 (fun H locs hw hS => ?_)
  refine lv_istore_n (lv' := [(1, .int v9), (0, .ref β)]) hx hb dX9_next_55 rfl hl (by decide) rfl (fun ls hl => ?_)
  refine lv_aload_n hx hb dX9_next_56 rfl (lv_at hl 1 rfl) ?_
  refine lv_iconst (v := 4) hx hb dX9_next_57 (by decide) ?_
  refine pX9_288 C hw hS dX9_next_58 (fun H locs hw hS => ?_)
  obtain ⟨x11, ev, hm⟩ := lt_e hm
  rw [← ev] at hw
  clear ev
  refine lv_iload_n hx hb dX9_next_61 rfl (lv_at hl 0 rfl) ?_
  refine lv_if_ge (tgt := 81) hx hb dX9_next_62 (by decide) (fun cc => ?_) (fun cc => ?_)
  · replace hm := ite_p cc hm
    refine lv_iload_n hx hb dX9_next_81 rfl (lv_at hl 0 rfl) ?_
    refine lv_i2l hx hb dX9_next_82 rfl ?_
    refine lv_ldc2 (v := 97) hx hb ho (hts (.constantLong RX9 291 97) (tg 1160 (by decide +kernel) rfl)) dX9_next_83 ?_
    refine lv_ldc2 (v := 122) hx hb ho (hts (.constantLong RX9 293 122) (tg 1161 (by decide +kernel) rfl)) dX9_next_86 ?_
    obtain ⟨v12, h13, hm⟩ := bind_e hm
    refine sX9_132 C h13 hw hS hl.1 (Nat.le_of_ble_eq_true rfl) (Nat.le_trans (Nat.le_of_ble_eq_true rfl) hRf) (Nat.le_trans (Nat.le_of_ble_eq_true rfl) hRl) hcs dX9_next_89 (fun H locs hw hS => ?_)
    refine x_ifeqB hx hb dX9_next_92 (tgt := 185) (by decide) (fun cc => ?_) (fun cc => ?_)
    · replace hm := ite_n cc hm
      refine lv_iload_n hx hb dX9_next_185 rfl (lv_at hl 0 rfl) ?_
      refine lv_i2l hx hb dX9_next_186 rfl ?_
      refine lv_ldc2 (v := 48) hx hb ho (hts (.constantLong RX9 303 48) (tg 1165 (by decide +kernel) rfl)) dX9_next_187 ?_
      refine lv_ldc2 (v := 57) hx hb ho (hts (.constantLong RX9 305 57) (tg 1166 (by decide +kernel) rfl)) dX9_next_190 ?_
      obtain ⟨v14, h15, hm⟩ := bind_e hm
      refine sX9_132 C h15 hw hS hl.1 (Nat.le_of_ble_eq_true rfl) (Nat.le_trans (Nat.le_of_ble_eq_true rfl) hRf) (Nat.le_trans (Nat.le_of_ble_eq_true rfl) hRl) hcs dX9_next_193 (fun H locs hw hS => ?_)
      refine x_ifeqB hx hb dX9_next_196 (tgt := 303) (by decide) (fun cc => ?_) (fun cc => ?_)
      · replace hm := ite_n cc hm
        refine lv_iload_n hx hb dX9_next_303 rfl (lv_at hl 0 rfl) ?_
        refine lv_bipush (v := 40) hx hb dX9_next_304 (by decide) ?_
        refine lv_icmp_eq (tgt := 351) hx hb dX9_next_306 (by decide) (fun cc => ?_) (fun cc => ?_)
        · replace hm := ite_p cc hm
          refine lv_aload_n hx hb dX9_next_351 rfl (lv_at hl 1 rfl) ?_
          refine lv_iconst (v := 3) hx hb dX9_next_352 (by decide) ?_
          refine pX9_288 C hw hS dX9_next_353 (fun H locs hw hS => ?_)
          obtain ⟨x16, ev, hm⟩ := lt_e hm
          rw [← ev] at hw
          clear ev
          refine lv_aload_n hx hb dX9_next_356 rfl (lv_at hl 1 rfl) ?_
          refine lv_iload_n hx hb dX9_next_357 rfl (lv_at hl 0 rfl) ?_
          refine lv_i2l hx hb dX9_next_358 rfl ?_
          refine pX9_295 C hw hS dX9_next_359 (fun H locs hw hS => ?_)
          obtain ⟨x17, ev, hm⟩ := lt_e hm
          rw [← ev] at hw
          clear ev
          refine lv_aload_n hx hb dX9_next_362 rfl (lv_at hl 1 rfl) ?_
          refine lv_dup hx hb dX9_next_363 rfl ?_
          refine gX9_279 C hw dX9_next_364 ?_
          refine lv_iconst (v := 1) hx hb dX9_next_367 (by decide) ?_
          refine lv_iadd hx hb dX9_next_368 ?_
          refine pX9_279 C hw hS dX9_next_369 (fun H locs hw hS => ?_)
          obtain ⟨x18, ev, hm⟩ := lt_e hm
          rw [← ev] at hw
          clear ev
          obtain rfl := Option.some.inj hm
          exact xret_v C hw hS dX9_next_372
        · replace hm := ite_n cc hm
          refine lv_iload_n hx hb dX9_next_309 rfl (lv_at hl 0 rfl) ?_
          refine lv_bipush (v := 41) hx hb dX9_next_310 (by decide) ?_
          refine lv_icmp_eq (tgt := 351) hx hb dX9_next_312 (by decide) (fun cc => ?_) (fun cc => ?_)
          · replace hm := ite_p cc hm
            refine lv_aload_n hx hb dX9_next_351 rfl (lv_at hl 1 rfl) ?_
            refine lv_iconst (v := 3) hx hb dX9_next_352 (by decide) ?_
            refine pX9_288 C hw hS dX9_next_353 (fun H locs hw hS => ?_)
            obtain ⟨x19, ev, hm⟩ := lt_e hm
            rw [← ev] at hw
            clear ev
            refine lv_aload_n hx hb dX9_next_356 rfl (lv_at hl 1 rfl) ?_
            refine lv_iload_n hx hb dX9_next_357 rfl (lv_at hl 0 rfl) ?_
            refine lv_i2l hx hb dX9_next_358 rfl ?_
            refine pX9_295 C hw hS dX9_next_359 (fun H locs hw hS => ?_)
            obtain ⟨x20, ev, hm⟩ := lt_e hm
            rw [← ev] at hw
            clear ev
            refine lv_aload_n hx hb dX9_next_362 rfl (lv_at hl 1 rfl) ?_
            refine lv_dup hx hb dX9_next_363 rfl ?_
            refine gX9_279 C hw dX9_next_364 ?_
            refine lv_iconst (v := 1) hx hb dX9_next_367 (by decide) ?_
            refine lv_iadd hx hb dX9_next_368 ?_
            refine pX9_279 C hw hS dX9_next_369 (fun H locs hw hS => ?_)
            obtain ⟨x21, ev, hm⟩ := lt_e hm
            rw [← ev] at hw
            clear ev
            obtain rfl := Option.some.inj hm
            exact xret_v C hw hS dX9_next_372
          · replace hm := ite_n cc hm
            refine lv_iload_n hx hb dX9_next_315 rfl (lv_at hl 0 rfl) ?_
            refine lv_bipush (v := 59) hx hb dX9_next_316 (by decide) ?_
            refine lv_icmp_eq (tgt := 351) hx hb dX9_next_318 (by decide) (fun cc => ?_) (fun cc => ?_)
            · replace hm := ite_p cc hm
              refine lv_aload_n hx hb dX9_next_351 rfl (lv_at hl 1 rfl) ?_
              refine lv_iconst (v := 3) hx hb dX9_next_352 (by decide) ?_
              refine pX9_288 C hw hS dX9_next_353 (fun H locs hw hS => ?_)
              obtain ⟨x22, ev, hm⟩ := lt_e hm
              rw [← ev] at hw
              clear ev
              refine lv_aload_n hx hb dX9_next_356 rfl (lv_at hl 1 rfl) ?_
              refine lv_iload_n hx hb dX9_next_357 rfl (lv_at hl 0 rfl) ?_
              refine lv_i2l hx hb dX9_next_358 rfl ?_
              refine pX9_295 C hw hS dX9_next_359 (fun H locs hw hS => ?_)
              obtain ⟨x23, ev, hm⟩ := lt_e hm
              rw [← ev] at hw
              clear ev
              refine lv_aload_n hx hb dX9_next_362 rfl (lv_at hl 1 rfl) ?_
              refine lv_dup hx hb dX9_next_363 rfl ?_
              refine gX9_279 C hw dX9_next_364 ?_
              refine lv_iconst (v := 1) hx hb dX9_next_367 (by decide) ?_
              refine lv_iadd hx hb dX9_next_368 ?_
              refine pX9_279 C hw hS dX9_next_369 (fun H locs hw hS => ?_)
              obtain ⟨x24, ev, hm⟩ := lt_e hm
              rw [← ev] at hw
              clear ev
              obtain rfl := Option.some.inj hm
              exact xret_v C hw hS dX9_next_372
            · replace hm := ite_n cc hm
              refine lv_iload_n hx hb dX9_next_321 rfl (lv_at hl 0 rfl) ?_
              refine lv_bipush (v := 43) hx hb dX9_next_322 (by decide) ?_
              refine lv_icmp_eq (tgt := 351) hx hb dX9_next_324 (by decide) (fun cc => ?_) (fun cc => ?_)
              · replace hm := ite_p cc hm
                refine lv_aload_n hx hb dX9_next_351 rfl (lv_at hl 1 rfl) ?_
                refine lv_iconst (v := 3) hx hb dX9_next_352 (by decide) ?_
                refine pX9_288 C hw hS dX9_next_353 (fun H locs hw hS => ?_)
                obtain ⟨x25, ev, hm⟩ := lt_e hm
                rw [← ev] at hw
                clear ev
                refine lv_aload_n hx hb dX9_next_356 rfl (lv_at hl 1 rfl) ?_
                refine lv_iload_n hx hb dX9_next_357 rfl (lv_at hl 0 rfl) ?_
                refine lv_i2l hx hb dX9_next_358 rfl ?_
                refine pX9_295 C hw hS dX9_next_359 (fun H locs hw hS => ?_)
                obtain ⟨x26, ev, hm⟩ := lt_e hm
                rw [← ev] at hw
                clear ev
                refine lv_aload_n hx hb dX9_next_362 rfl (lv_at hl 1 rfl) ?_
                refine lv_dup hx hb dX9_next_363 rfl ?_
                refine gX9_279 C hw dX9_next_364 ?_
                refine lv_iconst (v := 1) hx hb dX9_next_367 (by decide) ?_
                refine lv_iadd hx hb dX9_next_368 ?_
                refine pX9_279 C hw hS dX9_next_369 (fun H locs hw hS => ?_)
                obtain ⟨x27, ev, hm⟩ := lt_e hm
                rw [← ev] at hw
                clear ev
                obtain rfl := Option.some.inj hm
                exact xret_v C hw hS dX9_next_372
              · replace hm := ite_n cc hm
                refine lv_iload_n hx hb dX9_next_327 rfl (lv_at hl 0 rfl) ?_
                refine lv_bipush (v := 45) hx hb dX9_next_328 (by decide) ?_
                refine lv_icmp_eq (tgt := 351) hx hb dX9_next_330 (by decide) (fun cc => ?_) (fun cc => ?_)
                · replace hm := ite_p cc hm
                  refine lv_aload_n hx hb dX9_next_351 rfl (lv_at hl 1 rfl) ?_
                  refine lv_iconst (v := 3) hx hb dX9_next_352 (by decide) ?_
                  refine pX9_288 C hw hS dX9_next_353 (fun H locs hw hS => ?_)
                  obtain ⟨x28, ev, hm⟩ := lt_e hm
                  rw [← ev] at hw
                  clear ev
                  refine lv_aload_n hx hb dX9_next_356 rfl (lv_at hl 1 rfl) ?_
                  refine lv_iload_n hx hb dX9_next_357 rfl (lv_at hl 0 rfl) ?_
                  refine lv_i2l hx hb dX9_next_358 rfl ?_
                  refine pX9_295 C hw hS dX9_next_359 (fun H locs hw hS => ?_)
                  obtain ⟨x29, ev, hm⟩ := lt_e hm
                  rw [← ev] at hw
                  clear ev
                  refine lv_aload_n hx hb dX9_next_362 rfl (lv_at hl 1 rfl) ?_
                  refine lv_dup hx hb dX9_next_363 rfl ?_
                  refine gX9_279 C hw dX9_next_364 ?_
                  refine lv_iconst (v := 1) hx hb dX9_next_367 (by decide) ?_
                  refine lv_iadd hx hb dX9_next_368 ?_
                  refine pX9_279 C hw hS dX9_next_369 (fun H locs hw hS => ?_)
                  obtain ⟨x30, ev, hm⟩ := lt_e hm
                  rw [← ev] at hw
                  clear ev
                  obtain rfl := Option.some.inj hm
                  exact xret_v C hw hS dX9_next_372
                · replace hm := ite_n cc hm
                  refine lv_iload_n hx hb dX9_next_333 rfl (lv_at hl 0 rfl) ?_
                  refine lv_bipush (v := 42) hx hb dX9_next_334 (by decide) ?_
                  refine lv_icmp_eq (tgt := 351) hx hb dX9_next_336 (by decide) (fun cc => ?_) (fun cc => ?_)
                  · replace hm := ite_p cc hm
                    refine lv_aload_n hx hb dX9_next_351 rfl (lv_at hl 1 rfl) ?_
                    refine lv_iconst (v := 3) hx hb dX9_next_352 (by decide) ?_
                    refine pX9_288 C hw hS dX9_next_353 (fun H locs hw hS => ?_)
                    obtain ⟨x31, ev, hm⟩ := lt_e hm
                    rw [← ev] at hw
                    clear ev
                    refine lv_aload_n hx hb dX9_next_356 rfl (lv_at hl 1 rfl) ?_
                    refine lv_iload_n hx hb dX9_next_357 rfl (lv_at hl 0 rfl) ?_
                    refine lv_i2l hx hb dX9_next_358 rfl ?_
                    refine pX9_295 C hw hS dX9_next_359 (fun H locs hw hS => ?_)
                    obtain ⟨x32, ev, hm⟩ := lt_e hm
                    rw [← ev] at hw
                    clear ev
                    refine lv_aload_n hx hb dX9_next_362 rfl (lv_at hl 1 rfl) ?_
                    refine lv_dup hx hb dX9_next_363 rfl ?_
                    refine gX9_279 C hw dX9_next_364 ?_
                    refine lv_iconst (v := 1) hx hb dX9_next_367 (by decide) ?_
                    refine lv_iadd hx hb dX9_next_368 ?_
                    refine pX9_279 C hw hS dX9_next_369 (fun H locs hw hS => ?_)
                    obtain ⟨x33, ev, hm⟩ := lt_e hm
                    rw [← ev] at hw
                    clear ev
                    obtain rfl := Option.some.inj hm
                    exact xret_v C hw hS dX9_next_372
                  · replace hm := ite_n cc hm
                    refine lv_iload_n hx hb dX9_next_339 rfl (lv_at hl 0 rfl) ?_
                    refine lv_bipush (v := 60) hx hb dX9_next_340 (by decide) ?_
                    refine lv_icmp_eq (tgt := 351) hx hb dX9_next_342 (by decide) (fun cc => ?_) (fun cc => ?_)
                    · replace hm := ite_p cc hm
                      refine lv_aload_n hx hb dX9_next_351 rfl (lv_at hl 1 rfl) ?_
                      refine lv_iconst (v := 3) hx hb dX9_next_352 (by decide) ?_
                      refine pX9_288 C hw hS dX9_next_353 (fun H locs hw hS => ?_)
                      obtain ⟨x34, ev, hm⟩ := lt_e hm
                      rw [← ev] at hw
                      clear ev
                      refine lv_aload_n hx hb dX9_next_356 rfl (lv_at hl 1 rfl) ?_
                      refine lv_iload_n hx hb dX9_next_357 rfl (lv_at hl 0 rfl) ?_
                      refine lv_i2l hx hb dX9_next_358 rfl ?_
                      refine pX9_295 C hw hS dX9_next_359 (fun H locs hw hS => ?_)
                      obtain ⟨x35, ev, hm⟩ := lt_e hm
                      rw [← ev] at hw
                      clear ev
                      refine lv_aload_n hx hb dX9_next_362 rfl (lv_at hl 1 rfl) ?_
                      refine lv_dup hx hb dX9_next_363 rfl ?_
                      refine gX9_279 C hw dX9_next_364 ?_
                      refine lv_iconst (v := 1) hx hb dX9_next_367 (by decide) ?_
                      refine lv_iadd hx hb dX9_next_368 ?_
                      refine pX9_279 C hw hS dX9_next_369 (fun H locs hw hS => ?_)
                      obtain ⟨x36, ev, hm⟩ := lt_e hm
                      rw [← ev] at hw
                      clear ev
                      obtain rfl := Option.some.inj hm
                      exact xret_v C hw hS dX9_next_372
                    · replace hm := ite_n cc hm
                      refine lv_iload_n hx hb dX9_next_345 rfl (lv_at hl 0 rfl) ?_
                      refine lv_bipush (v := 61) hx hb dX9_next_346 (by decide) ?_
                      refine lv_icmp_ne (tgt := 372) hx hb dX9_next_348 (by decide) (fun cc => ?_) (fun cc => ?_)
                      · replace hm := ite_n cc hm
                        obtain rfl := Option.some.inj hm
                        exact xret_v C hw hS dX9_next_372
                      · replace hm := ite_p cc hm
                        refine lv_aload_n hx hb dX9_next_351 rfl (lv_at hl 1 rfl) ?_
                        refine lv_iconst (v := 3) hx hb dX9_next_352 (by decide) ?_
                        refine pX9_288 C hw hS dX9_next_353 (fun H locs hw hS => ?_)
                        obtain ⟨x37, ev, hm⟩ := lt_e hm
                        rw [← ev] at hw
                        clear ev
                        refine lv_aload_n hx hb dX9_next_356 rfl (lv_at hl 1 rfl) ?_
                        refine lv_iload_n hx hb dX9_next_357 rfl (lv_at hl 0 rfl) ?_
                        refine lv_i2l hx hb dX9_next_358 rfl ?_
                        refine pX9_295 C hw hS dX9_next_359 (fun H locs hw hS => ?_)
                        obtain ⟨x38, ev, hm⟩ := lt_e hm
                        rw [← ev] at hw
                        clear ev
                        refine lv_aload_n hx hb dX9_next_362 rfl (lv_at hl 1 rfl) ?_
                        refine lv_dup hx hb dX9_next_363 rfl ?_
                        refine gX9_279 C hw dX9_next_364 ?_
                        refine lv_iconst (v := 1) hx hb dX9_next_367 (by decide) ?_
                        refine lv_iadd hx hb dX9_next_368 ?_
                        refine pX9_279 C hw hS dX9_next_369 (fun H locs hw hS => ?_)
                        obtain ⟨x39, ev, hm⟩ := lt_e hm
                        rw [← ev] at hw
                        clear ev
                        obtain rfl := Option.some.inj hm
                        exact xret_v C hw hS dX9_next_372
      · replace hm := ite_p cc hm
        refine lv_aload_n hx hb dX9_next_199 rfl (lv_at hl 1 rfl) ?_
        refine lv_iconst (v := 2) hx hb dX9_next_200 (by decide) ?_
        refine pX9_288 C hw hS dX9_next_201 (fun H locs hw hS => ?_)
        obtain ⟨x40, ev, hm⟩ := lt_e hm
        rw [← ev] at hw
        clear ev
        refine lv_aload_n hx hb dX9_next_204 rfl (lv_at hl 1 rfl) ?_
        refine lv_lconst (v := 0) hx hb dX9_next_205 (by decide) ?_
        refine pX9_295 C hw hS dX9_next_206 (fun H locs hw hS => ?_)
        obtain ⟨x41, ev, hm⟩ := lt_e hm
        rw [← ev] at hw
        clear ev
        refine lv_iconst (v := 0) hx hb dX9_next_209 (by decide) ?_
        refine lv_istore_n (lv' := [(2, .int 0), (1, .int v9), (0, .ref β)]) hx hb dX9_next_210 rfl hl (by decide) rfl (fun ls hl => ?_)
        obtain ⟨v54, x55, hj, hm⟩ := bind2_e hm
        refine lX9_next_211 C hRf hRl hcs NF _ _ _ _ _ _ hj hw hS (lv_sub hl [2, 0] rfl) (fun v54_ x55_ e0 H locs ls hw hS hl => ?_)
        cases e0
        refine lv_aload_n hx hb dX9_next_286 rfl (lv_at hl 0 rfl) ?_
        refine lv_iload_n hx hb dX9_next_287 rfl (lv_at hl 1 rfl) ?_
        refine lv_iconst (v := 4) hx hb dX9_next_288 (by decide) ?_
        refine lv_icmp_le (tgt := 296) hx hb dX9_next_289 (by decide) (fun cc => ?_) (fun cc => ?_)
        · replace hm := ite_p cc hm
          refine lv_iconst (v := 2) hx hb dX9_next_296 (by decide) ?_
          refine pX9_288 C hw hS dX9_next_297 (fun H locs hw hS => ?_)
          obtain ⟨x56, ev, hm⟩ := lt_e hm
          rw [← ev] at hw
          clear ev
          refine lv_goto (tgt := 372) hx hb dX9_next_300 (by decide) ?_
          obtain rfl := Option.some.inj hm
          exact xret_v C hw hS dX9_next_372
        · replace hm := ite_n cc hm
          refine lv_iconst (v := 4) hx hb dX9_next_292 (by decide) ?_
          refine lv_goto (tgt := 297) hx hb dX9_next_293 (by decide) ?_
          refine pX9_288 C hw hS dX9_next_297 (fun H locs hw hS => ?_)
          obtain ⟨x57, ev, hm⟩ := lt_e hm
          rw [← ev] at hw
          clear ev
          refine lv_goto (tgt := 372) hx hb dX9_next_300 (by decide) ?_
          obtain rfl := Option.some.inj hm
          exact xret_v C hw hS dX9_next_372
    · replace hm := ite_p cc hm
      refine lv_aload_n hx hb dX9_next_95 rfl (lv_at hl 1 rfl) ?_
      refine lv_iconst (v := 1) hx hb dX9_next_96 (by decide) ?_
      refine pX9_288 C hw hS dX9_next_97 (fun H locs hw hS => ?_)
      obtain ⟨x58, ev, hm⟩ := lt_e hm
      rw [← ev] at hw
      clear ev
      refine lv_aload_n hx hb dX9_next_100 rfl (lv_at hl 1 rfl) ?_
      refine lv_lconst (v := 0) hx hb dX9_next_101 (by decide) ?_
      refine pX9_295 C hw hS dX9_next_102 (fun H locs hw hS => ?_)
      obtain ⟨x59, ev, hm⟩ := lt_e hm
      rw [← ev] at hw
      clear ev
      refine lv_iconst (v := 0) hx hb dX9_next_105 (by decide) ?_
      refine lv_istore_n (lv' := [(2, .int 0), (1, .int v9), (0, .ref β)]) hx hb dX9_next_106 rfl hl (by decide) rfl (fun ls hl => ?_)
      obtain ⟨x72, hj, hm⟩ := bind_e hm
      refine lX9_next_107 C hRf hRl hcs NF _ _ _ _ _ _ hj hw hS (lv_sub hl [2, 0] rfl) (fun x72_ e0 H locs ls hw hS hl => ?_)
      cases e0
      refine lv_goto (tgt := 372) hx hb dX9_next_182 (by decide) ?_
      obtain rfl := Option.some.inj hm
      exact xret_v C hw hS dX9_next_372
  · replace hm := ite_n cc hm
    refine lv_aload_n hx hb dX9_next_65 rfl (lv_at hl 1 rfl) ?_
    refine lv_iconst (v := 0) hx hb dX9_next_66 (by decide) ?_
    refine pX9_288 C hw hS dX9_next_67 (fun H locs hw hS => ?_)
    obtain ⟨x73, ev, hm⟩ := lt_e hm
    rw [← ev] at hw
    clear ev
    refine lv_aload_n hx hb dX9_next_70 rfl (lv_at hl 1 rfl) ?_
    refine lv_aload_n hx hb dX9_next_71 rfl (lv_at hl 1 rfl) ?_
    refine gX9_273 C hw dX9_next_72 ?_
    refine pX9_285 C hw hS dX9_next_75 (fun H locs hw hS => ?_)
    obtain ⟨x74, ev, hm⟩ := lt_e hm
    rw [← ev] at hw
    clear ev
    refine lv_goto (tgt := 372) hx hb dX9_next_78 (by decide) ?_
    obtain rfl := Option.some.inj hm
    exact xret_v C hw hS dX9_next_372
theorem dX9_fail_0 : decode cX9_fail 0 = .ok (.aload_n 0, 1) := by decide +kernel
theorem dX9_fail_1 : decode cX9_fail 1 = .ok (.getfield 309, 3) := by decide +kernel
theorem dX9_fail_4 : decode cX9_fail 4 = .ok (.ifCond .ne 16, 3) := by decide +kernel
theorem dX9_fail_7 : decode cX9_fail 7 = .ok (.aload_n 0, 1) := by decide +kernel
theorem dX9_fail_8 : decode cX9_fail 8 = .ok (.iconst 1, 1) := by decide +kernel
theorem dX9_fail_9 : decode cX9_fail 9 = .ok (.putfield 309, 3) := by decide +kernel
theorem dX9_fail_12 : decode cX9_fail 12 = .ok (.aload_n 0, 1) := by decide +kernel
theorem dX9_fail_13 : decode cX9_fail 13 = .ok (.aload_n 0, 1) := by decide +kernel
theorem dX9_fail_14 : decode cX9_fail 14 = .ok (.getfield 285, 3) := by decide +kernel
theorem dX9_fail_17 : decode cX9_fail 17 = .ok (.putfield 313, 3) := by decide +kernel
theorem dX9_fail_20 : decode cX9_fail 20 = .ok (.return_, 1) := by decide +kernel
theorem gX9_309 {p : Program} {l : Launch} {e : Env} {R : Room} {s : State} {m : MethodId} {args : Array Value} {below : List Frame} {meth : Method} {c : Code} {H : Heap} {locs : List Loc} {cells slots : Nat} {Q : State → Prop} {cc : ByteArray} {pc nL : Nat} {ls : Array Slot} {rest : List Value} {ret : Option FieldType} {G : xG} {β N : Nat} {x : MS} (C : Cx p s m args meth c RX9 cc nL ret (KK G)) (hw : MW β G N x H) (hd : decode cc pc = .ok (.getfield 309, 3)) (kk : W p l e R s m args below meth c H locs cells slots Q (F0 m (pc + 3) ls (.int (x.1 0 29) :: rest))) : W p l e R s m args below meth c H locs cells slots Q (F0 m pc ls (.ref β :: rest)) :=
  va_get C.1 C.2.1 C.2.2.2.2.1 iwX9 C.2.2.2.1 C.K.1 (xP1 (hw.2 0 (by decide))) 0 rfl rfl 29 (by decide) (C.2.2.2.2.1 (.fieldLink RX9 309 RX9 "bad" "Z") (tg 945 (by decide +kernel) rfl)) (fun _ h9 => h9) rfl hd kk
theorem pX9_309 {p : Program} {l : Launch} {e : Env} {R : Room} {s : State} {m : MethodId} {args : Array Value} {below : List Frame} {meth : Method} {c : Code} {H : Heap} {locs : List Loc} {cells slots : Nat} {Q : State → Prop} {cc : ByteArray} {pc nL : Nat} {ls : Array Slot} {rest : List Value} {ret : Option FieldType} {G : xG} {β N : Nat} {x : MS} {b : Bool} (C : Cx p s m args meth c RX9 cc nL ret (KK G)) (hw : MW β G N x H) (hS : va_S (AM β) s.heap H locs) (hd : decode cc pc = .ok (.putfield 309, 3)) (kk : ∀ (H1 : Heap) (locs1 : List Loc), MW β G N (msS x 0 29 (bI b)) H1 → va_S (AM β) s.heap H1 locs1 → W p l e R s m args below meth c H1 locs1 cells slots Q (F0 m (pc + 3) ls (rest))) : W p l e R s m args below meth c H locs cells slots Q (F0 m pc ls (.int (bI b) :: .ref β :: rest)) :=
  x_put C.1 C.2.1 C.2.2.2.2.1 iwX9 tyX9 tyX9_ok nmX9 C.2.2.2.1 C.K.1 hS (hw.2 0 (by decide)) (AM.in (by decide)) rfl 29 (by decide) (C.2.2.2.2.1 (.fieldLink RX9 309 RX9 "bad" "Z") (tg 945 (by decide +kernel) rfl)) (fun _ h9 => h9) rfl (ty := .boolean) (by decide +kernel) (bI_nar b) (bI_fits b) (Nat.le_of_ble_eq_true rfl) hd (fun H1 locs1 hat ho hS => kk H1 locs1 (hw.setS 0 29 (bI b) hat ho) hS)
theorem gX9_285 {p : Program} {l : Launch} {e : Env} {R : Room} {s : State} {m : MethodId} {args : Array Value} {below : List Frame} {meth : Method} {c : Code} {H : Heap} {locs : List Loc} {cells slots : Nat} {Q : State → Prop} {cc : ByteArray} {pc nL : Nat} {ls : Array Slot} {rest : List Value} {ret : Option FieldType} {G : xG} {β N : Nat} {x : MS} (C : Cx p s m args meth c RX9 cc nL ret (KK G)) (hw : MW β G N x H) (hd : decode cc pc = .ok (.getfield 285, 3)) (kk : W p l e R s m args below meth c H locs cells slots Q (F0 m (pc + 3) ls (.int (x.1 0 25) :: rest))) : W p l e R s m args below meth c H locs cells slots Q (F0 m pc ls (.ref β :: rest)) :=
  va_get C.1 C.2.1 C.2.2.2.2.1 iwX9 C.2.2.2.1 C.K.1 (xP1 (hw.2 0 (by decide))) 0 rfl rfl 25 (by decide) (C.2.2.2.2.1 (.fieldLink RX9 285 RX9 "tokenAt" "I") (tg 941 (by decide +kernel) rfl)) (fun _ h9 => h9) rfl hd kk
theorem pX9_313 {p : Program} {l : Launch} {e : Env} {R : Room} {s : State} {m : MethodId} {args : Array Value} {below : List Frame} {meth : Method} {c : Code} {H : Heap} {locs : List Loc} {cells slots : Nat} {Q : State → Prop} {cc : ByteArray} {pc nL : Nat} {ls : Array Slot} {rest : List Value} {ret : Option FieldType} {G : xG} {β N : Nat} {x : MS} {v : Int32} (C : Cx p s m args meth c RX9 cc nL ret (KK G)) (hw : MW β G N x H) (hS : va_S (AM β) s.heap H locs) (hd : decode cc pc = .ok (.putfield 313, 3)) (kk : ∀ (H1 : Heap) (locs1 : List Loc), MW β G N (msS x 0 30 v) H1 → va_S (AM β) s.heap H1 locs1 → W p l e R s m args below meth c H1 locs1 cells slots Q (F0 m (pc + 3) ls (rest))) : W p l e R s m args below meth c H locs cells slots Q (F0 m pc ls (.int v :: .ref β :: rest)) :=
  x_put C.1 C.2.1 C.2.2.2.2.1 iwX9 tyX9 tyX9_ok nmX9 C.2.2.2.1 C.K.1 hS (hw.2 0 (by decide)) (AM.in (by decide)) rfl 30 (by decide) (C.2.2.2.2.1 (.fieldLink RX9 313 RX9 "fault" "I") (tg 946 (by decide +kernel) rfl)) (fun _ h9 => h9) rfl (ty := .int) (by decide +kernel) rfl rfl (Nat.le_of_ble_eq_true rfl) hd (fun H1 locs1 hat ho hS => kk H1 locs1 (hw.setS 0 30 v hat ho) hS)
def fX9_fail (x : MS) : Option (MS) := if (x.1 0 29) = 0 then lt (msS x 0 29 (bI true)) fun x1 => lt (msS x1 0 30 (x1.1 0 25)) fun x2 => some x2 else some x
abbrev rmX9_fail : Room := { frames := 0, cells := 0, slots := 0, locals := 0 }
set_option maxHeartbeats 4000000 in
set_option maxRecDepth 100000 in
theorem kX9_fail {l : Launch} {G : xG} {β N : Nat} {x x' : MS} (hm : fX9_fail x = some x') : Met l yX9_fail (.code yX9_fail cX9_fail 1 none :: GT) rmX9_fail (PcW [.ref β] (MW β G N x) (KK G)) (QcW (AM β) none (MW β G N x')) 0 0 (AM β) := by
  unfold fX9_fail at hm
  refine xpro (own := RX9) (by decide +kernel) rfl (Nat.le_of_ble_eq_true rfl) ?_
  intro p e s m args below meth c C hw ls hl
  have hx := C.1
  have hb := C.2.1
  have ho := C.2.2.2.1
  have hts := C.2.2.2.2.1
  have hS : va_S (AM β) s.heap s.heap [] := va_S.rf
  have hl : lv_has ls 1 [(0, .ref β)] := hl
  have hRf : 0 ≤ rmX9_fail.frames := Nat.le_refl _
  have hRl : 0 ≤ rmX9_fail.locals := Nat.le_refl _
  have hcs : 0 ≤ rmX9_fail.cells ∧ 0 ≤ rmX9_fail.slots := ⟨Nat.le_refl _, Nat.le_refl _⟩
  refine lv_aload_n hx hb dX9_fail_0 rfl (lv_at hl 0 rfl) ?_
  refine gX9_309 C hw dX9_fail_1 ?_
  refine lv_if_ne (tgt := 20) hx hb dX9_fail_4 (by decide) (fun cc => ?_) (fun cc => ?_)
  · replace hm := ite_n cc hm
    obtain rfl := Option.some.inj hm
    exact xret_v C hw hS dX9_fail_20
  · replace hm := ite_p cc hm
    refine lv_aload_n hx hb dX9_fail_7 rfl (lv_at hl 0 rfl) ?_
    refine lv_iconst (v := 1) hx hb dX9_fail_8 (by decide) ?_
    refine pX9_309 (b := true) C hw hS dX9_fail_9 (fun H locs hw hS => ?_)
    obtain ⟨x1, ev, hm⟩ := lt_e hm
    rw [← ev] at hw
    clear ev
    refine lv_aload_n hx hb dX9_fail_12 rfl (lv_at hl 0 rfl) ?_
    refine lv_aload_n hx hb dX9_fail_13 rfl (lv_at hl 0 rfl) ?_
    refine gX9_285 C hw dX9_fail_14 ?_
    refine pX9_313 C hw hS dX9_fail_17 (fun H locs hw hS => ?_)
    obtain ⟨x2, ev, hm⟩ := lt_e hm
    rw [← ev] at hw
    clear ev
    obtain rfl := Option.some.inj hm
    exact xret_v C hw hS dX9_fail_20
theorem dX9_isWord_0 : decode cX9_isWord 0 = .ok (.aload_n 0, 1) := by decide +kernel
theorem dX9_isWord_1 : decode cX9_isWord 1 = .ok (.getfield 309, 3) := by decide +kernel
theorem dX9_isWord_4 : decode cX9_isWord 4 = .ok (.ifCond .ne 24, 3) := by decide +kernel
theorem dX9_isWord_7 : decode cX9_isWord 7 = .ok (.aload_n 0, 1) := by decide +kernel
theorem dX9_isWord_8 : decode cX9_isWord 8 = .ok (.getfield 288, 3) := by decide +kernel
theorem dX9_isWord_11 : decode cX9_isWord 11 = .ok (.iconst 1, 1) := by decide +kernel
theorem dX9_isWord_12 : decode cX9_isWord 12 = .ok (.if_icmp .ne 16, 3) := by decide +kernel
theorem dX9_isWord_15 : decode cX9_isWord 15 = .ok (.aload_n 0, 1) := by decide +kernel
theorem dX9_isWord_16 : decode cX9_isWord 16 = .ok (.getfield 295, 3) := by decide +kernel
theorem dX9_isWord_19 : decode cX9_isWord 19 = .ok (.lload_n 1, 1) := by decide +kernel
theorem dX9_isWord_20 : decode cX9_isWord 20 = .ok (.lcmp, 1) := by decide +kernel
theorem dX9_isWord_21 : decode cX9_isWord 21 = .ok (.ifCond .ne 7, 3) := by decide +kernel
theorem dX9_isWord_24 : decode cX9_isWord 24 = .ok (.iconst 1, 1) := by decide +kernel
theorem dX9_isWord_25 : decode cX9_isWord 25 = .ok (.goto 4, 3) := by decide +kernel
theorem dX9_isWord_28 : decode cX9_isWord 28 = .ok (.iconst 0, 1) := by decide +kernel
theorem dX9_isWord_29 : decode cX9_isWord 29 = .ok (.ireturn, 1) := by decide +kernel
theorem gX9_288 {p : Program} {l : Launch} {e : Env} {R : Room} {s : State} {m : MethodId} {args : Array Value} {below : List Frame} {meth : Method} {c : Code} {H : Heap} {locs : List Loc} {cells slots : Nat} {Q : State → Prop} {cc : ByteArray} {pc nL : Nat} {ls : Array Slot} {rest : List Value} {ret : Option FieldType} {G : xG} {β N : Nat} {x : MS} (C : Cx p s m args meth c RX9 cc nL ret (KK G)) (hw : MW β G N x H) (hd : decode cc pc = .ok (.getfield 288, 3)) (kk : W p l e R s m args below meth c H locs cells slots Q (F0 m (pc + 3) ls (.int (x.1 0 24) :: rest))) : W p l e R s m args below meth c H locs cells slots Q (F0 m pc ls (.ref β :: rest)) :=
  va_get C.1 C.2.1 C.2.2.2.2.1 iwX9 C.2.2.2.1 C.K.1 (xP1 (hw.2 0 (by decide))) 0 rfl rfl 24 (by decide) (C.2.2.2.2.1 (.fieldLink RX9 288 RX9 "token" "I") (tg 940 (by decide +kernel) rfl)) (fun _ h9 => h9) rfl hd kk
def fX9_isWord (x : MS) (a1 : Int64) : Option (Bool) := if (x.1 0 29) = 0 then if (x.1 0 24) = 1 then if (x.2.2 0 26) = a1 then some true else some false else some false else some false
abbrev rmX9_isWord : Room := { frames := 0, cells := 0, slots := 0, locals := 0 }
set_option maxHeartbeats 4000000 in
set_option maxRecDepth 100000 in
theorem kX9_isWord {l : Launch} {G : xG} {β N : Nat} {x : MS} {a1 : Int64} {r : Bool} (hm : fX9_isWord x a1 = some r) : Met l yX9_isWord (.code yX9_isWord cX9_isWord 3 (some .boolean) :: GT) rmX9_isWord (PcW [.ref β, .long a1] (MW β G N x) (KK G)) (QcW (AM β) (some (.int (bI r))) (MW β G N x)) 0 0 (AM β) := by
  unfold fX9_isWord at hm
  refine xpro (own := RX9) (by decide +kernel) rfl (Nat.le_of_ble_eq_true rfl) ?_
  intro p e s m args below meth c C hw ls hl
  have hx := C.1
  have hb := C.2.1
  have ho := C.2.2.2.1
  have hts := C.2.2.2.2.1
  have hS : va_S (AM β) s.heap s.heap [] := va_S.rf
  have hl : lv_has ls 3 [(0, .ref β), (1, .long a1)] := hl
  have hRf : 0 ≤ rmX9_isWord.frames := Nat.le_refl _
  have hRl : 0 ≤ rmX9_isWord.locals := Nat.le_refl _
  have hcs : 0 ≤ rmX9_isWord.cells ∧ 0 ≤ rmX9_isWord.slots := ⟨Nat.le_refl _, Nat.le_refl _⟩
  refine lv_aload_n hx hb dX9_isWord_0 rfl (lv_at hl 0 rfl) ?_
  refine gX9_309 C hw dX9_isWord_1 ?_
  refine lv_if_ne (tgt := 28) hx hb dX9_isWord_4 (by decide) (fun cc => ?_) (fun cc => ?_)
  · replace hm := ite_n cc hm
    refine lv_iconst (v := 0) hx hb dX9_isWord_28 (by decide) ?_
    obtain rfl := Option.some.inj hm
    exact xret_z (v := bI false) C (bI_nar _) hw hS dX9_isWord_29
  · replace hm := ite_p cc hm
    refine lv_aload_n hx hb dX9_isWord_7 rfl (lv_at hl 0 rfl) ?_
    refine gX9_288 C hw dX9_isWord_8 ?_
    refine lv_iconst (v := 1) hx hb dX9_isWord_11 (by decide) ?_
    refine lv_icmp_ne (tgt := 28) hx hb dX9_isWord_12 (by decide) (fun cc => ?_) (fun cc => ?_)
    · replace hm := ite_n cc hm
      refine lv_iconst (v := 0) hx hb dX9_isWord_28 (by decide) ?_
      obtain rfl := Option.some.inj hm
      exact xret_z (v := bI false) C (bI_nar _) hw hS dX9_isWord_29
    · replace hm := ite_p cc hm
      refine lv_aload_n hx hb dX9_isWord_15 rfl (lv_at hl 0 rfl) ?_
      refine gX9_295 C hw dX9_isWord_16 ?_
      refine lv_lload_n hx hb dX9_isWord_19 rfl (lv_at hl 1 rfl) ?_
      refine W.lcmp hx hb dX9_isWord_20 ?_
      refine lv_if_ne (tgt := 28) hx hb dX9_isWord_21 (by decide) (fun cc => ?_) (fun cc => ?_)
      · rw [lg_cmp_eq] at cc
        replace hm := ite_n cc hm
        refine lv_iconst (v := 0) hx hb dX9_isWord_28 (by decide) ?_
        obtain rfl := Option.some.inj hm
        exact xret_z (v := bI false) C (bI_nar _) hw hS dX9_isWord_29
      · rw [lg_cmp_eq] at cc
        replace hm := ite_p cc hm
        refine lv_iconst (v := 1) hx hb dX9_isWord_24 (by decide) ?_
        refine lv_goto (tgt := 29) hx hb dX9_isWord_25 (by decide) ?_
        obtain rfl := Option.some.inj hm
        exact xret_z (v := bI true) C (bI_nar _) hw hS dX9_isWord_29
theorem dX9_isSign_0 : decode cX9_isSign 0 = .ok (.aload_n 0, 1) := by decide +kernel
theorem dX9_isSign_1 : decode cX9_isSign 1 = .ok (.getfield 309, 3) := by decide +kernel
theorem dX9_isSign_4 : decode cX9_isSign 4 = .ok (.ifCond .ne 25, 3) := by decide +kernel
theorem dX9_isSign_7 : decode cX9_isSign 7 = .ok (.aload_n 0, 1) := by decide +kernel
theorem dX9_isSign_8 : decode cX9_isSign 8 = .ok (.getfield 288, 3) := by decide +kernel
theorem dX9_isSign_11 : decode cX9_isSign 11 = .ok (.iconst 3, 1) := by decide +kernel
theorem dX9_isSign_12 : decode cX9_isSign 12 = .ok (.if_icmp .ne 17, 3) := by decide +kernel
theorem dX9_isSign_15 : decode cX9_isSign 15 = .ok (.aload_n 0, 1) := by decide +kernel
theorem dX9_isSign_16 : decode cX9_isSign 16 = .ok (.getfield 295, 3) := by decide +kernel
theorem dX9_isSign_19 : decode cX9_isSign 19 = .ok (.iload_n 1, 1) := by decide +kernel
theorem dX9_isSign_20 : decode cX9_isSign 20 = .ok (.i2l, 1) := by decide +kernel
theorem dX9_isSign_21 : decode cX9_isSign 21 = .ok (.lcmp, 1) := by decide +kernel
theorem dX9_isSign_22 : decode cX9_isSign 22 = .ok (.ifCond .ne 7, 3) := by decide +kernel
theorem dX9_isSign_25 : decode cX9_isSign 25 = .ok (.iconst 1, 1) := by decide +kernel
theorem dX9_isSign_26 : decode cX9_isSign 26 = .ok (.goto 4, 3) := by decide +kernel
theorem dX9_isSign_29 : decode cX9_isSign 29 = .ok (.iconst 0, 1) := by decide +kernel
theorem dX9_isSign_30 : decode cX9_isSign 30 = .ok (.ireturn, 1) := by decide +kernel
def fX9_isSign (x : MS) (a1 : Int32) : Option (Bool) := if (x.1 0 29) = 0 then if (x.1 0 24) = 3 then if (x.2.2 0 26) = (a1.toInt64) then some true else some false else some false else some false
abbrev rmX9_isSign : Room := { frames := 0, cells := 0, slots := 0, locals := 0 }
set_option maxHeartbeats 4000000 in
set_option maxRecDepth 100000 in
theorem kX9_isSign {l : Launch} {G : xG} {β N : Nat} {x : MS} {a1 : Int32} {r : Bool} (hm : fX9_isSign x a1 = some r) : Met l yX9_isSign (.code yX9_isSign cX9_isSign 2 (some .boolean) :: GT) rmX9_isSign (PcW [.ref β, .int a1] (MW β G N x) (KK G)) (QcW (AM β) (some (.int (bI r))) (MW β G N x)) 0 0 (AM β) := by
  unfold fX9_isSign at hm
  refine xpro (own := RX9) (by decide +kernel) rfl (Nat.le_of_ble_eq_true rfl) ?_
  intro p e s m args below meth c C hw ls hl
  have hx := C.1
  have hb := C.2.1
  have ho := C.2.2.2.1
  have hts := C.2.2.2.2.1
  have hS : va_S (AM β) s.heap s.heap [] := va_S.rf
  have hl : lv_has ls 2 [(0, .ref β), (1, .int a1)] := hl
  have hRf : 0 ≤ rmX9_isSign.frames := Nat.le_refl _
  have hRl : 0 ≤ rmX9_isSign.locals := Nat.le_refl _
  have hcs : 0 ≤ rmX9_isSign.cells ∧ 0 ≤ rmX9_isSign.slots := ⟨Nat.le_refl _, Nat.le_refl _⟩
  refine lv_aload_n hx hb dX9_isSign_0 rfl (lv_at hl 0 rfl) ?_
  refine gX9_309 C hw dX9_isSign_1 ?_
  refine lv_if_ne (tgt := 29) hx hb dX9_isSign_4 (by decide) (fun cc => ?_) (fun cc => ?_)
  · replace hm := ite_n cc hm
    refine lv_iconst (v := 0) hx hb dX9_isSign_29 (by decide) ?_
    obtain rfl := Option.some.inj hm
    exact xret_z (v := bI false) C (bI_nar _) hw hS dX9_isSign_30
  · replace hm := ite_p cc hm
    refine lv_aload_n hx hb dX9_isSign_7 rfl (lv_at hl 0 rfl) ?_
    refine gX9_288 C hw dX9_isSign_8 ?_
    refine lv_iconst (v := 3) hx hb dX9_isSign_11 (by decide) ?_
    refine lv_icmp_ne (tgt := 29) hx hb dX9_isSign_12 (by decide) (fun cc => ?_) (fun cc => ?_)
    · replace hm := ite_n cc hm
      refine lv_iconst (v := 0) hx hb dX9_isSign_29 (by decide) ?_
      obtain rfl := Option.some.inj hm
      exact xret_z (v := bI false) C (bI_nar _) hw hS dX9_isSign_30
    · replace hm := ite_p cc hm
      refine lv_aload_n hx hb dX9_isSign_15 rfl (lv_at hl 0 rfl) ?_
      refine gX9_295 C hw dX9_isSign_16 ?_
      refine lv_iload_n hx hb dX9_isSign_19 rfl (lv_at hl 1 rfl) ?_
      refine lv_i2l hx hb dX9_isSign_20 rfl ?_
      refine W.lcmp hx hb dX9_isSign_21 ?_
      refine lv_if_ne (tgt := 29) hx hb dX9_isSign_22 (by decide) (fun cc => ?_) (fun cc => ?_)
      · rw [lg_cmp_eq] at cc
        replace hm := ite_n cc hm
        refine lv_iconst (v := 0) hx hb dX9_isSign_29 (by decide) ?_
        obtain rfl := Option.some.inj hm
        exact xret_z (v := bI false) C (bI_nar _) hw hS dX9_isSign_30
      · rw [lg_cmp_eq] at cc
        replace hm := ite_p cc hm
        refine lv_iconst (v := 1) hx hb dX9_isSign_25 (by decide) ?_
        refine lv_goto (tgt := 30) hx hb dX9_isSign_26 (by decide) ?_
        obtain rfl := Option.some.inj hm
        exact xret_z (v := bI true) C (bI_nar _) hw hS dX9_isSign_30
theorem dX9_opens_0 : decode cX9_opens 0 = .ok (.aload_n 0, 1) := by decide +kernel
theorem dX9_opens_1 : decode cX9_opens 1 = .ok (.getfield 316, 3) := by decide +kernel
theorem dX9_opens_4 : decode cX9_opens 4 = .ok (.iconst 5, 1) := by decide +kernel
theorem dX9_opens_5 : decode cX9_opens 5 = .ok (.if_icmp .ne 9, 3) := by decide +kernel
theorem dX9_opens_8 : decode cX9_opens 8 = .ok (.aload_n 0, 1) := by decide +kernel
theorem dX9_opens_9 : decode cX9_opens 9 = .ok (.invokevirtual 319, 3) := by decide +kernel
theorem dX9_opens_12 : decode cX9_opens 12 = .ok (.iconst 0, 1) := by decide +kernel
theorem dX9_opens_13 : decode cX9_opens 13 = .ok (.ireturn, 1) := by decide +kernel
theorem dX9_opens_14 : decode cX9_opens 14 = .ok (.aload_n 0, 1) := by decide +kernel
theorem dX9_opens_15 : decode cX9_opens 15 = .ok (.dup, 1) := by decide +kernel
theorem dX9_opens_16 : decode cX9_opens 16 = .ok (.getfield 316, 3) := by decide +kernel
theorem dX9_opens_19 : decode cX9_opens 19 = .ok (.iconst 1, 1) := by decide +kernel
theorem dX9_opens_20 : decode cX9_opens 20 = .ok (.iadd, 1) := by decide +kernel
theorem dX9_opens_21 : decode cX9_opens 21 = .ok (.putfield 316, 3) := by decide +kernel
theorem dX9_opens_24 : decode cX9_opens 24 = .ok (.aload_n 0, 1) := by decide +kernel
theorem dX9_opens_25 : decode cX9_opens 25 = .ok (.invokevirtual 322, 3) := by decide +kernel
theorem dX9_opens_28 : decode cX9_opens 28 = .ok (.iconst 1, 1) := by decide +kernel
theorem dX9_opens_29 : decode cX9_opens 29 = .ok (.ireturn, 1) := by decide +kernel
theorem gX9_316 {p : Program} {l : Launch} {e : Env} {R : Room} {s : State} {m : MethodId} {args : Array Value} {below : List Frame} {meth : Method} {c : Code} {H : Heap} {locs : List Loc} {cells slots : Nat} {Q : State → Prop} {cc : ByteArray} {pc nL : Nat} {ls : Array Slot} {rest : List Value} {ret : Option FieldType} {G : xG} {β N : Nat} {x : MS} (C : Cx p s m args meth c RX9 cc nL ret (KK G)) (hw : MW β G N x H) (hd : decode cc pc = .ok (.getfield 316, 3)) (kk : W p l e R s m args below meth c H locs cells slots Q (F0 m (pc + 3) ls (.int (x.1 0 28) :: rest))) : W p l e R s m args below meth c H locs cells slots Q (F0 m pc ls (.ref β :: rest)) :=
  va_get C.1 C.2.1 C.2.2.2.2.1 iwX9 C.2.2.2.1 C.K.1 (xP1 (hw.2 0 (by decide))) 0 rfl rfl 28 (by decide) (C.2.2.2.2.1 (.fieldLink RX9 316 RX9 "open" "I") (tg 944 (by decide +kernel) rfl)) (fun _ h9 => h9) rfl hd kk
theorem pX9_316 {p : Program} {l : Launch} {e : Env} {R : Room} {s : State} {m : MethodId} {args : Array Value} {below : List Frame} {meth : Method} {c : Code} {H : Heap} {locs : List Loc} {cells slots : Nat} {Q : State → Prop} {cc : ByteArray} {pc nL : Nat} {ls : Array Slot} {rest : List Value} {ret : Option FieldType} {G : xG} {β N : Nat} {x : MS} {v : Int32} (C : Cx p s m args meth c RX9 cc nL ret (KK G)) (hw : MW β G N x H) (hS : va_S (AM β) s.heap H locs) (hd : decode cc pc = .ok (.putfield 316, 3)) (kk : ∀ (H1 : Heap) (locs1 : List Loc), MW β G N (msS x 0 28 v) H1 → va_S (AM β) s.heap H1 locs1 → W p l e R s m args below meth c H1 locs1 cells slots Q (F0 m (pc + 3) ls (rest))) : W p l e R s m args below meth c H locs cells slots Q (F0 m pc ls (.int v :: .ref β :: rest)) :=
  x_put C.1 C.2.1 C.2.2.2.2.1 iwX9 tyX9 tyX9_ok nmX9 C.2.2.2.1 C.K.1 hS (hw.2 0 (by decide)) (AM.in (by decide)) rfl 28 (by decide) (C.2.2.2.2.1 (.fieldLink RX9 316 RX9 "open" "I") (tg 944 (by decide +kernel) rfl)) (fun _ h9 => h9) rfl (ty := .int) (by decide +kernel) rfl rfl (Nat.le_of_ble_eq_true rfl) hd (fun H1 locs1 hat ho hS => kk H1 locs1 (hw.setS 0 28 v hat ho) hS)
theorem sX9_322 {p : Program} {l : Launch} {e : Env} {R : Room} {s : State} {m : MethodId} {args : Array Value} {below : List Frame} {meth : Method} {c : Code} {H : Heap} {locs : List Loc} {cells slots : Nat} {Q : State → Prop} {cc : ByteArray} {pc nL : Nat} {ls : Array Slot} {rest : List Value} {ret : Option FieldType} {G : xG} {β N : Nat} {x x' : MS} (C : Cx p s m args meth c RX9 cc nL ret (KK G)) (h : fX9_next x = some x') (hw : MW β G N x H) (hS : va_S (AM β) s.heap H locs) (hsz : ls.size = nL) (hW : (rest.map fun v => v.category).sum ≤ 8) (hR : 2 ≤ R.frames) (hR2 : 47 ≤ R.locals) (hcs : cells ≤ R.cells ∧ slots ≤ R.slots) (hd : decode cc pc = .ok (.invokevirtual 322, 3)) (kk : ∀ (H1 : Heap) (locs1 : List Loc), MW β G N x' H1 → va_S (AM β) s.heap H1 locs1 → W p l e R s m args below meth c H1 locs1 cells slots Q (F0 m (pc + 3) ls (rest))) : W p l e R s m args below meth c H locs cells slots Q (F0 m pc ls (.ref β :: rest)) :=
  xcallV C (As := []) (rest := rest) (nA := 0) (ci := 9) (kX9_next h) (tg 1152 (by decide +kernel) rfl) (tg 1154 (by decide +kernel) rfl) (sg (List.mem_of_getElem? (i := 61) (by decide +kernel)) rfl) (tg 14 (by decide +kernel) rfl) (tg 1155 (by decide +kernel) rfl) ⟨rfl, by decide +kernel, by decide +kernel, by decide +kernel⟩ rfl rfl rfl ⟨hR, hR2⟩ (hw.2 0 (by decide)) hw hS (fun _ q => q) rfl rfl hsz hW hd hcs (fun H1 locs1 hw hz hk hS => kk H1 locs1 hw hS)
theorem sX9_319 {p : Program} {l : Launch} {e : Env} {R : Room} {s : State} {m : MethodId} {args : Array Value} {below : List Frame} {meth : Method} {c : Code} {H : Heap} {locs : List Loc} {cells slots : Nat} {Q : State → Prop} {cc : ByteArray} {pc nL : Nat} {ls : Array Slot} {rest : List Value} {ret : Option FieldType} {G : xG} {β N : Nat} {x x' : MS} (C : Cx p s m args meth c RX9 cc nL ret (KK G)) (h : fX9_fail x = some x') (hw : MW β G N x H) (hS : va_S (AM β) s.heap H locs) (hsz : ls.size = nL) (hW : (rest.map fun v => v.category).sum ≤ 8) (hR : 1 ≤ R.frames) (hR2 : 20 ≤ R.locals) (hcs : cells ≤ R.cells ∧ slots ≤ R.slots) (hd : decode cc pc = .ok (.invokevirtual 319, 3)) (kk : ∀ (H1 : Heap) (locs1 : List Loc), MW β G N x' H1 → va_S (AM β) s.heap H1 locs1 → W p l e R s m args below meth c H1 locs1 cells slots Q (F0 m (pc + 3) ls (rest))) : W p l e R s m args below meth c H locs cells slots Q (F0 m pc ls (.ref β :: rest)) :=
  xcallV C (As := []) (rest := rest) (nA := 0) (ci := 9) (kX9_fail h) (tg 1177 (by decide +kernel) rfl) (tg 1179 (by decide +kernel) rfl) (sg (List.mem_of_getElem? (i := 65) (by decide +kernel)) rfl) (tg 14 (by decide +kernel) rfl) (tg 1180 (by decide +kernel) rfl) ⟨rfl, by decide +kernel, by decide +kernel, by decide +kernel⟩ rfl rfl rfl ⟨hR, hR2⟩ (hw.2 0 (by decide)) hw hS (fun _ q => q) rfl rfl hsz hW hd hcs (fun H1 locs1 hw hz hk hS => kk H1 locs1 hw hS)
def fX9_opens (x : MS) : Option (Bool × MS) := if (x.1 0 28) = 5 then Option.bind (fX9_fail x) fun x4 => some (false, x4) else lt (msS x 0 28 ((x.1 0 28) + 1)) fun x1 => Option.bind (fX9_next x1) fun x2 => some (true, x2)
abbrev rmX9_opens : Room := { frames := 2, cells := 0, slots := 0, locals := 47 }
set_option maxHeartbeats 4000000 in
set_option maxRecDepth 100000 in
theorem kX9_opens {l : Launch} {G : xG} {β N : Nat} {x x' : MS} {r : Bool} (hm : fX9_opens x = some (r, x')) : Met l yX9_opens (.code yX9_opens cX9_opens 1 (some .boolean) :: GT) rmX9_opens (PcW [.ref β] (MW β G N x) (KK G)) (QcW (AM β) (some (.int (bI r))) (MW β G N x')) 0 0 (AM β) := by
  unfold fX9_opens at hm
  refine xpro (own := RX9) (by decide +kernel) rfl (Nat.le_of_ble_eq_true rfl) ?_
  intro p e s m args below meth c C hw ls hl
  have hx := C.1
  have hb := C.2.1
  have ho := C.2.2.2.1
  have hts := C.2.2.2.2.1
  have hS : va_S (AM β) s.heap s.heap [] := va_S.rf
  have hl : lv_has ls 1 [(0, .ref β)] := hl
  have hRf : 2 ≤ rmX9_opens.frames := Nat.le_refl _
  have hRl : 47 ≤ rmX9_opens.locals := Nat.le_refl _
  have hcs : 0 ≤ rmX9_opens.cells ∧ 0 ≤ rmX9_opens.slots := ⟨Nat.le_refl _, Nat.le_refl _⟩
  refine lv_aload_n hx hb dX9_opens_0 rfl (lv_at hl 0 rfl) ?_
  refine gX9_316 C hw dX9_opens_1 ?_
  refine lv_iconst (v := 5) hx hb dX9_opens_4 (by decide) ?_
  refine lv_icmp_ne (tgt := 14) hx hb dX9_opens_5 (by decide) (fun cc => ?_) (fun cc => ?_)
  · replace hm := ite_n cc hm
    refine lv_aload_n hx hb dX9_opens_14 rfl (lv_at hl 0 rfl) ?_
    refine lv_dup hx hb dX9_opens_15 rfl ?_
    refine gX9_316 C hw dX9_opens_16 ?_
    refine lv_iconst (v := 1) hx hb dX9_opens_19 (by decide) ?_
    refine lv_iadd hx hb dX9_opens_20 ?_
    refine pX9_316 C hw hS dX9_opens_21 (fun H locs hw hS => ?_)
    obtain ⟨x1, ev, hm⟩ := lt_e hm
    rw [← ev] at hw
    clear ev
    refine lv_aload_n hx hb dX9_opens_24 rfl (lv_at hl 0 rfl) ?_
    obtain ⟨x2, h3, hm⟩ := bind_e hm
    refine sX9_322 C h3 hw hS hl.1 (Nat.le_of_ble_eq_true rfl) (Nat.le_trans (Nat.le_of_ble_eq_true rfl) hRf) (Nat.le_trans (Nat.le_of_ble_eq_true rfl) hRl) hcs dX9_opens_25 (fun H locs hw hS => ?_)
    refine lv_iconst (v := 1) hx hb dX9_opens_28 (by decide) ?_
    obtain ⟨rfl, rfl⟩ := inj2 hm
    exact xret_z (v := bI true) C (bI_nar _) hw hS dX9_opens_29
  · replace hm := ite_p cc hm
    refine lv_aload_n hx hb dX9_opens_8 rfl (lv_at hl 0 rfl) ?_
    obtain ⟨x4, h5, hm⟩ := bind_e hm
    refine sX9_319 C h5 hw hS hl.1 (Nat.le_of_ble_eq_true rfl) (Nat.le_trans (Nat.le_of_ble_eq_true rfl) hRf) (Nat.le_trans (Nat.le_of_ble_eq_true rfl) hRl) hcs dX9_opens_9 (fun H locs hw hS => ?_)
    refine lv_iconst (v := 0) hx hb dX9_opens_12 (by decide) ?_
    obtain ⟨rfl, rfl⟩ := inj2 hm
    exact xret_z (v := bI false) C (bI_nar _) hw hS dX9_opens_13
theorem dX9_name_0 : decode cX9_name 0 = .ok (.aload_n 0, 1) := by decide +kernel
theorem dX9_name_1 : decode cX9_name 1 = .ok (.ldc2_w 325, 3) := by decide +kernel
theorem dX9_name_4 : decode cX9_name 4 = .ok (.invokevirtual 327, 3) := by decide +kernel
theorem dX9_name_7 : decode cX9_name 7 = .ok (.ifCond .eq 13, 3) := by decide +kernel
theorem dX9_name_10 : decode cX9_name 10 = .ok (.aload_n 0, 1) := by decide +kernel
theorem dX9_name_11 : decode cX9_name 11 = .ok (.getfield 26, 3) := by decide +kernel
theorem dX9_name_14 : decode cX9_name 14 = .ok (.aload_n 0, 1) := by decide +kernel
theorem dX9_name_15 : decode cX9_name 15 = .ok (.getfield 331, 3) := by decide +kernel
theorem dX9_name_18 : decode cX9_name 18 = .ok (.iaload, 1) := by decide +kernel
theorem dX9_name_19 : decode cX9_name 19 = .ok (.ireturn, 1) := by decide +kernel
theorem dX9_name_20 : decode cX9_name 20 = .ok (.aload_n 0, 1) := by decide +kernel
theorem dX9_name_21 : decode cX9_name 21 = .ok (.ldc2_w 334, 3) := by decide +kernel
theorem dX9_name_24 : decode cX9_name 24 = .ok (.invokevirtual 327, 3) := by decide +kernel
theorem dX9_name_27 : decode cX9_name 27 = .ok (.ifCond .eq 8, 3) := by decide +kernel
theorem dX9_name_30 : decode cX9_name 30 = .ok (.aload_n 0, 1) := by decide +kernel
theorem dX9_name_31 : decode cX9_name 31 = .ok (.getfield 336, 3) := by decide +kernel
theorem dX9_name_34 : decode cX9_name 34 = .ok (.ireturn, 1) := by decide +kernel
theorem dX9_name_35 : decode cX9_name 35 = .ok (.aload_n 0, 1) := by decide +kernel
theorem dX9_name_36 : decode cX9_name 36 = .ok (.ldc2_w 339, 3) := by decide +kernel
theorem dX9_name_39 : decode cX9_name 39 = .ok (.invokevirtual 327, 3) := by decide +kernel
theorem dX9_name_42 : decode cX9_name 42 = .ok (.ifCond .eq 8, 3) := by decide +kernel
theorem dX9_name_45 : decode cX9_name 45 = .ok (.aload_n 0, 1) := by decide +kernel
theorem dX9_name_46 : decode cX9_name 46 = .ok (.getfield 341, 3) := by decide +kernel
theorem dX9_name_49 : decode cX9_name 49 = .ok (.ireturn, 1) := by decide +kernel
theorem dX9_name_50 : decode cX9_name 50 = .ok (.aload_n 0, 1) := by decide +kernel
theorem dX9_name_51 : decode cX9_name 51 = .ok (.ldc2_w 344, 3) := by decide +kernel
theorem dX9_name_54 : decode cX9_name 54 = .ok (.invokevirtual 327, 3) := by decide +kernel
theorem dX9_name_57 : decode cX9_name 57 = .ok (.ifCond .eq 8, 3) := by decide +kernel
theorem dX9_name_60 : decode cX9_name 60 = .ok (.aload_n 0, 1) := by decide +kernel
theorem dX9_name_61 : decode cX9_name 61 = .ok (.getfield 346, 3) := by decide +kernel
theorem dX9_name_64 : decode cX9_name 64 = .ok (.ireturn, 1) := by decide +kernel
theorem dX9_name_65 : decode cX9_name 65 = .ok (.aload_n 0, 1) := by decide +kernel
theorem dX9_name_66 : decode cX9_name 66 = .ok (.ldc2_w 349, 3) := by decide +kernel
theorem dX9_name_69 : decode cX9_name 69 = .ok (.invokevirtual 327, 3) := by decide +kernel
theorem dX9_name_72 : decode cX9_name 72 = .ok (.ifCond .eq 13, 3) := by decide +kernel
theorem dX9_name_75 : decode cX9_name 75 = .ok (.aload_n 0, 1) := by decide +kernel
theorem dX9_name_76 : decode cX9_name 76 = .ok (.getfield 29, 3) := by decide +kernel
theorem dX9_name_79 : decode cX9_name 79 = .ok (.aload_n 0, 1) := by decide +kernel
theorem dX9_name_80 : decode cX9_name 80 = .ok (.getfield 331, 3) := by decide +kernel
theorem dX9_name_83 : decode cX9_name 83 = .ok (.iaload, 1) := by decide +kernel
theorem dX9_name_84 : decode cX9_name 84 = .ok (.ireturn, 1) := by decide +kernel
theorem dX9_name_85 : decode cX9_name 85 = .ok (.aload_n 0, 1) := by decide +kernel
theorem dX9_name_86 : decode cX9_name 86 = .ok (.ldc2_w 351, 3) := by decide +kernel
theorem dX9_name_89 : decode cX9_name 89 = .ok (.invokevirtual 327, 3) := by decide +kernel
theorem dX9_name_92 : decode cX9_name 92 = .ok (.ifCond .eq 8, 3) := by decide +kernel
theorem dX9_name_95 : decode cX9_name 95 = .ok (.aload_n 0, 1) := by decide +kernel
theorem dX9_name_96 : decode cX9_name 96 = .ok (.getfield 353, 3) := by decide +kernel
theorem dX9_name_99 : decode cX9_name 99 = .ok (.ireturn, 1) := by decide +kernel
theorem dX9_name_100 : decode cX9_name 100 = .ok (.aload_n 0, 1) := by decide +kernel
theorem dX9_name_101 : decode cX9_name 101 = .ok (.invokevirtual 319, 3) := by decide +kernel
theorem dX9_name_104 : decode cX9_name 104 = .ok (.iconst 0, 1) := by decide +kernel
theorem dX9_name_105 : decode cX9_name 105 = .ok (.ireturn, 1) := by decide +kernel
theorem sX9_327 {p : Program} {l : Launch} {e : Env} {R : Room} {s : State} {m : MethodId} {args : Array Value} {below : List Frame} {meth : Method} {c : Code} {H : Heap} {locs : List Loc} {cells slots : Nat} {Q : State → Prop} {cc : ByteArray} {pc nL : Nat} {ls : Array Slot} {rest : List Value} {ret : Option FieldType} {G : xG} {β N : Nat} {x : MS} {a1 : Int64} {r : Bool} (C : Cx p s m args meth c RX9 cc nL ret (KK G)) (h : fX9_isWord x a1 = some r) (hw : MW β G N x H) (hS : va_S (AM β) s.heap H locs) (hsz : ls.size = nL) (hW : (rest.map fun v => v.category).sum ≤ 8) (hR : 1 ≤ R.frames) (hR2 : 22 ≤ R.locals) (hcs : cells ≤ R.cells ∧ slots ≤ R.slots) (hd : decode cc pc = .ok (.invokevirtual 327, 3)) (kk : ∀ (H1 : Heap) (locs1 : List Loc), MW β G N x H1 → va_S (AM β) s.heap H1 locs1 → W p l e R s m args below meth c H1 locs1 cells slots Q (F0 m (pc + 3) ls (.int (bI r) :: rest))) : W p l e R s m args below meth c H locs cells slots Q (F0 m pc ls (.long a1 :: .ref β :: rest)) :=
  xcallV C (As := [.long a1]) (rest := rest) (nA := 1) (ci := 9) (kX9_isWord h) (tg 1173 (by decide +kernel) rfl) (tg 1175 (by decide +kernel) rfl) (sg (List.mem_of_getElem? (i := 64) (by decide +kernel)) rfl) (tg 14 (by decide +kernel) rfl) (tg 1176 (by decide +kernel) rfl) ⟨rfl, by decide +kernel, by decide +kernel, by decide +kernel⟩ rfl rfl rfl ⟨hR, hR2⟩ (hw.2 0 (by decide)) hw hS (fun _ q => q) rfl rfl hsz hW hd hcs (fun H1 locs1 hw hz hk hS => kk H1 locs1 hw hS)
theorem gX9_353 {p : Program} {l : Launch} {e : Env} {R : Room} {s : State} {m : MethodId} {args : Array Value} {below : List Frame} {meth : Method} {c : Code} {H : Heap} {locs : List Loc} {cells slots : Nat} {Q : State → Prop} {cc : ByteArray} {pc nL : Nat} {ls : Array Slot} {rest : List Value} {ret : Option FieldType} {G : xG} {β N : Nat} {x : MS} (C : Cx p s m args meth c RX9 cc nL ret (KK G)) (hw : MW β G N x H) (hd : decode cc pc = .ok (.getfield 353, 3)) (kk : W p l e R s m args below meth c H locs cells slots Q (F0 m (pc + 3) ls (.int (x.1 0 35) :: rest))) : W p l e R s m args below meth c H locs cells slots Q (F0 m pc ls (.ref β :: rest)) :=
  va_get C.1 C.2.1 C.2.2.2.2.1 iwX9 C.2.2.2.1 C.K.1 (xP1 (hw.2 0 (by decide))) 0 rfl rfl 35 (by decide) (C.2.2.2.2.1 (.fieldLink RX9 353 RX9 "aboutGround" "I") (tg 951 (by decide +kernel) rfl)) (fun _ h9 => h9) rfl hd kk
theorem gX9_331 {p : Program} {l : Launch} {e : Env} {R : Room} {s : State} {m : MethodId} {args : Array Value} {below : List Frame} {meth : Method} {c : Code} {H : Heap} {locs : List Loc} {cells slots : Nat} {Q : State → Prop} {cc : ByteArray} {pc nL : Nat} {ls : Array Slot} {rest : List Value} {ret : Option FieldType} {G : xG} {β N : Nat} {x : MS} (C : Cx p s m args meth c RX9 cc nL ret (KK G)) (hw : MW β G N x H) (hd : decode cc pc = .ok (.getfield 331, 3)) (kk : W p l e R s m args below meth c H locs cells slots Q (F0 m (pc + 3) ls (.int (x.1 0 31) :: rest))) : W p l e R s m args below meth c H locs cells slots Q (F0 m pc ls (.ref β :: rest)) :=
  va_get C.1 C.2.1 C.2.2.2.2.1 iwX9 C.2.2.2.1 C.K.1 (xP1 (hw.2 0 (by decide))) 0 rfl rfl 31 (by decide) (C.2.2.2.2.1 (.fieldLink RX9 331 RX9 "aboutHorse" "I") (tg 947 (by decide +kernel) rfl)) (fun _ h9 => h9) rfl hd kk
theorem gX9_346 {p : Program} {l : Launch} {e : Env} {R : Room} {s : State} {m : MethodId} {args : Array Value} {below : List Frame} {meth : Method} {c : Code} {H : Heap} {locs : List Loc} {cells slots : Nat} {Q : State → Prop} {cc : ByteArray} {pc nL : Nat} {ls : Array Slot} {rest : List Value} {ret : Option FieldType} {G : xG} {β N : Nat} {x : MS} (C : Cx p s m args meth c RX9 cc nL ret (KK G)) (hw : MW β G N x H) (hd : decode cc pc = .ok (.getfield 346, 3)) (kk : W p l e R s m args below meth c H locs cells slots Q (F0 m (pc + 3) ls (.int (x.1 0 34) :: rest))) : W p l e R s m args below meth c H locs cells slots Q (F0 m pc ls (.ref β :: rest)) :=
  va_get C.1 C.2.1 C.2.2.2.2.1 iwX9 C.2.2.2.1 C.K.1 (xP1 (hw.2 0 (by decide))) 0 rfl rfl 34 (by decide) (C.2.2.2.2.1 (.fieldLink RX9 346 RX9 "aboutPlace" "I") (tg 950 (by decide +kernel) rfl)) (fun _ h9 => h9) rfl hd kk
theorem gX9_341 {p : Program} {l : Launch} {e : Env} {R : Room} {s : State} {m : MethodId} {args : Array Value} {below : List Frame} {meth : Method} {c : Code} {H : Heap} {locs : List Loc} {cells slots : Nat} {Q : State → Prop} {cc : ByteArray} {pc nL : Nat} {ls : Array Slot} {rest : List Value} {ret : Option FieldType} {G : xG} {β N : Nat} {x : MS} (C : Cx p s m args meth c RX9 cc nL ret (KK G)) (hw : MW β G N x H) (hd : decode cc pc = .ok (.getfield 341, 3)) (kk : W p l e R s m args below meth c H locs cells slots Q (F0 m (pc + 3) ls (.int (x.1 0 33) :: rest))) : W p l e R s m args below meth c H locs cells slots Q (F0 m pc ls (.ref β :: rest)) :=
  va_get C.1 C.2.1 C.2.2.2.2.1 iwX9 C.2.2.2.1 C.K.1 (xP1 (hw.2 0 (by decide))) 0 rfl rfl 33 (by decide) (C.2.2.2.2.1 (.fieldLink RX9 341 RX9 "aboutWon" "I") (tg 949 (by decide +kernel) rfl)) (fun _ h9 => h9) rfl hd kk
theorem gX9_336 {p : Program} {l : Launch} {e : Env} {R : Room} {s : State} {m : MethodId} {args : Array Value} {below : List Frame} {meth : Method} {c : Code} {H : Heap} {locs : List Loc} {cells slots : Nat} {Q : State → Prop} {cc : ByteArray} {pc nL : Nat} {ls : Array Slot} {rest : List Value} {ret : Option FieldType} {G : xG} {β N : Nat} {x : MS} (C : Cx p s m args meth c RX9 cc nL ret (KK G)) (hw : MW β G N x H) (hd : decode cc pc = .ok (.getfield 336, 3)) (kk : W p l e R s m args below meth c H locs cells slots Q (F0 m (pc + 3) ls (.int (x.1 0 32) :: rest))) : W p l e R s m args below meth c H locs cells slots Q (F0 m pc ls (.ref β :: rest)) :=
  va_get C.1 C.2.1 C.2.2.2.2.1 iwX9 C.2.2.2.1 C.K.1 (xP1 (hw.2 0 (by decide))) 0 rfl rfl 32 (by decide) (C.2.2.2.2.1 (.fieldLink RX9 336 RX9 "aboutLead" "I") (tg 948 (by decide +kernel) rfl)) (fun _ h9 => h9) rfl hd kk
def fX9_name (x : MS) : Option (Int32 × MS) := Option.bind (fX9_isWord x 206756339381) fun v1 => if v1 = true then if ib (x.1 0 31) 10 then some (x.2.1 5 (x.1 0 31).toNatClampNeg, x) else none else Option.bind (fX9_isWord x 239872) fun v3 => if v3 = true then some (x.1 0 32, x) else Option.bind (fX9_isWord x 17186) fun v5 => if v5 = true then some (x.1 0 33, x) else Option.bind (fX9_isWord x 8740067) fun v7 => if v7 = true then some (x.1 0 34, x) else Option.bind (fX9_isWord x 923) fun v9 => if v9 = true then if ib (x.1 0 31) 10 then some (x.2.1 6 (x.1 0 31).toNatClampNeg, x) else none else Option.bind (fX9_isWord x 110319223) fun v11 => if v11 = true then some (x.1 0 35, x) else Option.bind (fX9_fail x) fun x13 => some (0, x13)
abbrev rmX9_name : Room := { frames := 1, cells := 0, slots := 0, locals := 22 }
set_option maxHeartbeats 4000000 in
set_option maxRecDepth 100000 in
theorem kX9_name {l : Launch} {G : xG} {β N : Nat} {x x' : MS} {r : Int32} (hm : fX9_name x = some (r, x')) : Met l yX9_name (.code yX9_name cX9_name 1 (some .int) :: GT) rmX9_name (PcW [.ref β] (MW β G N x) (KK G)) (QcW (AM β) (some (.int r)) (MW β G N x')) 0 0 (AM β) := by
  unfold fX9_name at hm
  refine xpro (own := RX9) (by decide +kernel) rfl (Nat.le_of_ble_eq_true rfl) ?_
  intro p e s m args below meth c C hw ls hl
  have hx := C.1
  have hb := C.2.1
  have ho := C.2.2.2.1
  have hts := C.2.2.2.2.1
  have hS : va_S (AM β) s.heap s.heap [] := va_S.rf
  have hl : lv_has ls 1 [(0, .ref β)] := hl
  have hRf : 1 ≤ rmX9_name.frames := Nat.le_refl _
  have hRl : 22 ≤ rmX9_name.locals := Nat.le_refl _
  have hcs : 0 ≤ rmX9_name.cells ∧ 0 ≤ rmX9_name.slots := ⟨Nat.le_refl _, Nat.le_refl _⟩
  refine lv_aload_n hx hb dX9_name_0 rfl (lv_at hl 0 rfl) ?_
  refine lv_ldc2 (v := 206756339381) hx hb ho (hts (.constantLong RX9 325 206756339381) (tg 1218 (by decide +kernel) rfl)) dX9_name_1 ?_
  obtain ⟨v1, h2, hm⟩ := bind_e hm
  refine sX9_327 C h2 hw hS hl.1 (Nat.le_of_ble_eq_true rfl) (Nat.le_trans (Nat.le_of_ble_eq_true rfl) hRf) (Nat.le_trans (Nat.le_of_ble_eq_true rfl) hRl) hcs dX9_name_4 (fun H locs hw hS => ?_)
  refine x_ifeqB hx hb dX9_name_7 (tgt := 20) (by decide) (fun cc => ?_) (fun cc => ?_)
  · replace hm := ite_n cc hm
    refine lv_aload_n hx hb dX9_name_20 rfl (lv_at hl 0 rfl) ?_
    refine lv_ldc2 (v := 239872) hx hb ho (hts (.constantLong RX9 334 239872) (tg 1219 (by decide +kernel) rfl)) dX9_name_21 ?_
    obtain ⟨v3, h4, hm⟩ := bind_e hm
    refine sX9_327 C h4 hw hS hl.1 (Nat.le_of_ble_eq_true rfl) (Nat.le_trans (Nat.le_of_ble_eq_true rfl) hRf) (Nat.le_trans (Nat.le_of_ble_eq_true rfl) hRl) hcs dX9_name_24 (fun H locs hw hS => ?_)
    refine x_ifeqB hx hb dX9_name_27 (tgt := 35) (by decide) (fun cc => ?_) (fun cc => ?_)
    · replace hm := ite_n cc hm
      refine lv_aload_n hx hb dX9_name_35 rfl (lv_at hl 0 rfl) ?_
      refine lv_ldc2 (v := 17186) hx hb ho (hts (.constantLong RX9 339 17186) (tg 1220 (by decide +kernel) rfl)) dX9_name_36 ?_
      obtain ⟨v5, h6, hm⟩ := bind_e hm
      refine sX9_327 C h6 hw hS hl.1 (Nat.le_of_ble_eq_true rfl) (Nat.le_trans (Nat.le_of_ble_eq_true rfl) hRf) (Nat.le_trans (Nat.le_of_ble_eq_true rfl) hRl) hcs dX9_name_39 (fun H locs hw hS => ?_)
      refine x_ifeqB hx hb dX9_name_42 (tgt := 50) (by decide) (fun cc => ?_) (fun cc => ?_)
      · replace hm := ite_n cc hm
        refine lv_aload_n hx hb dX9_name_50 rfl (lv_at hl 0 rfl) ?_
        refine lv_ldc2 (v := 8740067) hx hb ho (hts (.constantLong RX9 344 8740067) (tg 1221 (by decide +kernel) rfl)) dX9_name_51 ?_
        obtain ⟨v7, h8, hm⟩ := bind_e hm
        refine sX9_327 C h8 hw hS hl.1 (Nat.le_of_ble_eq_true rfl) (Nat.le_trans (Nat.le_of_ble_eq_true rfl) hRf) (Nat.le_trans (Nat.le_of_ble_eq_true rfl) hRl) hcs dX9_name_54 (fun H locs hw hS => ?_)
        refine x_ifeqB hx hb dX9_name_57 (tgt := 65) (by decide) (fun cc => ?_) (fun cc => ?_)
        · replace hm := ite_n cc hm
          refine lv_aload_n hx hb dX9_name_65 rfl (lv_at hl 0 rfl) ?_
          refine lv_ldc2 (v := 923) hx hb ho (hts (.constantLong RX9 349 923) (tg 1222 (by decide +kernel) rfl)) dX9_name_66 ?_
          obtain ⟨v9, h10, hm⟩ := bind_e hm
          refine sX9_327 C h10 hw hS hl.1 (Nat.le_of_ble_eq_true rfl) (Nat.le_trans (Nat.le_of_ble_eq_true rfl) hRf) (Nat.le_trans (Nat.le_of_ble_eq_true rfl) hRl) hcs dX9_name_69 (fun H locs hw hS => ?_)
          refine x_ifeqB hx hb dX9_name_72 (tgt := 85) (by decide) (fun cc => ?_) (fun cc => ?_)
          · replace hm := ite_n cc hm
            refine lv_aload_n hx hb dX9_name_85 rfl (lv_at hl 0 rfl) ?_
            refine lv_ldc2 (v := 110319223) hx hb ho (hts (.constantLong RX9 351 110319223) (tg 1223 (by decide +kernel) rfl)) dX9_name_86 ?_
            obtain ⟨v11, h12, hm⟩ := bind_e hm
            refine sX9_327 C h12 hw hS hl.1 (Nat.le_of_ble_eq_true rfl) (Nat.le_trans (Nat.le_of_ble_eq_true rfl) hRf) (Nat.le_trans (Nat.le_of_ble_eq_true rfl) hRl) hcs dX9_name_89 (fun H locs hw hS => ?_)
            refine x_ifeqB hx hb dX9_name_92 (tgt := 100) (by decide) (fun cc => ?_) (fun cc => ?_)
            · replace hm := ite_n cc hm
              refine lv_aload_n hx hb dX9_name_100 rfl (lv_at hl 0 rfl) ?_
              obtain ⟨x13, h14, hm⟩ := bind_e hm
              refine sX9_319 C h14 hw hS hl.1 (Nat.le_of_ble_eq_true rfl) (Nat.le_trans (Nat.le_of_ble_eq_true rfl) hRf) (Nat.le_trans (Nat.le_of_ble_eq_true rfl) hRl) hcs dX9_name_101 (fun H locs hw hS => ?_)
              refine lv_iconst (v := 0) hx hb dX9_name_104 (by decide) ?_
              obtain ⟨rfl, rfl⟩ := inj2 hm
              exact xret_i C hw hS dX9_name_105
            · replace hm := ite_p cc hm
              refine lv_aload_n hx hb dX9_name_95 rfl (lv_at hl 0 rfl) ?_
              refine gX9_353 C hw dX9_name_96 ?_
              obtain ⟨rfl, rfl⟩ := inj2 hm
              exact xret_i C hw hS dX9_name_99
          · replace hm := ite_p cc hm
            refine lv_aload_n hx hb dX9_name_75 rfl (lv_at hl 0 rfl) ?_
            refine gX9_29 C hw dX9_name_76 ?_
            refine lv_aload_n hx hb dX9_name_79 rfl (lv_at hl 0 rfl) ?_
            refine gX9_331 C hw dX9_name_80 ?_
            obtain ⟨h15, hm⟩ := chk_e hm
            refine alM_6 C hw h15 dX9_name_83 ?_
            obtain ⟨rfl, rfl⟩ := inj2 hm
            exact xret_i C hw hS dX9_name_84
        · replace hm := ite_p cc hm
          refine lv_aload_n hx hb dX9_name_60 rfl (lv_at hl 0 rfl) ?_
          refine gX9_346 C hw dX9_name_61 ?_
          obtain ⟨rfl, rfl⟩ := inj2 hm
          exact xret_i C hw hS dX9_name_64
      · replace hm := ite_p cc hm
        refine lv_aload_n hx hb dX9_name_45 rfl (lv_at hl 0 rfl) ?_
        refine gX9_341 C hw dX9_name_46 ?_
        obtain ⟨rfl, rfl⟩ := inj2 hm
        exact xret_i C hw hS dX9_name_49
    · replace hm := ite_p cc hm
      refine lv_aload_n hx hb dX9_name_30 rfl (lv_at hl 0 rfl) ?_
      refine gX9_336 C hw dX9_name_31 ?_
      obtain ⟨rfl, rfl⟩ := inj2 hm
      exact xret_i C hw hS dX9_name_34
  · replace hm := ite_p cc hm
    refine lv_aload_n hx hb dX9_name_10 rfl (lv_at hl 0 rfl) ?_
    refine gX9_26 C hw dX9_name_11 ?_
    refine lv_aload_n hx hb dX9_name_14 rfl (lv_at hl 0 rfl) ?_
    refine gX9_331 C hw dX9_name_15 ?_
    obtain ⟨h16, hm⟩ := chk_e hm
    refine alM_5 C hw h16 dX9_name_18 ?_
    obtain ⟨rfl, rfl⟩ := inj2 hm
    exact xret_i C hw hS dX9_name_19
theorem dX9_within_0 : decode cX9_within 0 = .ok (.iload_n 0, 1) := by decide +kernel
theorem dX9_within_1 : decode cX9_within 1 = .ok (.iload_n 1, 1) := by decide +kernel
theorem dX9_within_2 : decode cX9_within 2 = .ok (.if_icmp .ge 7, 3) := by decide +kernel
theorem dX9_within_5 : decode cX9_within 5 = .ok (.iload_n 1, 1) := by decide +kernel
theorem dX9_within_6 : decode cX9_within 6 = .ok (.goto 13, 3) := by decide +kernel
theorem dX9_within_9 : decode cX9_within 9 = .ok (.iload_n 0, 1) := by decide +kernel
theorem dX9_within_10 : decode cX9_within 10 = .ok (.iload_n 2, 1) := by decide +kernel
theorem dX9_within_11 : decode cX9_within 11 = .ok (.if_icmp .le 7, 3) := by decide +kernel
theorem dX9_within_14 : decode cX9_within 14 = .ok (.iload_n 2, 1) := by decide +kernel
theorem dX9_within_15 : decode cX9_within 15 = .ok (.goto 4, 3) := by decide +kernel
theorem dX9_within_18 : decode cX9_within 18 = .ok (.iload_n 0, 1) := by decide +kernel
theorem dX9_within_19 : decode cX9_within 19 = .ok (.ireturn, 1) := by decide +kernel
def fX9_within (a1 : Int32) (a2 : Int32) (a3 : Int32) : Option (Int32) := if a2 ≤ a1 then if a1 ≤ a3 then some a1 else some a3 else some a2
abbrev rmX9_within : Room := { frames := 0, cells := 0, slots := 0, locals := 0 }
set_option maxHeartbeats 4000000 in
set_option maxRecDepth 100000 in
theorem kX9_within {l : Launch} {G : xG} {β N : Nat} {x : MS} {a1 : Int32} {a2 : Int32} {a3 : Int32} {r : Int32} (hm : fX9_within a1 a2 a3 = some r) : Met l yX9_within (.code yX9_within cX9_within 3 (some .int) :: GT) rmX9_within (PcW [.int a1, .int a2, .int a3] (MW β G N x) (KK G)) (QcW (AM β) (some (.int r)) (MW β G N x)) 0 0 (AM β) := by
  unfold fX9_within at hm
  refine xpro (own := RX9) (by decide +kernel) rfl (Nat.le_of_ble_eq_true rfl) ?_
  intro p e s m args below meth c C hw ls hl
  have hx := C.1
  have hb := C.2.1
  have ho := C.2.2.2.1
  have hts := C.2.2.2.2.1
  have hS : va_S (AM β) s.heap s.heap [] := va_S.rf
  have hl : lv_has ls 3 [(0, .int a1), (1, .int a2), (2, .int a3)] := hl
  have hRf : 0 ≤ rmX9_within.frames := Nat.le_refl _
  have hRl : 0 ≤ rmX9_within.locals := Nat.le_refl _
  have hcs : 0 ≤ rmX9_within.cells ∧ 0 ≤ rmX9_within.slots := ⟨Nat.le_refl _, Nat.le_refl _⟩
  refine lv_iload_n hx hb dX9_within_0 rfl (lv_at hl 0 rfl) ?_
  refine lv_iload_n hx hb dX9_within_1 rfl (lv_at hl 1 rfl) ?_
  refine lv_icmp_ge (tgt := 9) hx hb dX9_within_2 (by decide) (fun cc => ?_) (fun cc => ?_)
  · replace hm := ite_p cc hm
    refine lv_iload_n hx hb dX9_within_9 rfl (lv_at hl 0 rfl) ?_
    refine lv_iload_n hx hb dX9_within_10 rfl (lv_at hl 2 rfl) ?_
    refine lv_icmp_le (tgt := 18) hx hb dX9_within_11 (by decide) (fun cc => ?_) (fun cc => ?_)
    · replace hm := ite_p cc hm
      refine lv_iload_n hx hb dX9_within_18 rfl (lv_at hl 0 rfl) ?_
      obtain rfl := Option.some.inj hm
      exact xret_i C hw hS dX9_within_19
    · replace hm := ite_n cc hm
      refine lv_iload_n hx hb dX9_within_14 rfl (lv_at hl 2 rfl) ?_
      refine lv_goto (tgt := 19) hx hb dX9_within_15 (by decide) ?_
      obtain rfl := Option.some.inj hm
      exact xret_i C hw hS dX9_within_19
  · replace hm := ite_n cc hm
    refine lv_iload_n hx hb dX9_within_5 rfl (lv_at hl 1 rfl) ?_
    refine lv_goto (tgt := 19) hx hb dX9_within_6 (by decide) ?_
    obtain rfl := Option.some.inj hm
    exact xret_i C hw hS dX9_within_19
theorem dX9_force_0 : decode cX9_force 0 = .ok (.iload_n 1, 1) := by decide +kernel
theorem dX9_force_1 : decode cX9_force 1 = .ok (.i2l, 1) := by decide +kernel
theorem dX9_force_2 : decode cX9_force 2 = .ok (.lconst 0, 1) := by decide +kernel
theorem dX9_force_3 : decode cX9_force 3 = .ok (.aload_n 0, 1) := by decide +kernel
theorem dX9_force_4 : decode cX9_force 4 = .ok (.getfield 121, 3) := by decide +kernel
theorem dX9_force_7 : decode cX9_force 7 = .ok (.iconst 1, 1) := by decide +kernel
theorem dX9_force_8 : decode cX9_force 8 = .ok (.isub, 1) := by decide +kernel
theorem dX9_force_9 : decode cX9_force 9 = .ok (.i2l, 1) := by decide +kernel
theorem dX9_force_10 : decode cX9_force 10 = .ok (.invokestatic 132, 3) := by decide +kernel
theorem dX9_force_13 : decode cX9_force 13 = .ok (.ifCond .ne 6, 3) := by decide +kernel
theorem dX9_force_16 : decode cX9_force 16 = .ok (.bipush (-2), 2) := by decide +kernel
theorem dX9_force_18 : decode cX9_force 18 = .ok (.ireturn, 1) := by decide +kernel
theorem dX9_force_19 : decode cX9_force 19 = .ok (.aload_n 0, 1) := by decide +kernel
theorem dX9_force_20 : decode cX9_force 20 = .ok (.getfield 184, 3) := by decide +kernel
theorem dX9_force_23 : decode cX9_force 23 = .ok (.istore_n 2, 1) := by decide +kernel
theorem dX9_force_24 : decode cX9_force 24 = .ok (.aload_n 0, 1) := by decide +kernel
theorem dX9_force_25 : decode cX9_force 25 = .ok (.iload_n 1, 1) := by decide +kernel
theorem dX9_force_26 : decode cX9_force 26 = .ok (.putfield 184, 3) := by decide +kernel
theorem dX9_force_29 : decode cX9_force 29 = .ok (.iload_n 2, 1) := by decide +kernel
theorem dX9_force_30 : decode cX9_force 30 = .ok (.ireturn, 1) := by decide +kernel
theorem gX9_121 {p : Program} {l : Launch} {e : Env} {R : Room} {s : State} {m : MethodId} {args : Array Value} {below : List Frame} {meth : Method} {c : Code} {H : Heap} {locs : List Loc} {cells slots : Nat} {Q : State → Prop} {cc : ByteArray} {pc nL : Nat} {ls : Array Slot} {rest : List Value} {ret : Option FieldType} {G : xG} {β N : Nat} {x : MS} (C : Cx p s m args meth c RX9 cc nL ret (KK G)) (hw : MW β G N x H) (hd : decode cc pc = .ok (.getfield 121, 3)) (kk : W p l e R s m args below meth c H locs cells slots Q (F0 m (pc + 3) ls (.int (x.1 0 3) :: rest))) : W p l e R s m args below meth c H locs cells slots Q (F0 m pc ls (.ref β :: rest)) :=
  va_get C.1 C.2.1 C.2.2.2.2.1 iwX9 C.2.2.2.1 C.K.1 (xP1 (hw.2 0 (by decide))) 0 rfl rfl 3 (by decide) (C.2.2.2.2.1 (.fieldLink RX9 121 RX9 "textCount" "I") (tg 919 (by decide +kernel) rfl)) (fun _ h9 => h9) rfl hd kk
theorem gX9_184 {p : Program} {l : Launch} {e : Env} {R : Room} {s : State} {m : MethodId} {args : Array Value} {below : List Frame} {meth : Method} {c : Code} {H : Heap} {locs : List Loc} {cells slots : Nat} {Q : State → Prop} {cc : ByteArray} {pc nL : Nat} {ls : Array Slot} {rest : List Value} {ret : Option FieldType} {G : xG} {β N : Nat} {x : MS} (C : Cx p s m args meth c RX9 cc nL ret (KK G)) (hw : MW β G N x H) (hd : decode cc pc = .ok (.getfield 184, 3)) (kk : W p l e R s m args below meth c H locs cells slots Q (F0 m (pc + 3) ls (.int (x.1 0 4) :: rest))) : W p l e R s m args below meth c H locs cells slots Q (F0 m pc ls (.ref β :: rest)) :=
  va_get C.1 C.2.1 C.2.2.2.2.1 iwX9 C.2.2.2.1 C.K.1 (xP1 (hw.2 0 (by decide))) 0 rfl rfl 4 (by decide) (C.2.2.2.2.1 (.fieldLink RX9 184 RX9 "rule" "I") (tg 920 (by decide +kernel) rfl)) (fun _ h9 => h9) rfl hd kk
theorem pX9_184 {p : Program} {l : Launch} {e : Env} {R : Room} {s : State} {m : MethodId} {args : Array Value} {below : List Frame} {meth : Method} {c : Code} {H : Heap} {locs : List Loc} {cells slots : Nat} {Q : State → Prop} {cc : ByteArray} {pc nL : Nat} {ls : Array Slot} {rest : List Value} {ret : Option FieldType} {G : xG} {β N : Nat} {x : MS} {v : Int32} (C : Cx p s m args meth c RX9 cc nL ret (KK G)) (hw : MW β G N x H) (hS : va_S (AM β) s.heap H locs) (hd : decode cc pc = .ok (.putfield 184, 3)) (kk : ∀ (H1 : Heap) (locs1 : List Loc), MW β G N (msS x 0 4 v) H1 → va_S (AM β) s.heap H1 locs1 → W p l e R s m args below meth c H1 locs1 cells slots Q (F0 m (pc + 3) ls (rest))) : W p l e R s m args below meth c H locs cells slots Q (F0 m pc ls (.int v :: .ref β :: rest)) :=
  x_put C.1 C.2.1 C.2.2.2.2.1 iwX9 tyX9 tyX9_ok nmX9 C.2.2.2.1 C.K.1 hS (hw.2 0 (by decide)) (AM.in (by decide)) rfl 4 (by decide) (C.2.2.2.2.1 (.fieldLink RX9 184 RX9 "rule" "I") (tg 920 (by decide +kernel) rfl)) (fun _ h9 => h9) rfl (ty := .int) (by decide +kernel) rfl rfl (Nat.le_of_ble_eq_true rfl) hd (fun H1 locs1 hat ho hS => kk H1 locs1 (hw.setS 0 4 v hat ho) hS)
def fX9_force (x : MS) (a1 : Int32) : Option (Int32 × MS) := Option.bind (fX9_in (a1.toInt64) 0 (((x.1 0 3) - 1).toInt64)) fun v1 => if v1 = true then lt (x.1 0 4) fun v3 => lt (msS x 0 4 a1) fun x4 => some (v3, x4) else some ((-2), x)
abbrev rmX9_force : Room := { frames := 1, cells := 0, slots := 0, locals := 25 }
set_option maxHeartbeats 4000000 in
set_option maxRecDepth 100000 in
theorem kX9_force {l : Launch} {G : xG} {β N : Nat} {x x' : MS} {a1 : Int32} {r : Int32} (hm : fX9_force x a1 = some (r, x')) : Met l yX9_force (.code yX9_force cX9_force 3 (some .int) :: GT) rmX9_force (PcW [.ref β, .int a1] (MW β G N x) (KK G)) (QcW (AM β) (some (.int r)) (MW β G N x')) 0 0 (AM β) := by
  unfold fX9_force at hm
  refine xpro (own := RX9) (by decide +kernel) rfl (Nat.le_of_ble_eq_true rfl) ?_
  intro p e s m args below meth c C hw ls hl
  have hx := C.1
  have hb := C.2.1
  have ho := C.2.2.2.1
  have hts := C.2.2.2.2.1
  have hS : va_S (AM β) s.heap s.heap [] := va_S.rf
  have hl : lv_has ls 3 [(0, .ref β), (1, .int a1)] := hl
  have hRf : 1 ≤ rmX9_force.frames := Nat.le_refl _
  have hRl : 25 ≤ rmX9_force.locals := Nat.le_refl _
  have hcs : 0 ≤ rmX9_force.cells ∧ 0 ≤ rmX9_force.slots := ⟨Nat.le_refl _, Nat.le_refl _⟩
  refine lv_iload_n hx hb dX9_force_0 rfl (lv_at hl 1 rfl) ?_
  refine lv_i2l hx hb dX9_force_1 rfl ?_
  refine lv_lconst (v := 0) hx hb dX9_force_2 (by decide) ?_
  refine lv_aload_n hx hb dX9_force_3 rfl (lv_at hl 0 rfl) ?_
  refine gX9_121 C hw dX9_force_4 ?_
  refine lv_iconst (v := 1) hx hb dX9_force_7 (by decide) ?_
  refine lv_isub hx hb dX9_force_8 ?_
  refine lv_i2l hx hb dX9_force_9 rfl ?_
  obtain ⟨v1, h2, hm⟩ := bind_e hm
  refine sX9_132 C h2 hw hS hl.1 (Nat.le_of_ble_eq_true rfl) (Nat.le_trans (Nat.le_of_ble_eq_true rfl) hRf) (Nat.le_trans (Nat.le_of_ble_eq_true rfl) hRl) hcs dX9_force_10 (fun H locs hw hS => ?_)
  refine x_ifneB hx hb dX9_force_13 (tgt := 19) (by decide) (fun cc => ?_) (fun cc => ?_)
  · replace hm := ite_p cc hm
    refine lv_aload_n hx hb dX9_force_19 rfl (lv_at hl 0 rfl) ?_
    refine gX9_184 C hw dX9_force_20 ?_
    refine topI hm (fun v3 hm => ?_)
    refine lv_istore_n (lv' := [(2, .int v3), (0, .ref β), (1, .int a1)]) hx hb dX9_force_23 rfl hl (by decide) rfl (fun ls hl => ?_)
    refine lv_aload_n hx hb dX9_force_24 rfl (lv_at hl 1 rfl) ?_
    refine lv_iload_n hx hb dX9_force_25 rfl (lv_at hl 2 rfl) ?_
    refine pX9_184 C hw hS dX9_force_26 (fun H locs hw hS => ?_)
    obtain ⟨x4, ev, hm⟩ := lt_e hm
    rw [← ev] at hw
    clear ev
    refine lv_iload_n hx hb dX9_force_29 rfl (lv_at hl 0 rfl) ?_
    obtain ⟨rfl, rfl⟩ := inj2 hm
    exact xret_i C hw hS dX9_force_30
  · replace hm := ite_n cc hm
    refine lv_bipush (v := (-2)) hx hb dX9_force_16 (by decide) ?_
    obtain ⟨rfl, rfl⟩ := inj2 hm
    exact xret_i C hw hS dX9_force_18
theorem dX9_raceTold_0 : decode cX9_raceTold 0 = .ok (.iload_n 1, 1) := by decide +kernel
theorem dX9_raceTold_1 : decode cX9_raceTold 1 = .ok (.i2l, 1) := by decide +kernel
theorem dX9_raceTold_2 : decode cX9_raceTold 2 = .ok (.lconst 0, 1) := by decide +kernel
theorem dX9_raceTold_3 : decode cX9_raceTold 3 = .ok (.aload_n 0, 1) := by decide +kernel
theorem dX9_raceTold_4 : decode cX9_raceTold 4 = .ok (.getfield 169, 3) := by decide +kernel
theorem dX9_raceTold_7 : decode cX9_raceTold 7 = .ok (.iconst 1, 1) := by decide +kernel
theorem dX9_raceTold_8 : decode cX9_raceTold 8 = .ok (.isub, 1) := by decide +kernel
theorem dX9_raceTold_9 : decode cX9_raceTold 9 = .ok (.i2l, 1) := by decide +kernel
theorem dX9_raceTold_10 : decode cX9_raceTold 10 = .ok (.invokestatic 132, 3) := by decide +kernel
theorem dX9_raceTold_13 : decode cX9_raceTold 13 = .ok (.ifCond .ne 6, 3) := by decide +kernel
theorem dX9_raceTold_16 : decode cX9_raceTold 16 = .ok (.bipush (-5), 2) := by decide +kernel
theorem dX9_raceTold_18 : decode cX9_raceTold 18 = .ok (.ireturn, 1) := by decide +kernel
theorem dX9_raceTold_19 : decode cX9_raceTold 19 = .ok (.iload_n 2, 1) := by decide +kernel
theorem dX9_raceTold_20 : decode cX9_raceTold 20 = .ok (.ifCond .ne 10, 3) := by decide +kernel
theorem dX9_raceTold_23 : decode cX9_raceTold 23 = .ok (.aload_n 0, 1) := by decide +kernel
theorem dX9_raceTold_24 : decode cX9_raceTold 24 = .ok (.getfield 57, 3) := by decide +kernel
theorem dX9_raceTold_27 : decode cX9_raceTold 27 = .ok (.iload_n 1, 1) := by decide +kernel
theorem dX9_raceTold_28 : decode cX9_raceTold 28 = .ok (.iaload, 1) := by decide +kernel
theorem dX9_raceTold_29 : decode cX9_raceTold 29 = .ok (.ireturn, 1) := by decide +kernel
theorem dX9_raceTold_30 : decode cX9_raceTold 30 = .ok (.iload_n 2, 1) := by decide +kernel
theorem dX9_raceTold_31 : decode cX9_raceTold 31 = .ok (.iconst 1, 1) := by decide +kernel
theorem dX9_raceTold_32 : decode cX9_raceTold 32 = .ok (.if_icmp .ne 10, 3) := by decide +kernel
theorem dX9_raceTold_35 : decode cX9_raceTold 35 = .ok (.aload_n 0, 1) := by decide +kernel
theorem dX9_raceTold_36 : decode cX9_raceTold 36 = .ok (.getfield 60, 3) := by decide +kernel
theorem dX9_raceTold_39 : decode cX9_raceTold 39 = .ok (.iload_n 1, 1) := by decide +kernel
theorem dX9_raceTold_40 : decode cX9_raceTold 40 = .ok (.iaload, 1) := by decide +kernel
theorem dX9_raceTold_41 : decode cX9_raceTold 41 = .ok (.ireturn, 1) := by decide +kernel
theorem dX9_raceTold_42 : decode cX9_raceTold 42 = .ok (.iload_n 2, 1) := by decide +kernel
theorem dX9_raceTold_43 : decode cX9_raceTold 43 = .ok (.iconst 2, 1) := by decide +kernel
theorem dX9_raceTold_44 : decode cX9_raceTold 44 = .ok (.if_icmp .ne 10, 3) := by decide +kernel
theorem dX9_raceTold_47 : decode cX9_raceTold 47 = .ok (.aload_n 0, 1) := by decide +kernel
theorem dX9_raceTold_48 : decode cX9_raceTold 48 = .ok (.getfield 63, 3) := by decide +kernel
theorem dX9_raceTold_51 : decode cX9_raceTold 51 = .ok (.iload_n 1, 1) := by decide +kernel
theorem dX9_raceTold_52 : decode cX9_raceTold 52 = .ok (.iaload, 1) := by decide +kernel
theorem dX9_raceTold_53 : decode cX9_raceTold 53 = .ok (.ireturn, 1) := by decide +kernel
theorem dX9_raceTold_54 : decode cX9_raceTold 54 = .ok (.iload_n 2, 1) := by decide +kernel
theorem dX9_raceTold_55 : decode cX9_raceTold 55 = .ok (.i2l, 1) := by decide +kernel
theorem dX9_raceTold_56 : decode cX9_raceTold 56 = .ok (.ldc2_w 136, 3) := by decide +kernel
theorem dX9_raceTold_59 : decode cX9_raceTold 59 = .ok (.iconst 2, 1) := by decide +kernel
theorem dX9_raceTold_60 : decode cX9_raceTold 60 = .ok (.aload_n 0, 1) := by decide +kernel
theorem dX9_raceTold_61 : decode cX9_raceTold 61 = .ok (.getfield 63, 3) := by decide +kernel
theorem dX9_raceTold_64 : decode cX9_raceTold 64 = .ok (.iload_n 1, 1) := by decide +kernel
theorem dX9_raceTold_65 : decode cX9_raceTold 65 = .ok (.iaload, 1) := by decide +kernel
theorem dX9_raceTold_66 : decode cX9_raceTold 66 = .ok (.iadd, 1) := by decide +kernel
theorem dX9_raceTold_67 : decode cX9_raceTold 67 = .ok (.i2l, 1) := by decide +kernel
theorem dX9_raceTold_68 : decode cX9_raceTold 68 = .ok (.invokestatic 132, 3) := by decide +kernel
theorem dX9_raceTold_71 : decode cX9_raceTold 71 = .ok (.ifCond .eq 16, 3) := by decide +kernel
theorem dX9_raceTold_74 : decode cX9_raceTold 74 = .ok (.aload_n 0, 1) := by decide +kernel
theorem dX9_raceTold_75 : decode cX9_raceTold 75 = .ok (.getfield 66, 3) := by decide +kernel
theorem dX9_raceTold_78 : decode cX9_raceTold 78 = .ok (.iconst 5, 1) := by decide +kernel
theorem dX9_raceTold_79 : decode cX9_raceTold 79 = .ok (.iload_n 1, 1) := by decide +kernel
theorem dX9_raceTold_80 : decode cX9_raceTold 80 = .ok (.imul, 1) := by decide +kernel
theorem dX9_raceTold_81 : decode cX9_raceTold 81 = .ok (.iload_n 2, 1) := by decide +kernel
theorem dX9_raceTold_82 : decode cX9_raceTold 82 = .ok (.iadd, 1) := by decide +kernel
theorem dX9_raceTold_83 : decode cX9_raceTold 83 = .ok (.iconst 3, 1) := by decide +kernel
theorem dX9_raceTold_84 : decode cX9_raceTold 84 = .ok (.isub, 1) := by decide +kernel
theorem dX9_raceTold_85 : decode cX9_raceTold 85 = .ok (.iaload, 1) := by decide +kernel
theorem dX9_raceTold_86 : decode cX9_raceTold 86 = .ok (.ireturn, 1) := by decide +kernel
theorem dX9_raceTold_87 : decode cX9_raceTold 87 = .ok (.iload_n 2, 1) := by decide +kernel
theorem dX9_raceTold_88 : decode cX9_raceTold 88 = .ok (.i2l, 1) := by decide +kernel
theorem dX9_raceTold_89 : decode cX9_raceTold 89 = .ok (.ldc2_w 268, 3) := by decide +kernel
theorem dX9_raceTold_92 : decode cX9_raceTold 92 = .ok (.bipush 7, 2) := by decide +kernel
theorem dX9_raceTold_94 : decode cX9_raceTold 94 = .ok (.aload_n 0, 1) := by decide +kernel
theorem dX9_raceTold_95 : decode cX9_raceTold 95 = .ok (.getfield 63, 3) := by decide +kernel
theorem dX9_raceTold_98 : decode cX9_raceTold 98 = .ok (.iload_n 1, 1) := by decide +kernel
theorem dX9_raceTold_99 : decode cX9_raceTold 99 = .ok (.iaload, 1) := by decide +kernel
theorem dX9_raceTold_100 : decode cX9_raceTold 100 = .ok (.iadd, 1) := by decide +kernel
theorem dX9_raceTold_101 : decode cX9_raceTold 101 = .ok (.i2l, 1) := by decide +kernel
theorem dX9_raceTold_102 : decode cX9_raceTold 102 = .ok (.invokestatic 132, 3) := by decide +kernel
theorem dX9_raceTold_105 : decode cX9_raceTold 105 = .ok (.ifCond .eq 19, 3) := by decide +kernel
theorem dX9_raceTold_108 : decode cX9_raceTold 108 = .ok (.aload_n 0, 1) := by decide +kernel
theorem dX9_raceTold_109 : decode cX9_raceTold 109 = .ok (.getfield 69, 3) := by decide +kernel
theorem dX9_raceTold_112 : decode cX9_raceTold 112 = .ok (.iconst 5, 1) := by decide +kernel
theorem dX9_raceTold_113 : decode cX9_raceTold 113 = .ok (.iload_n 1, 1) := by decide +kernel
theorem dX9_raceTold_114 : decode cX9_raceTold 114 = .ok (.imul, 1) := by decide +kernel
theorem dX9_raceTold_115 : decode cX9_raceTold 115 = .ok (.iload_n 2, 1) := by decide +kernel
theorem dX9_raceTold_116 : decode cX9_raceTold 116 = .ok (.iadd, 1) := by decide +kernel
theorem dX9_raceTold_117 : decode cX9_raceTold 117 = .ok (.bipush 8, 2) := by decide +kernel
theorem dX9_raceTold_119 : decode cX9_raceTold 119 = .ok (.isub, 1) := by decide +kernel
theorem dX9_raceTold_120 : decode cX9_raceTold 120 = .ok (.iaload, 1) := by decide +kernel
theorem dX9_raceTold_121 : decode cX9_raceTold 121 = .ok (.goto 5, 3) := by decide +kernel
theorem dX9_raceTold_124 : decode cX9_raceTold 124 = .ok (.bipush (-5), 2) := by decide +kernel
theorem dX9_raceTold_126 : decode cX9_raceTold 126 = .ok (.ireturn, 1) := by decide +kernel
theorem gX9_69 {p : Program} {l : Launch} {e : Env} {R : Room} {s : State} {m : MethodId} {args : Array Value} {below : List Frame} {meth : Method} {c : Code} {H : Heap} {locs : List Loc} {cells slots : Nat} {Q : State → Prop} {cc : ByteArray} {pc nL : Nat} {ls : Array Slot} {rest : List Value} {ret : Option FieldType} {G : xG} {β N : Nat} {x : MS} (C : Cx p s m args meth c RX9 cc nL ret (KK G)) (hw : MW β G N x H) (hd : decode cc pc = .ok (.getfield 69, 3)) (kk : W p l e R s m args below meth c H locs cells slots Q (F0 m (pc + 3) ls (.ref (β + 19) :: rest))) : W p l e R s m args below meth c H locs cells slots Q (F0 m pc ls (.ref β :: rest)) :=
  va_get C.1 C.2.1 C.2.2.2.2.1 iwX9 C.2.2.2.1 C.K.1 (xP1 (hw.2 0 (by decide))) 0 rfl rfl 40 (by decide) (C.2.2.2.2.1 (.fieldLink RX9 69 RX9 "leadThen" "[I") (tg 956 (by decide +kernel) rfl)) (fun _ h9 => h9) rfl hd kk
theorem alM_19 {p : Program} {l : Launch} {e : Env} {R : Room} {s : State} {m : MethodId} {args : Array Value} {below : List Frame} {meth : Method} {c : Code} {H : Heap} {locs : List Loc} {cells slots : Nat} {Q : State → Prop} {cc : ByteArray} {pc nL : Nat} {ls : Array Slot} {rest : List Value} {ret : Option FieldType} {G : xG} {β N : Nat} {x : MS} {own : String} {i : Int32} (C : Cx p s m args meth c own cc nL ret (KK G)) (hw : MW β G N x H) (hin : ib i 120) (hd : decode cc pc = .ok (.iaload, 1)) (kk : W p l e R s m args below meth c H locs cells slots Q (F0 m (pc + 1) ls (.int (x.2.1 19 i.toNatClampNeg) :: rest))) : W p l e R s m args below meth c H locs cells slots Q (F0 m pc ls (.int i :: .ref (β + 19) :: rest)) :=
  va_iald C.1 C.2.1 C.K.1 (xP1 (hw.2 19 (by decide))) 0 0 rfl rfl hin hd kk
theorem gX9_60 {p : Program} {l : Launch} {e : Env} {R : Room} {s : State} {m : MethodId} {args : Array Value} {below : List Frame} {meth : Method} {c : Code} {H : Heap} {locs : List Loc} {cells slots : Nat} {Q : State → Prop} {cc : ByteArray} {pc nL : Nat} {ls : Array Slot} {rest : List Value} {ret : Option FieldType} {G : xG} {β N : Nat} {x : MS} (C : Cx p s m args meth c RX9 cc nL ret (KK G)) (hw : MW β G N x H) (hd : decode cc pc = .ok (.getfield 60, 3)) (kk : W p l e R s m args below meth c H locs cells slots Q (F0 m (pc + 3) ls (.ref (β + 16) :: rest))) : W p l e R s m args below meth c H locs cells slots Q (F0 m pc ls (.ref β :: rest)) :=
  va_get C.1 C.2.1 C.2.2.2.2.1 iwX9 C.2.2.2.1 C.K.1 (xP1 (hw.2 0 (by decide))) 0 rfl rfl 37 (by decide) (C.2.2.2.2.1 (.fieldLink RX9 60 RX9 "raceDay" "[I") (tg 953 (by decide +kernel) rfl)) (fun _ h9 => h9) rfl hd kk
theorem alM_16 {p : Program} {l : Launch} {e : Env} {R : Room} {s : State} {m : MethodId} {args : Array Value} {below : List Frame} {meth : Method} {c : Code} {H : Heap} {locs : List Loc} {cells slots : Nat} {Q : State → Prop} {cc : ByteArray} {pc nL : Nat} {ls : Array Slot} {rest : List Value} {ret : Option FieldType} {G : xG} {β N : Nat} {x : MS} {own : String} {i : Int32} (C : Cx p s m args meth c own cc nL ret (KK G)) (hw : MW β G N x H) (hin : ib i 24) (hd : decode cc pc = .ok (.iaload, 1)) (kk : W p l e R s m args below meth c H locs cells slots Q (F0 m (pc + 1) ls (.int (x.2.1 16 i.toNatClampNeg) :: rest))) : W p l e R s m args below meth c H locs cells slots Q (F0 m pc ls (.int i :: .ref (β + 16) :: rest)) :=
  va_iald C.1 C.2.1 C.K.1 (xP1 (hw.2 16 (by decide))) 0 0 rfl rfl hin hd kk
theorem gX9_57 {p : Program} {l : Launch} {e : Env} {R : Room} {s : State} {m : MethodId} {args : Array Value} {below : List Frame} {meth : Method} {c : Code} {H : Heap} {locs : List Loc} {cells slots : Nat} {Q : State → Prop} {cc : ByteArray} {pc nL : Nat} {ls : Array Slot} {rest : List Value} {ret : Option FieldType} {G : xG} {β N : Nat} {x : MS} (C : Cx p s m args meth c RX9 cc nL ret (KK G)) (hw : MW β G N x H) (hd : decode cc pc = .ok (.getfield 57, 3)) (kk : W p l e R s m args below meth c H locs cells slots Q (F0 m (pc + 3) ls (.ref (β + 15) :: rest))) : W p l e R s m args below meth c H locs cells slots Q (F0 m pc ls (.ref β :: rest)) :=
  va_get C.1 C.2.1 C.2.2.2.2.1 iwX9 C.2.2.2.1 C.K.1 (xP1 (hw.2 0 (by decide))) 0 rfl rfl 36 (by decide) (C.2.2.2.2.1 (.fieldLink RX9 57 RX9 "raceGround" "[I") (tg 952 (by decide +kernel) rfl)) (fun _ h9 => h9) rfl hd kk
theorem alM_15 {p : Program} {l : Launch} {e : Env} {R : Room} {s : State} {m : MethodId} {args : Array Value} {below : List Frame} {meth : Method} {c : Code} {H : Heap} {locs : List Loc} {cells slots : Nat} {Q : State → Prop} {cc : ByteArray} {pc nL : Nat} {ls : Array Slot} {rest : List Value} {ret : Option FieldType} {G : xG} {β N : Nat} {x : MS} {own : String} {i : Int32} (C : Cx p s m args meth c own cc nL ret (KK G)) (hw : MW β G N x H) (hin : ib i 24) (hd : decode cc pc = .ok (.iaload, 1)) (kk : W p l e R s m args below meth c H locs cells slots Q (F0 m (pc + 1) ls (.int (x.2.1 15 i.toNatClampNeg) :: rest))) : W p l e R s m args below meth c H locs cells slots Q (F0 m pc ls (.int i :: .ref (β + 15) :: rest)) :=
  va_iald C.1 C.2.1 C.K.1 (xP1 (hw.2 15 (by decide))) 0 0 rfl rfl hin hd kk
def fX9_raceTold (x : MS) (a1 : Int32) (a2 : Int32) : Option (Int32) := Option.bind (fX9_in (a1.toInt64) 0 (((x.1 0 41) - 1).toInt64)) fun v1 => if v1 = true then if a2 = 0 then if ib a1 24 then some (x.2.1 15 a1.toNatClampNeg) else none else if a2 = 1 then if ib a1 24 then some (x.2.1 16 a1.toNatClampNeg) else none else if a2 = 2 then if ib a1 24 then some (x.2.1 17 a1.toNatClampNeg) else none else if ib a1 24 then Option.bind (fX9_in (a2.toInt64) 3 ((2 + (x.2.1 17 a1.toNatClampNeg)).toInt64)) fun v4 => if v4 = true then if ib (((5 * a1) + a2) - 3) 120 then some (x.2.1 18 (((5 * a1) + a2) - 3).toNatClampNeg) else none else if ib a1 24 then Option.bind (fX9_in (a2.toInt64) 8 ((7 + (x.2.1 17 a1.toNatClampNeg)).toInt64)) fun v7 => if v7 = true then if ib (((5 * a1) + a2) - 8) 120 then some (x.2.1 19 (((5 * a1) + a2) - 8).toNatClampNeg) else none else some (-5) else none else none else some (-5)
abbrev rmX9_raceTold : Room := { frames := 1, cells := 0, slots := 0, locals := 25 }
set_option maxHeartbeats 4000000 in
set_option maxRecDepth 100000 in
theorem kX9_raceTold {l : Launch} {G : xG} {β N : Nat} {x : MS} {a1 : Int32} {a2 : Int32} {r : Int32} (hm : fX9_raceTold x a1 a2 = some r) : Met l yX9_raceTold (.code yX9_raceTold cX9_raceTold 3 (some .int) :: GT) rmX9_raceTold (PcW [.ref β, .int a1, .int a2] (MW β G N x) (KK G)) (QcW (AM β) (some (.int r)) (MW β G N x)) 0 0 (AM β) := by
  unfold fX9_raceTold at hm
  refine xpro (own := RX9) (by decide +kernel) rfl (Nat.le_of_ble_eq_true rfl) ?_
  intro p e s m args below meth c C hw ls hl
  have hx := C.1
  have hb := C.2.1
  have ho := C.2.2.2.1
  have hts := C.2.2.2.2.1
  have hS : va_S (AM β) s.heap s.heap [] := va_S.rf
  have hl : lv_has ls 3 [(0, .ref β), (1, .int a1), (2, .int a2)] := hl
  have hRf : 1 ≤ rmX9_raceTold.frames := Nat.le_refl _
  have hRl : 25 ≤ rmX9_raceTold.locals := Nat.le_refl _
  have hcs : 0 ≤ rmX9_raceTold.cells ∧ 0 ≤ rmX9_raceTold.slots := ⟨Nat.le_refl _, Nat.le_refl _⟩
  refine lv_iload_n hx hb dX9_raceTold_0 rfl (lv_at hl 1 rfl) ?_
  refine lv_i2l hx hb dX9_raceTold_1 rfl ?_
  refine lv_lconst (v := 0) hx hb dX9_raceTold_2 (by decide) ?_
  refine lv_aload_n hx hb dX9_raceTold_3 rfl (lv_at hl 0 rfl) ?_
  refine gX9_169 C hw dX9_raceTold_4 ?_
  refine lv_iconst (v := 1) hx hb dX9_raceTold_7 (by decide) ?_
  refine lv_isub hx hb dX9_raceTold_8 ?_
  refine lv_i2l hx hb dX9_raceTold_9 rfl ?_
  obtain ⟨v1, h2, hm⟩ := bind_e hm
  refine sX9_132 C h2 hw hS hl.1 (Nat.le_of_ble_eq_true rfl) (Nat.le_trans (Nat.le_of_ble_eq_true rfl) hRf) (Nat.le_trans (Nat.le_of_ble_eq_true rfl) hRl) hcs dX9_raceTold_10 (fun H locs hw hS => ?_)
  refine x_ifneB hx hb dX9_raceTold_13 (tgt := 19) (by decide) (fun cc => ?_) (fun cc => ?_)
  · replace hm := ite_p cc hm
    refine lv_iload_n hx hb dX9_raceTold_19 rfl (lv_at hl 2 rfl) ?_
    refine lv_if_ne (tgt := 30) hx hb dX9_raceTold_20 (by decide) (fun cc => ?_) (fun cc => ?_)
    · replace hm := ite_n cc hm
      refine lv_iload_n hx hb dX9_raceTold_30 rfl (lv_at hl 2 rfl) ?_
      refine lv_iconst (v := 1) hx hb dX9_raceTold_31 (by decide) ?_
      refine lv_icmp_ne (tgt := 42) hx hb dX9_raceTold_32 (by decide) (fun cc => ?_) (fun cc => ?_)
      · replace hm := ite_n cc hm
        refine lv_iload_n hx hb dX9_raceTold_42 rfl (lv_at hl 2 rfl) ?_
        refine lv_iconst (v := 2) hx hb dX9_raceTold_43 (by decide) ?_
        refine lv_icmp_ne (tgt := 54) hx hb dX9_raceTold_44 (by decide) (fun cc => ?_) (fun cc => ?_)
        · replace hm := ite_n cc hm
          refine lv_iload_n hx hb dX9_raceTold_54 rfl (lv_at hl 2 rfl) ?_
          refine lv_i2l hx hb dX9_raceTold_55 rfl ?_
          refine lv_ldc2 (v := 3) hx hb ho (hts (.constantLong RX9 136 3) (tg 1117 (by decide +kernel) rfl)) dX9_raceTold_56 ?_
          refine lv_iconst (v := 2) hx hb dX9_raceTold_59 (by decide) ?_
          refine lv_aload_n hx hb dX9_raceTold_60 rfl (lv_at hl 0 rfl) ?_
          refine gX9_63 C hw dX9_raceTold_61 ?_
          refine lv_iload_n hx hb dX9_raceTold_64 rfl (lv_at hl 1 rfl) ?_
          obtain ⟨h3, hm⟩ := chk_e hm
          refine alM_17 C hw h3 dX9_raceTold_65 ?_
          refine lv_iadd hx hb dX9_raceTold_66 ?_
          refine lv_i2l hx hb dX9_raceTold_67 rfl ?_
          obtain ⟨v4, h5, hm⟩ := bind_e hm
          refine sX9_132 C h5 hw hS hl.1 (Nat.le_of_ble_eq_true rfl) (Nat.le_trans (Nat.le_of_ble_eq_true rfl) hRf) (Nat.le_trans (Nat.le_of_ble_eq_true rfl) hRl) hcs dX9_raceTold_68 (fun H locs hw hS => ?_)
          refine x_ifeqB hx hb dX9_raceTold_71 (tgt := 87) (by decide) (fun cc => ?_) (fun cc => ?_)
          · replace hm := ite_n cc hm
            refine lv_iload_n hx hb dX9_raceTold_87 rfl (lv_at hl 2 rfl) ?_
            refine lv_i2l hx hb dX9_raceTold_88 rfl ?_
            refine lv_ldc2 (v := 8) hx hb ho (hts (.constantLong RX9 268 8) (tg 1333 (by decide +kernel) rfl)) dX9_raceTold_89 ?_
            refine lv_bipush (v := 7) hx hb dX9_raceTold_92 (by decide) ?_
            refine lv_aload_n hx hb dX9_raceTold_94 rfl (lv_at hl 0 rfl) ?_
            refine gX9_63 C hw dX9_raceTold_95 ?_
            refine lv_iload_n hx hb dX9_raceTold_98 rfl (lv_at hl 1 rfl) ?_
            obtain ⟨h6, hm⟩ := chk_e hm
            refine alM_17 C hw h6 dX9_raceTold_99 ?_
            refine lv_iadd hx hb dX9_raceTold_100 ?_
            refine lv_i2l hx hb dX9_raceTold_101 rfl ?_
            obtain ⟨v7, h8, hm⟩ := bind_e hm
            refine sX9_132 C h8 hw hS hl.1 (Nat.le_of_ble_eq_true rfl) (Nat.le_trans (Nat.le_of_ble_eq_true rfl) hRf) (Nat.le_trans (Nat.le_of_ble_eq_true rfl) hRl) hcs dX9_raceTold_102 (fun H locs hw hS => ?_)
            refine x_ifeqB hx hb dX9_raceTold_105 (tgt := 124) (by decide) (fun cc => ?_) (fun cc => ?_)
            · replace hm := ite_n cc hm
              refine lv_bipush (v := (-5)) hx hb dX9_raceTold_124 (by decide) ?_
              obtain rfl := Option.some.inj hm
              exact xret_i C hw hS dX9_raceTold_126
            · replace hm := ite_p cc hm
              refine lv_aload_n hx hb dX9_raceTold_108 rfl (lv_at hl 0 rfl) ?_
              refine gX9_69 C hw dX9_raceTold_109 ?_
              refine lv_iconst (v := 5) hx hb dX9_raceTold_112 (by decide) ?_
              refine lv_iload_n hx hb dX9_raceTold_113 rfl (lv_at hl 1 rfl) ?_
              refine lv_imul hx hb dX9_raceTold_114 ?_
              refine lv_iload_n hx hb dX9_raceTold_115 rfl (lv_at hl 2 rfl) ?_
              refine lv_iadd hx hb dX9_raceTold_116 ?_
              refine lv_bipush (v := 8) hx hb dX9_raceTold_117 (by decide) ?_
              refine lv_isub hx hb dX9_raceTold_119 ?_
              obtain ⟨h9, hm⟩ := chk_e hm
              refine alM_19 C hw h9 dX9_raceTold_120 ?_
              refine lv_goto (tgt := 126) hx hb dX9_raceTold_121 (by decide) ?_
              obtain rfl := Option.some.inj hm
              exact xret_i C hw hS dX9_raceTold_126
          · replace hm := ite_p cc hm
            refine lv_aload_n hx hb dX9_raceTold_74 rfl (lv_at hl 0 rfl) ?_
            refine gX9_66 C hw dX9_raceTold_75 ?_
            refine lv_iconst (v := 5) hx hb dX9_raceTold_78 (by decide) ?_
            refine lv_iload_n hx hb dX9_raceTold_79 rfl (lv_at hl 1 rfl) ?_
            refine lv_imul hx hb dX9_raceTold_80 ?_
            refine lv_iload_n hx hb dX9_raceTold_81 rfl (lv_at hl 2 rfl) ?_
            refine lv_iadd hx hb dX9_raceTold_82 ?_
            refine lv_iconst (v := 3) hx hb dX9_raceTold_83 (by decide) ?_
            refine lv_isub hx hb dX9_raceTold_84 ?_
            obtain ⟨h10, hm⟩ := chk_e hm
            refine alM_18 C hw h10 dX9_raceTold_85 ?_
            obtain rfl := Option.some.inj hm
            exact xret_i C hw hS dX9_raceTold_86
        · replace hm := ite_p cc hm
          refine lv_aload_n hx hb dX9_raceTold_47 rfl (lv_at hl 0 rfl) ?_
          refine gX9_63 C hw dX9_raceTold_48 ?_
          refine lv_iload_n hx hb dX9_raceTold_51 rfl (lv_at hl 1 rfl) ?_
          obtain ⟨h11, hm⟩ := chk_e hm
          refine alM_17 C hw h11 dX9_raceTold_52 ?_
          obtain rfl := Option.some.inj hm
          exact xret_i C hw hS dX9_raceTold_53
      · replace hm := ite_p cc hm
        refine lv_aload_n hx hb dX9_raceTold_35 rfl (lv_at hl 0 rfl) ?_
        refine gX9_60 C hw dX9_raceTold_36 ?_
        refine lv_iload_n hx hb dX9_raceTold_39 rfl (lv_at hl 1 rfl) ?_
        obtain ⟨h12, hm⟩ := chk_e hm
        refine alM_16 C hw h12 dX9_raceTold_40 ?_
        obtain rfl := Option.some.inj hm
        exact xret_i C hw hS dX9_raceTold_41
    · replace hm := ite_p cc hm
      refine lv_aload_n hx hb dX9_raceTold_23 rfl (lv_at hl 0 rfl) ?_
      refine gX9_57 C hw dX9_raceTold_24 ?_
      refine lv_iload_n hx hb dX9_raceTold_27 rfl (lv_at hl 1 rfl) ?_
      obtain ⟨h13, hm⟩ := chk_e hm
      refine alM_15 C hw h13 dX9_raceTold_28 ?_
      obtain rfl := Option.some.inj hm
      exact xret_i C hw hS dX9_raceTold_29
  · replace hm := ite_n cc hm
    refine lv_bipush (v := (-5)) hx hb dX9_raceTold_16 (by decide) ?_
    obtain rfl := Option.some.inj hm
    exact xret_i C hw hS dX9_raceTold_18
