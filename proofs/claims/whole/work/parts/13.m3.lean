theorem dX9_carriedIn_0 : decode cX9_carriedIn 0 = .ok (.aload_n 0, 1) := by decide +kernel
theorem dX9_carriedIn_1 : decode cX9_carriedIn 1 = .ok (.aload_n 0, 1) := by decide +kernel
theorem dX9_carriedIn_2 : decode cX9_carriedIn 2 = .ok (.getfield 66, 3) := by decide +kernel
theorem dX9_carriedIn_5 : decode cX9_carriedIn 5 = .ok (.iconst 5, 1) := by decide +kernel
theorem dX9_carriedIn_6 : decode cX9_carriedIn 6 = .ok (.iload_n 1, 1) := by decide +kernel
theorem dX9_carriedIn_7 : decode cX9_carriedIn 7 = .ok (.imul, 1) := by decide +kernel
theorem dX9_carriedIn_8 : decode cX9_carriedIn 8 = .ok (.iload_n 2, 1) := by decide +kernel
theorem dX9_carriedIn_9 : decode cX9_carriedIn 9 = .ok (.iadd, 1) := by decide +kernel
theorem dX9_carriedIn_10 : decode cX9_carriedIn 10 = .ok (.iaload, 1) := by decide +kernel
theorem dX9_carriedIn_11 : decode cX9_carriedIn 11 = .ok (.aload_n 0, 1) := by decide +kernel
theorem dX9_carriedIn_12 : decode cX9_carriedIn 12 = .ok (.getfield 57, 3) := by decide +kernel
theorem dX9_carriedIn_15 : decode cX9_carriedIn 15 = .ok (.iload_n 1, 1) := by decide +kernel
theorem dX9_carriedIn_16 : decode cX9_carriedIn 16 = .ok (.iaload, 1) := by decide +kernel
theorem dX9_carriedIn_17 : decode cX9_carriedIn 17 = .ok (.aload_n 0, 1) := by decide +kernel
theorem dX9_carriedIn_18 : decode cX9_carriedIn 18 = .ok (.getfield 60, 3) := by decide +kernel
theorem dX9_carriedIn_21 : decode cX9_carriedIn 21 = .ok (.iload_n 1, 1) := by decide +kernel
theorem dX9_carriedIn_22 : decode cX9_carriedIn 22 = .ok (.iaload, 1) := by decide +kernel
theorem dX9_carriedIn_23 : decode cX9_carriedIn 23 = .ok (.iload_n 3, 1) := by decide +kernel
theorem dX9_carriedIn_24 : decode cX9_carriedIn 24 = .ok (.aload_n 0, 1) := by decide +kernel
theorem dX9_carriedIn_25 : decode cX9_carriedIn 25 = .ok (.getfield 69, 3) := by decide +kernel
theorem dX9_carriedIn_28 : decode cX9_carriedIn 28 = .ok (.iconst 5, 1) := by decide +kernel
theorem dX9_carriedIn_29 : decode cX9_carriedIn 29 = .ok (.iload_n 1, 1) := by decide +kernel
theorem dX9_carriedIn_30 : decode cX9_carriedIn 30 = .ok (.imul, 1) := by decide +kernel
theorem dX9_carriedIn_31 : decode cX9_carriedIn 31 = .ok (.iload_n 2, 1) := by decide +kernel
theorem dX9_carriedIn_32 : decode cX9_carriedIn 32 = .ok (.iadd, 1) := by decide +kernel
theorem dX9_carriedIn_33 : decode cX9_carriedIn 33 = .ok (.iaload, 1) := by decide +kernel
theorem dX9_carriedIn_34 : decode cX9_carriedIn 34 = .ok (.invokevirtual 200, 3) := by decide +kernel
theorem dX9_carriedIn_37 : decode cX9_carriedIn 37 = .ok (.ireturn, 1) := by decide +kernel
def fX9_carriedIn (x : MS) (a1 : Int32) (a2 : Int32) (a3 : Int32) : Option (Int32) := if ib ((5 * a1) + a2) 120 then if ib a1 24 then if ib a1 24 then if ib ((5 * a1) + a2) 120 then Option.bind (fX9_carries x (x.2.1 18 ((5 * a1) + a2).toNatClampNeg) (x.2.1 15 a1.toNatClampNeg) (x.2.1 16 a1.toNatClampNeg) a3 (x.2.1 19 ((5 * a1) + a2).toNatClampNeg)) fun v5 => some v5 else none else none else none else none
abbrev rmX9_carriedIn : Room := { frames := 2, cells := 0, slots := 0, locals := 49 }
set_option maxHeartbeats 4000000 in
set_option maxRecDepth 100000 in
theorem kX9_carriedIn {l : Launch} {G : xG} {β N : Nat} {x : MS} {a1 : Int32} {a2 : Int32} {a3 : Int32} {r : Int32} (hm : fX9_carriedIn x a1 a2 a3 = some r) : Met l yX9_carriedIn (.code yX9_carriedIn cX9_carriedIn 4 (some .int) :: GT) rmX9_carriedIn (PcW [.ref β, .int a1, .int a2, .int a3] (MW β G N x) (KK G)) (QcW (AM β) (some (.int r)) (MW β G N x)) 0 0 (AM β) := by
  unfold fX9_carriedIn at hm
  refine xpro (own := RX9) (by decide +kernel) rfl (Nat.le_of_ble_eq_true rfl) ?_
  intro p e s m args below meth c C hw ls hl
  have hx := C.1
  have hb := C.2.1
  have ho := C.2.2.2.1
  have hts := C.2.2.2.2.1
  have hS : va_S (AM β) s.heap s.heap [] := va_S.rf
  have hl : lv_has ls 4 [(0, .ref β), (1, .int a1), (2, .int a2), (3, .int a3)] := hl
  have hRf : 2 ≤ rmX9_carriedIn.frames := Nat.le_refl _
  have hRl : 49 ≤ rmX9_carriedIn.locals := Nat.le_refl _
  have hcs : 0 ≤ rmX9_carriedIn.cells ∧ 0 ≤ rmX9_carriedIn.slots := ⟨Nat.le_refl _, Nat.le_refl _⟩
  refine lv_aload_n hx hb dX9_carriedIn_0 rfl (lv_at hl 0 rfl) ?_
  refine lv_aload_n hx hb dX9_carriedIn_1 rfl (lv_at hl 0 rfl) ?_
  refine gX9_66 C hw dX9_carriedIn_2 ?_
  refine lv_iconst (v := 5) hx hb dX9_carriedIn_5 (by decide) ?_
  refine lv_iload_n hx hb dX9_carriedIn_6 rfl (lv_at hl 1 rfl) ?_
  refine lv_imul hx hb dX9_carriedIn_7 ?_
  refine lv_iload_n hx hb dX9_carriedIn_8 rfl (lv_at hl 2 rfl) ?_
  refine lv_iadd hx hb dX9_carriedIn_9 ?_
  obtain ⟨h1, hm⟩ := chk_e hm
  refine alM_18 C hw h1 dX9_carriedIn_10 ?_
  refine lv_aload_n hx hb dX9_carriedIn_11 rfl (lv_at hl 0 rfl) ?_
  refine gX9_57 C hw dX9_carriedIn_12 ?_
  refine lv_iload_n hx hb dX9_carriedIn_15 rfl (lv_at hl 1 rfl) ?_
  obtain ⟨h2, hm⟩ := chk_e hm
  refine alM_15 C hw h2 dX9_carriedIn_16 ?_
  refine lv_aload_n hx hb dX9_carriedIn_17 rfl (lv_at hl 0 rfl) ?_
  refine gX9_60 C hw dX9_carriedIn_18 ?_
  refine lv_iload_n hx hb dX9_carriedIn_21 rfl (lv_at hl 1 rfl) ?_
  obtain ⟨h3, hm⟩ := chk_e hm
  refine alM_16 C hw h3 dX9_carriedIn_22 ?_
  refine lv_iload_n hx hb dX9_carriedIn_23 rfl (lv_at hl 3 rfl) ?_
  refine lv_aload_n hx hb dX9_carriedIn_24 rfl (lv_at hl 0 rfl) ?_
  refine gX9_69 C hw dX9_carriedIn_25 ?_
  refine lv_iconst (v := 5) hx hb dX9_carriedIn_28 (by decide) ?_
  refine lv_iload_n hx hb dX9_carriedIn_29 rfl (lv_at hl 1 rfl) ?_
  refine lv_imul hx hb dX9_carriedIn_30 ?_
  refine lv_iload_n hx hb dX9_carriedIn_31 rfl (lv_at hl 2 rfl) ?_
  refine lv_iadd hx hb dX9_carriedIn_32 ?_
  obtain ⟨h4, hm⟩ := chk_e hm
  refine alM_19 C hw h4 dX9_carriedIn_33 ?_
  obtain ⟨v5, h6, hm⟩ := bind_e hm
  refine sX9_200 C h6 hw hS hl.1 (Nat.le_of_ble_eq_true rfl) (Nat.le_trans (Nat.le_of_ble_eq_true rfl) hRf) (Nat.le_trans (Nat.le_of_ble_eq_true rfl) hRl) hcs dX9_carriedIn_34 (fun H locs hw hS => ?_)
  obtain rfl := Option.some.inj hm
  exact xret_i C hw hS dX9_carriedIn_37
theorem dX9_againstOf_0 : decode cX9_againstOf 0 = .ok (.iconst 0, 1) := by decide +kernel
theorem dX9_againstOf_1 : decode cX9_againstOf 1 = .ok (.istore_n 3, 1) := by decide +kernel
theorem dX9_againstOf_2 : decode cX9_againstOf 2 = .ok (.iconst 0, 1) := by decide +kernel
theorem dX9_againstOf_3 : decode cX9_againstOf 3 = .ok (.istore 4, 2) := by decide +kernel
theorem dX9_againstOf_5 : decode cX9_againstOf 5 = .ok (.iload 4, 2) := by decide +kernel
theorem dX9_againstOf_7 : decode cX9_againstOf 7 = .ok (.aload_n 0, 1) := by decide +kernel
theorem dX9_againstOf_8 : decode cX9_againstOf 8 = .ok (.getfield 169, 3) := by decide +kernel
theorem dX9_againstOf_11 : decode cX9_againstOf 11 = .ok (.if_icmp .ge 97, 3) := by decide +kernel
theorem dX9_againstOf_14 : decode cX9_againstOf 14 = .ok (.aload_n 0, 1) := by decide +kernel
theorem dX9_againstOf_15 : decode cX9_againstOf 15 = .ok (.getfield 57, 3) := by decide +kernel
theorem dX9_againstOf_18 : decode cX9_againstOf 18 = .ok (.iload 4, 2) := by decide +kernel
theorem dX9_againstOf_20 : decode cX9_againstOf 20 = .ok (.iaload, 1) := by decide +kernel
theorem dX9_againstOf_21 : decode cX9_againstOf 21 = .ok (.iload_n 1, 1) := by decide +kernel
theorem dX9_againstOf_22 : decode cX9_againstOf 22 = .ok (.if_icmp .eq 6, 3) := by decide +kernel
theorem dX9_againstOf_25 : decode cX9_againstOf 25 = .ok (.goto 77, 3) := by decide +kernel
theorem dX9_againstOf_28 : decode cX9_againstOf 28 = .ok (.iconst 0, 1) := by decide +kernel
theorem dX9_againstOf_29 : decode cX9_againstOf 29 = .ok (.istore 5, 2) := by decide +kernel
theorem dX9_againstOf_31 : decode cX9_againstOf 31 = .ok (.iload 5, 2) := by decide +kernel
theorem dX9_againstOf_33 : decode cX9_againstOf 33 = .ok (.aload_n 0, 1) := by decide +kernel
theorem dX9_againstOf_34 : decode cX9_againstOf 34 = .ok (.getfield 63, 3) := by decide +kernel
theorem dX9_againstOf_37 : decode cX9_againstOf 37 = .ok (.iload 4, 2) := by decide +kernel
theorem dX9_againstOf_39 : decode cX9_againstOf 39 = .ok (.iaload, 1) := by decide +kernel
theorem dX9_againstOf_40 : decode cX9_againstOf 40 = .ok (.if_icmp .ge 62, 3) := by decide +kernel
theorem dX9_againstOf_43 : decode cX9_againstOf 43 = .ok (.iload 5, 2) := by decide +kernel
theorem dX9_againstOf_45 : decode cX9_againstOf 45 = .ok (.iconst 1, 1) := by decide +kernel
theorem dX9_againstOf_46 : decode cX9_againstOf 46 = .ok (.iadd, 1) := by decide +kernel
theorem dX9_againstOf_47 : decode cX9_againstOf 47 = .ok (.istore 6, 2) := by decide +kernel
theorem dX9_againstOf_49 : decode cX9_againstOf 49 = .ok (.iload 6, 2) := by decide +kernel
theorem dX9_againstOf_51 : decode cX9_againstOf 51 = .ok (.aload_n 0, 1) := by decide +kernel
theorem dX9_againstOf_52 : decode cX9_againstOf 52 = .ok (.getfield 63, 3) := by decide +kernel
theorem dX9_againstOf_55 : decode cX9_againstOf 55 = .ok (.iload 4, 2) := by decide +kernel
theorem dX9_againstOf_57 : decode cX9_againstOf 57 = .ok (.iaload, 1) := by decide +kernel
theorem dX9_againstOf_58 : decode cX9_againstOf 58 = .ok (.if_icmp .ge 38, 3) := by decide +kernel
theorem dX9_againstOf_61 : decode cX9_againstOf 61 = .ok (.iload_n 3, 1) := by decide +kernel
theorem dX9_againstOf_62 : decode cX9_againstOf 62 = .ok (.aload_n 0, 1) := by decide +kernel
theorem dX9_againstOf_63 : decode cX9_againstOf 63 = .ok (.iload 4, 2) := by decide +kernel
theorem dX9_againstOf_65 : decode cX9_againstOf 65 = .ok (.iload 6, 2) := by decide +kernel
theorem dX9_againstOf_67 : decode cX9_againstOf 67 = .ok (.iload_n 2, 1) := by decide +kernel
theorem dX9_againstOf_68 : decode cX9_againstOf 68 = .ok (.invokevirtual 408, 3) := by decide +kernel
theorem dX9_againstOf_71 : decode cX9_againstOf 71 = .ok (.aload_n 0, 1) := by decide +kernel
theorem dX9_againstOf_72 : decode cX9_againstOf 72 = .ok (.iload 4, 2) := by decide +kernel
theorem dX9_againstOf_74 : decode cX9_againstOf 74 = .ok (.iload 5, 2) := by decide +kernel
theorem dX9_againstOf_76 : decode cX9_againstOf 76 = .ok (.iload_n 2, 1) := by decide +kernel
theorem dX9_againstOf_77 : decode cX9_againstOf 77 = .ok (.invokevirtual 408, 3) := by decide +kernel
theorem dX9_againstOf_80 : decode cX9_againstOf 80 = .ok (.if_icmp .le 7, 3) := by decide +kernel
theorem dX9_againstOf_83 : decode cX9_againstOf 83 = .ok (.iconst 1, 1) := by decide +kernel
theorem dX9_againstOf_84 : decode cX9_againstOf 84 = .ok (.goto 4, 3) := by decide +kernel
theorem dX9_againstOf_87 : decode cX9_againstOf 87 = .ok (.iconst 0, 1) := by decide +kernel
theorem dX9_againstOf_88 : decode cX9_againstOf 88 = .ok (.iadd, 1) := by decide +kernel
theorem dX9_againstOf_89 : decode cX9_againstOf 89 = .ok (.istore_n 3, 1) := by decide +kernel
theorem dX9_againstOf_90 : decode cX9_againstOf 90 = .ok (.iinc 6 1, 3) := by decide +kernel
theorem dX9_againstOf_93 : decode cX9_againstOf 93 = .ok (.goto (-44), 3) := by decide +kernel
theorem dX9_againstOf_96 : decode cX9_againstOf 96 = .ok (.iinc 5 1, 3) := by decide +kernel
theorem dX9_againstOf_99 : decode cX9_againstOf 99 = .ok (.goto (-68), 3) := by decide +kernel
theorem dX9_againstOf_102 : decode cX9_againstOf 102 = .ok (.iinc 4 1, 3) := by decide +kernel
theorem dX9_againstOf_105 : decode cX9_againstOf 105 = .ok (.goto (-100), 3) := by decide +kernel
theorem dX9_againstOf_108 : decode cX9_againstOf 108 = .ok (.iload_n 3, 1) := by decide +kernel
theorem dX9_againstOf_109 : decode cX9_againstOf 109 = .ok (.ireturn, 1) := by decide +kernel
theorem sX9_408 {p : Program} {l : Launch} {e : Env} {R : Room} {s : State} {m : MethodId} {args : Array Value} {below : List Frame} {meth : Method} {c : Code} {H : Heap} {locs : List Loc} {cells slots : Nat} {Q : State → Prop} {cc : ByteArray} {pc nL : Nat} {ls : Array Slot} {rest : List Value} {ret : Option FieldType} {G : xG} {β N : Nat} {x : MS} {a1 : Int32} {a2 : Int32} {a3 : Int32} {r : Int32} (C : Cx p s m args meth c RX9 cc nL ret (KK G)) (h : fX9_carriedIn x a1 a2 a3 = some r) (hw : MW β G N x H) (hS : va_S (AM β) s.heap H locs) (hsz : ls.size = nL) (hW : (rest.map fun v => v.category).sum ≤ 8) (hR : 3 ≤ R.frames) (hR2 : 72 ≤ R.locals) (hcs : cells ≤ R.cells ∧ slots ≤ R.slots) (hd : decode cc pc = .ok (.invokevirtual 408, 3)) (kk : ∀ (H1 : Heap) (locs1 : List Loc), MW β G N x H1 → va_S (AM β) s.heap H1 locs1 → W p l e R s m args below meth c H1 locs1 cells slots Q (F0 m (pc + 3) ls (.int r :: rest))) : W p l e R s m args below meth c H locs cells slots Q (F0 m pc ls (.int a3 :: .int a2 :: .int a1 :: .ref β :: rest)) :=
  xcallV C (As := [.int a1, .int a2, .int a3]) (rest := rest) (nA := 3) (ci := 9) (kX9_carriedIn h) (tg 1362 (by decide +kernel) rfl) (tg 1364 (by decide +kernel) rfl) (sg (List.mem_of_getElem? (i := 91) (by decide +kernel)) rfl) (tg 14 (by decide +kernel) rfl) (tg 1365 (by decide +kernel) rfl) ⟨rfl, by decide +kernel, by decide +kernel, by decide +kernel⟩ rfl rfl rfl ⟨hR, hR2⟩ (hw.2 0 (by decide)) hw hS (fun _ q => q) rfl rfl hsz hW hd hcs (fun H1 locs1 hw hz hk hS => kk H1 locs1 hw hS)
def BX9_againstOf_49 (x : MS) (q1 : Int32) (q2 : Int32) (q4 : Int32) (q5 : Int32) (lp : Int32 → Int32 → Option (Int32)) (u3 : Int32) (u6 : Int32) : Option (Int32) := if ib q4 24 then if (x.2.1 17 q4.toNatClampNeg) ≤ u6 then some u3 else Option.bind (fX9_carriedIn x q4 u6 q2) fun v5 => Option.bind (fX9_carriedIn x q4 q5 q2) fun v7 => if v5 ≤ v7 then lt (u3 + 0) fun v9 => lt (u6 + 1) fun v10 => lp v9 v10 else lt (u3 + 1) fun v11 => lt (u6 + 1) fun v12 => lp v11 v12 else none
def LX9_againstOf_49 (x : MS) (q1 : Int32) (q2 : Int32) (q4 : Int32) (q5 : Int32) : Nat → Int32 → Int32 → Option (Int32)
  | 0, _, _ => none
  | n + 1, u3, u6 => BX9_againstOf_49 x q1 q2 q4 q5 (LX9_againstOf_49 x q1 q2 q4 q5 n) u3 u6
def BX9_againstOf_31 (x : MS) (q1 : Int32) (q2 : Int32) (q4 : Int32) (lp : Int32 → Int32 → Option (Int32)) (u3 : Int32) (u5 : Int32) : Option (Int32) := if ib q4 24 then if (x.2.1 17 q4.toNatClampNeg) ≤ u5 then some u3 else lt (u5 + 1) fun v3 => Option.bind (LX9_againstOf_49 x q1 q2 q4 u5 NF u3 v3) fun v13 => lt (u5 + 1) fun v14 => lp v13 v14 else none
def LX9_againstOf_31 (x : MS) (q1 : Int32) (q2 : Int32) (q4 : Int32) : Nat → Int32 → Int32 → Option (Int32)
  | 0, _, _ => none
  | n + 1, u3, u5 => BX9_againstOf_31 x q1 q2 q4 (LX9_againstOf_31 x q1 q2 q4 n) u3 u5
def BX9_againstOf_5 (x : MS) (q1 : Int32) (q2 : Int32) (lp : Int32 → Int32 → Option (Int32)) (u3 : Int32) (u4 : Int32) : Option (Int32) := if (x.1 0 41) ≤ u4 then some u3 else if ib u4 24 then if (x.2.1 15 u4.toNatClampNeg) = q1 then Option.bind (LX9_againstOf_31 x q1 q2 u4 NF u3 0) fun v15 => lt (u4 + 1) fun v16 => lp v15 v16 else lt (u4 + 1) fun v17 => lp u3 v17 else none
def LX9_againstOf_5 (x : MS) (q1 : Int32) (q2 : Int32) : Nat → Int32 → Int32 → Option (Int32)
  | 0, _, _ => none
  | n + 1, u3, u4 => BX9_againstOf_5 x q1 q2 (LX9_againstOf_5 x q1 q2 n) u3 u4
def fX9_againstOf (x : MS) (a1 : Int32) (a2 : Int32) : Option (Int32) := Option.bind (LX9_againstOf_5 x a1 a2 NF 0 0) fun v18 => some v18
set_option maxHeartbeats 4000000 in
set_option maxRecDepth 100000 in
theorem lX9_againstOf_49 {p : Program} {l : Launch} {e : Env} {R : Room} {s : State} {m : MethodId} {args : Array Value} {below : List Frame} {meth : Method} {c : Code} {cells slots : Nat} {Q : State → Prop} {G : xG} {β N : Nat} (C : Cx p s m args meth c RX9 cX9_againstOf 7 (some .int) (KK G)) (hRf : 3 ≤ R.frames) (hRl : 72 ≤ R.locals) (hcs : cells ≤ R.cells ∧ slots ≤ R.slots) (x : MS) (q1 : Int32) (q2 : Int32) (q4 : Int32) (q5 : Int32) : ∀ (n : Nat) (u3 : Int32) (u6 : Int32) (J : Int32) (H : Heap) (locs : List Loc) (ls : Array Slot), LX9_againstOf_49 x q1 q2 q4 q5 n u3 u6 = some J → MW β G N x H → va_S (AM β) s.heap H locs → lv_has ls 7 [(0, .ref β), (1, .int q1), (2, .int q2), (3, .int u3), (4, .int q4), (5, .int q5), (6, .int u6)] → (∀ (w3 : Int32), J = w3 → ∀ (H : Heap) (locs : List Loc) (ls : Array Slot), MW β G N x H → va_S (AM β) s.heap H locs → lv_has ls 7 [(0, .ref β), (1, .int q1), (2, .int q2), (3, .int w3), (4, .int q4), (5, .int q5)] → W p l e R s m args below meth c H locs cells slots Q (F0 m 96 ls [])) → W p l e R s m args below meth c H locs cells slots Q (F0 m 49 ls []) := by
  have hx := C.1
  have hb := C.2.1
  have ho := C.2.2.2.1
  have hts := C.2.2.2.2.1
  intro n
  induction n with
  | zero =>
    intro u3 u6 J H locs ls hm
    exact absurd hm (by simp [LX9_againstOf_49])
  | succ n ih =>
    intro u3 u6 J H locs ls hm hw hS hl ke
    replace hm : BX9_againstOf_49 x q1 q2 q4 q5 (LX9_againstOf_49 x q1 q2 q4 q5 n) u3 u6 = some J := hm
    unfold BX9_againstOf_49 at hm
    refine lv_iload hx hb dX9_againstOf_49 (lv_at hl 6 rfl) ?_
    refine lv_aload_n hx hb dX9_againstOf_51 rfl (lv_at hl 0 rfl) ?_
    refine gX9_63 C hw dX9_againstOf_52 ?_
    refine lv_iload hx hb dX9_againstOf_55 (lv_at hl 4 rfl) ?_
    obtain ⟨h4, hm⟩ := chk_e hm
    refine alM_17 C hw h4 dX9_againstOf_57 ?_
    refine lv_icmp_ge (tgt := 96) hx hb dX9_againstOf_58 (by decide) (fun cc => ?_) (fun cc => ?_)
    · replace hm := ite_p cc hm
      exact ke _ (Option.some.inj hm).symm _ _ _ hw hS (lv_sub hl [0, 1, 2, 3, 4, 5] rfl)
    · replace hm := ite_n cc hm
      refine lv_iload_n hx hb dX9_againstOf_61 rfl (lv_at hl 3 rfl) ?_
      refine lv_aload_n hx hb dX9_againstOf_62 rfl (lv_at hl 0 rfl) ?_
      refine lv_iload hx hb dX9_againstOf_63 (lv_at hl 4 rfl) ?_
      refine lv_iload hx hb dX9_againstOf_65 (lv_at hl 6 rfl) ?_
      refine lv_iload_n hx hb dX9_againstOf_67 rfl (lv_at hl 2 rfl) ?_
      obtain ⟨v5, h6, hm⟩ := bind_e hm
      refine sX9_408 C h6 hw hS hl.1 (Nat.le_of_ble_eq_true rfl) (Nat.le_trans (Nat.le_of_ble_eq_true rfl) hRf) (Nat.le_trans (Nat.le_of_ble_eq_true rfl) hRl) hcs dX9_againstOf_68 (fun H locs hw hS => ?_)
      refine lv_aload_n hx hb dX9_againstOf_71 rfl (lv_at hl 0 rfl) ?_
      refine lv_iload hx hb dX9_againstOf_72 (lv_at hl 4 rfl) ?_
      refine lv_iload hx hb dX9_againstOf_74 (lv_at hl 5 rfl) ?_
      refine lv_iload_n hx hb dX9_againstOf_76 rfl (lv_at hl 2 rfl) ?_
      obtain ⟨v7, h8, hm⟩ := bind_e hm
      refine sX9_408 C h8 hw hS hl.1 (Nat.le_of_ble_eq_true rfl) (Nat.le_trans (Nat.le_of_ble_eq_true rfl) hRf) (Nat.le_trans (Nat.le_of_ble_eq_true rfl) hRl) hcs dX9_againstOf_77 (fun H locs hw hS => ?_)
      refine lv_icmp_le (tgt := 87) hx hb dX9_againstOf_80 (by decide) (fun cc => ?_) (fun cc => ?_)
      · replace hm := ite_p cc hm
        refine lv_iconst (v := 0) hx hb dX9_againstOf_87 (by decide) ?_
        refine lv_iadd hx hb dX9_againstOf_88 ?_
        refine topI hm (fun v9 hm => ?_)
        refine lv_istore_n (lv' := [(3, .int v9), (0, .ref β), (1, .int q1), (2, .int q2), (4, .int q4), (5, .int q5), (6, .int u6)]) hx hb dX9_againstOf_89 rfl hl (by decide) rfl (fun ls hl => ?_)
        obtain ⟨v10, ev, hm⟩ := lt_e hm
        refine lv_iinc (v := v10) (lv' := [(6, .int v10), (3, .int v9), (0, .ref β), (1, .int q1), (2, .int q2), (4, .int q4), (5, .int q5)]) hx hb dX9_againstOf_90 hl (k := 6) rfl (by rw [ev]; rfl) (by decide) rfl (fun ls hl => ?_)
        clear ev
        refine lv_goto (tgt := 49) hx hb dX9_againstOf_93 (by decide) ?_
        exact ih _ _ _ _ _ _ hm hw hS (lv_sub hl [2, 3, 4, 1, 5, 6, 0] rfl) ke
      · replace hm := ite_n cc hm
        refine lv_iconst (v := 1) hx hb dX9_againstOf_83 (by decide) ?_
        refine lv_goto (tgt := 88) hx hb dX9_againstOf_84 (by decide) ?_
        refine lv_iadd hx hb dX9_againstOf_88 ?_
        refine topI hm (fun v11 hm => ?_)
        refine lv_istore_n (lv' := [(3, .int v11), (0, .ref β), (1, .int q1), (2, .int q2), (4, .int q4), (5, .int q5), (6, .int u6)]) hx hb dX9_againstOf_89 rfl hl (by decide) rfl (fun ls hl => ?_)
        obtain ⟨v12, ev, hm⟩ := lt_e hm
        refine lv_iinc (v := v12) (lv' := [(6, .int v12), (3, .int v11), (0, .ref β), (1, .int q1), (2, .int q2), (4, .int q4), (5, .int q5)]) hx hb dX9_againstOf_90 hl (k := 6) rfl (by rw [ev]; rfl) (by decide) rfl (fun ls hl => ?_)
        clear ev
        refine lv_goto (tgt := 49) hx hb dX9_againstOf_93 (by decide) ?_
        exact ih _ _ _ _ _ _ hm hw hS (lv_sub hl [2, 3, 4, 1, 5, 6, 0] rfl) ke
set_option maxHeartbeats 4000000 in
set_option maxRecDepth 100000 in
theorem lX9_againstOf_31 {p : Program} {l : Launch} {e : Env} {R : Room} {s : State} {m : MethodId} {args : Array Value} {below : List Frame} {meth : Method} {c : Code} {cells slots : Nat} {Q : State → Prop} {G : xG} {β N : Nat} (C : Cx p s m args meth c RX9 cX9_againstOf 7 (some .int) (KK G)) (hRf : 3 ≤ R.frames) (hRl : 72 ≤ R.locals) (hcs : cells ≤ R.cells ∧ slots ≤ R.slots) (x : MS) (q1 : Int32) (q2 : Int32) (q4 : Int32) : ∀ (n : Nat) (u3 : Int32) (u5 : Int32) (J : Int32) (H : Heap) (locs : List Loc) (ls : Array Slot), LX9_againstOf_31 x q1 q2 q4 n u3 u5 = some J → MW β G N x H → va_S (AM β) s.heap H locs → lv_has ls 7 [(0, .ref β), (1, .int q1), (2, .int q2), (3, .int u3), (4, .int q4), (5, .int u5)] → (∀ (w3 : Int32), J = w3 → ∀ (H : Heap) (locs : List Loc) (ls : Array Slot), MW β G N x H → va_S (AM β) s.heap H locs → lv_has ls 7 [(0, .ref β), (1, .int q1), (2, .int q2), (3, .int w3), (4, .int q4)] → W p l e R s m args below meth c H locs cells slots Q (F0 m 102 ls [])) → W p l e R s m args below meth c H locs cells slots Q (F0 m 31 ls []) := by
  have hx := C.1
  have hb := C.2.1
  have ho := C.2.2.2.1
  have hts := C.2.2.2.2.1
  intro n
  induction n with
  | zero =>
    intro u3 u5 J H locs ls hm
    exact absurd hm (by simp [LX9_againstOf_31])
  | succ n ih =>
    intro u3 u5 J H locs ls hm hw hS hl ke
    replace hm : BX9_againstOf_31 x q1 q2 q4 (LX9_againstOf_31 x q1 q2 q4 n) u3 u5 = some J := hm
    unfold BX9_againstOf_31 at hm
    refine lv_iload hx hb dX9_againstOf_31 (lv_at hl 5 rfl) ?_
    refine lv_aload_n hx hb dX9_againstOf_33 rfl (lv_at hl 0 rfl) ?_
    refine gX9_63 C hw dX9_againstOf_34 ?_
    refine lv_iload hx hb dX9_againstOf_37 (lv_at hl 4 rfl) ?_
    obtain ⟨h2, hm⟩ := chk_e hm
    refine alM_17 C hw h2 dX9_againstOf_39 ?_
    refine lv_icmp_ge (tgt := 102) hx hb dX9_againstOf_40 (by decide) (fun cc => ?_) (fun cc => ?_)
    · replace hm := ite_p cc hm
      exact ke _ (Option.some.inj hm).symm _ _ _ hw hS (lv_sub hl [0, 1, 2, 3, 4] rfl)
    · replace hm := ite_n cc hm
      refine lv_iload hx hb dX9_againstOf_43 (lv_at hl 5 rfl) ?_
      refine lv_iconst (v := 1) hx hb dX9_againstOf_45 (by decide) ?_
      refine lv_iadd hx hb dX9_againstOf_46 ?_
      refine topI hm (fun v3 hm => ?_)
      refine lv_istore (lv' := [(6, .int v3), (0, .ref β), (1, .int q1), (2, .int q2), (3, .int u3), (4, .int q4), (5, .int u5)]) hx hb dX9_againstOf_47 hl (by decide) rfl (fun ls hl => ?_)
      obtain ⟨v13, hj, hm⟩ := bind_e hm
      refine lX9_againstOf_49 C hRf hRl hcs x q1 q2 q4 u5 NF _ _ _ _ _ _ hj hw hS (lv_sub hl [1, 2, 3, 4, 5, 6, 0] rfl) (fun v13_ e0 H locs ls hw hS hl => ?_)
      cases e0
      obtain ⟨v14, ev, hm⟩ := lt_e hm
      refine lv_iinc (v := v14) (lv' := [(5, .int v14), (0, .ref β), (1, .int q1), (2, .int q2), (3, .int v13), (4, .int q4)]) hx hb dX9_againstOf_96 hl (k := 5) rfl (by rw [ev]; rfl) (by decide) rfl (fun ls hl => ?_)
      clear ev
      refine lv_goto (tgt := 31) hx hb dX9_againstOf_99 (by decide) ?_
      exact ih _ _ _ _ _ _ hm hw hS (lv_sub hl [1, 2, 3, 4, 5, 0] rfl) ke
set_option maxHeartbeats 4000000 in
set_option maxRecDepth 100000 in
theorem lX9_againstOf_5 {p : Program} {l : Launch} {e : Env} {R : Room} {s : State} {m : MethodId} {args : Array Value} {below : List Frame} {meth : Method} {c : Code} {cells slots : Nat} {Q : State → Prop} {G : xG} {β N : Nat} (C : Cx p s m args meth c RX9 cX9_againstOf 7 (some .int) (KK G)) (hRf : 3 ≤ R.frames) (hRl : 72 ≤ R.locals) (hcs : cells ≤ R.cells ∧ slots ≤ R.slots) (x : MS) (q1 : Int32) (q2 : Int32) : ∀ (n : Nat) (u3 : Int32) (u4 : Int32) (J : Int32) (H : Heap) (locs : List Loc) (ls : Array Slot), LX9_againstOf_5 x q1 q2 n u3 u4 = some J → MW β G N x H → va_S (AM β) s.heap H locs → lv_has ls 7 [(0, .ref β), (1, .int q1), (2, .int q2), (3, .int u3), (4, .int u4)] → (∀ (w3 : Int32), J = w3 → ∀ (H : Heap) (locs : List Loc) (ls : Array Slot), MW β G N x H → va_S (AM β) s.heap H locs → lv_has ls 7 [(3, .int w3)] → W p l e R s m args below meth c H locs cells slots Q (F0 m 108 ls [])) → W p l e R s m args below meth c H locs cells slots Q (F0 m 5 ls []) := by
  have hx := C.1
  have hb := C.2.1
  have ho := C.2.2.2.1
  have hts := C.2.2.2.2.1
  intro n
  induction n with
  | zero =>
    intro u3 u4 J H locs ls hm
    exact absurd hm (by simp [LX9_againstOf_5])
  | succ n ih =>
    intro u3 u4 J H locs ls hm hw hS hl ke
    replace hm : BX9_againstOf_5 x q1 q2 (LX9_againstOf_5 x q1 q2 n) u3 u4 = some J := hm
    unfold BX9_againstOf_5 at hm
    refine lv_iload hx hb dX9_againstOf_5 (lv_at hl 4 rfl) ?_
    refine lv_aload_n hx hb dX9_againstOf_7 rfl (lv_at hl 0 rfl) ?_
    refine gX9_169 C hw dX9_againstOf_8 ?_
    refine lv_icmp_ge (tgt := 108) hx hb dX9_againstOf_11 (by decide) (fun cc => ?_) (fun cc => ?_)
    · replace hm := ite_p cc hm
      exact ke _ (Option.some.inj hm).symm _ _ _ hw hS (lv_sub hl [3] rfl)
    · replace hm := ite_n cc hm
      refine lv_aload_n hx hb dX9_againstOf_14 rfl (lv_at hl 0 rfl) ?_
      refine gX9_57 C hw dX9_againstOf_15 ?_
      refine lv_iload hx hb dX9_againstOf_18 (lv_at hl 4 rfl) ?_
      obtain ⟨h1, hm⟩ := chk_e hm
      refine alM_15 C hw h1 dX9_againstOf_20 ?_
      refine lv_iload_n hx hb dX9_againstOf_21 rfl (lv_at hl 1 rfl) ?_
      refine lv_icmp_eq (tgt := 28) hx hb dX9_againstOf_22 (by decide) (fun cc => ?_) (fun cc => ?_)
      · replace hm := ite_p cc hm
        refine lv_iconst (v := 0) hx hb dX9_againstOf_28 (by decide) ?_
        refine lv_istore (lv' := [(5, .int 0), (0, .ref β), (1, .int q1), (2, .int q2), (3, .int u3), (4, .int u4)]) hx hb dX9_againstOf_29 hl (by decide) rfl (fun ls hl => ?_)
        obtain ⟨v15, hj, hm⟩ := bind_e hm
        refine lX9_againstOf_31 C hRf hRl hcs x q1 q2 u4 NF _ _ _ _ _ _ hj hw hS (lv_sub hl [1, 2, 3, 4, 5, 0] rfl) (fun v15_ e0 H locs ls hw hS hl => ?_)
        cases e0
        obtain ⟨v16, ev, hm⟩ := lt_e hm
        refine lv_iinc (v := v16) (lv' := [(4, .int v16), (0, .ref β), (1, .int q1), (2, .int q2), (3, .int v15)]) hx hb dX9_againstOf_102 hl (k := 4) rfl (by rw [ev]; rfl) (by decide) rfl (fun ls hl => ?_)
        clear ev
        refine lv_goto (tgt := 5) hx hb dX9_againstOf_105 (by decide) ?_
        exact ih _ _ _ _ _ _ hm hw hS (lv_sub hl [1, 2, 3, 4, 0] rfl) ke
      · replace hm := ite_n cc hm
        refine lv_goto (tgt := 102) hx hb dX9_againstOf_25 (by decide) ?_
        obtain ⟨v17, ev, hm⟩ := lt_e hm
        refine lv_iinc (v := v17) (lv' := [(4, .int v17), (0, .ref β), (1, .int q1), (2, .int q2), (3, .int u3)]) hx hb dX9_againstOf_102 hl (k := 4) rfl (by rw [ev]; rfl) (by decide) rfl (fun ls hl => ?_)
        clear ev
        refine lv_goto (tgt := 5) hx hb dX9_againstOf_105 (by decide) ?_
        exact ih _ _ _ _ _ _ hm hw hS (lv_sub hl [1, 2, 3, 4, 0] rfl) ke
abbrev rmX9_againstOf : Room := { frames := 3, cells := 0, slots := 0, locals := 72 }
set_option maxHeartbeats 4000000 in
set_option maxRecDepth 100000 in
theorem kX9_againstOf {l : Launch} {G : xG} {β N : Nat} {x : MS} {a1 : Int32} {a2 : Int32} {r : Int32} (hm : fX9_againstOf x a1 a2 = some r) : Met l yX9_againstOf (.code yX9_againstOf cX9_againstOf 7 (some .int) :: GT) rmX9_againstOf (PcW [.ref β, .int a1, .int a2] (MW β G N x) (KK G)) (QcW (AM β) (some (.int r)) (MW β G N x)) 0 0 (AM β) := by
  unfold fX9_againstOf at hm
  refine xpro (own := RX9) (by decide +kernel) rfl (Nat.le_of_ble_eq_true rfl) ?_
  intro p e s m args below meth c C hw ls hl
  have hx := C.1
  have hb := C.2.1
  have ho := C.2.2.2.1
  have hts := C.2.2.2.2.1
  have hS : va_S (AM β) s.heap s.heap [] := va_S.rf
  have hl : lv_has ls 7 [(0, .ref β), (1, .int a1), (2, .int a2)] := hl
  have hRf : 3 ≤ rmX9_againstOf.frames := Nat.le_refl _
  have hRl : 72 ≤ rmX9_againstOf.locals := Nat.le_refl _
  have hcs : 0 ≤ rmX9_againstOf.cells ∧ 0 ≤ rmX9_againstOf.slots := ⟨Nat.le_refl _, Nat.le_refl _⟩
  refine lv_iconst (v := 0) hx hb dX9_againstOf_0 (by decide) ?_
  refine lv_istore_n (lv' := [(3, .int 0), (0, .ref β), (1, .int a1), (2, .int a2)]) hx hb dX9_againstOf_1 rfl hl (by decide) rfl (fun ls hl => ?_)
  refine lv_iconst (v := 0) hx hb dX9_againstOf_2 (by decide) ?_
  refine lv_istore (lv' := [(4, .int 0), (3, .int 0), (0, .ref β), (1, .int a1), (2, .int a2)]) hx hb dX9_againstOf_3 hl (by decide) rfl (fun ls hl => ?_)
  obtain ⟨v18, hj, hm⟩ := bind_e hm
  refine lX9_againstOf_5 C hRf hRl hcs x a1 a2 NF _ _ _ _ _ _ hj hw hS (lv_sub hl [2, 3, 4, 1, 0] rfl) (fun v18_ e0 H locs ls hw hS hl => ?_)
  cases e0
  refine lv_iload_n hx hb dX9_againstOf_108 rfl (lv_at hl 0 rfl) ?_
  obtain rfl := Option.some.inj hm
  exact xret_i C hw hS dX9_againstOf_109
theorem dX9_against_0 : decode cX9_against 0 = .ok (.iload_n 1, 1) := by decide +kernel
theorem dX9_against_1 : decode cX9_against 1 = .ok (.invokestatic 160, 3) := by decide +kernel
theorem dX9_against_4 : decode cX9_against 4 = .ok (.ifCond .eq 24, 3) := by decide +kernel
theorem dX9_against_7 : decode cX9_against 7 = .ok (.iload_n 2, 1) := by decide +kernel
theorem dX9_against_8 : decode cX9_against 8 = .ok (.i2l, 1) := by decide +kernel
theorem dX9_against_9 : decode cX9_against 9 = .ok (.lconst 0, 1) := by decide +kernel
theorem dX9_against_10 : decode cX9_against 10 = .ok (.ldc2_w 158, 3) := by decide +kernel
theorem dX9_against_13 : decode cX9_against 13 = .ok (.invokestatic 132, 3) := by decide +kernel
theorem dX9_against_16 : decode cX9_against 16 = .ok (.ifCond .eq 12, 3) := by decide +kernel
theorem dX9_against_19 : decode cX9_against 19 = .ok (.aload_n 0, 1) := by decide +kernel
theorem dX9_against_20 : decode cX9_against 20 = .ok (.iload_n 1, 1) := by decide +kernel
theorem dX9_against_21 : decode cX9_against 21 = .ok (.iload_n 2, 1) := by decide +kernel
theorem dX9_against_22 : decode cX9_against 22 = .ok (.invokevirtual 411, 3) := by decide +kernel
theorem dX9_against_25 : decode cX9_against 25 = .ok (.goto 5, 3) := by decide +kernel
theorem dX9_against_28 : decode cX9_against 28 = .ok (.bipush (-2), 2) := by decide +kernel
theorem dX9_against_30 : decode cX9_against 30 = .ok (.ireturn, 1) := by decide +kernel
theorem sX9_411 {p : Program} {l : Launch} {e : Env} {R : Room} {s : State} {m : MethodId} {args : Array Value} {below : List Frame} {meth : Method} {c : Code} {H : Heap} {locs : List Loc} {cells slots : Nat} {Q : State → Prop} {cc : ByteArray} {pc nL : Nat} {ls : Array Slot} {rest : List Value} {ret : Option FieldType} {G : xG} {β N : Nat} {x : MS} {a1 : Int32} {a2 : Int32} {r : Int32} (C : Cx p s m args meth c RX9 cc nL ret (KK G)) (h : fX9_againstOf x a1 a2 = some r) (hw : MW β G N x H) (hS : va_S (AM β) s.heap H locs) (hsz : ls.size = nL) (hW : (rest.map fun v => v.category).sum ≤ 8) (hR : 4 ≤ R.frames) (hR2 : 98 ≤ R.locals) (hcs : cells ≤ R.cells ∧ slots ≤ R.slots) (hd : decode cc pc = .ok (.invokevirtual 411, 3)) (kk : ∀ (H1 : Heap) (locs1 : List Loc), MW β G N x H1 → va_S (AM β) s.heap H1 locs1 → W p l e R s m args below meth c H1 locs1 cells slots Q (F0 m (pc + 3) ls (.int r :: rest))) : W p l e R s m args below meth c H locs cells slots Q (F0 m pc ls (.int a2 :: .int a1 :: .ref β :: rest)) :=
  xcallV C (As := [.int a1, .int a2]) (rest := rest) (nA := 2) (ci := 9) (kX9_againstOf h) (tg 1358 (by decide +kernel) rfl) (tg 1360 (by decide +kernel) rfl) (sg (List.mem_of_getElem? (i := 90) (by decide +kernel)) rfl) (tg 14 (by decide +kernel) rfl) (tg 1361 (by decide +kernel) rfl) ⟨rfl, by decide +kernel, by decide +kernel, by decide +kernel⟩ rfl rfl rfl ⟨hR, hR2⟩ (hw.2 0 (by decide)) hw hS (fun _ q => q) rfl rfl hsz hW hd hcs (fun H1 locs1 hw hz hk hS => kk H1 locs1 hw hS)
def fX9_against (x : MS) (a1 : Int32) (a2 : Int32) : Option (Int32) := Option.bind (fX9_isGround a1) fun v1 => if v1 = true then Option.bind (fX9_in (a2.toInt64) 0 9) fun v3 => if v3 = true then Option.bind (fX9_againstOf x a1 a2) fun v5 => some v5 else some (-2) else some (-2)
abbrev rmX9_against : Room := { frames := 4, cells := 0, slots := 0, locals := 98 }
set_option maxHeartbeats 4000000 in
set_option maxRecDepth 100000 in
theorem kX9_against {l : Launch} {G : xG} {β N : Nat} {x : MS} {a1 : Int32} {a2 : Int32} {r : Int32} (hm : fX9_against x a1 a2 = some r) : Met l yX9_against (.code yX9_against cX9_against 3 (some .int) :: GT) rmX9_against (PcW [.ref β, .int a1, .int a2] (MW β G N x) (KK G)) (QcW (AM β) (some (.int r)) (MW β G N x)) 0 0 (AM β) := by
  unfold fX9_against at hm
  refine xpro (own := RX9) (by decide +kernel) rfl (Nat.le_of_ble_eq_true rfl) ?_
  intro p e s m args below meth c C hw ls hl
  have hx := C.1
  have hb := C.2.1
  have ho := C.2.2.2.1
  have hts := C.2.2.2.2.1
  have hS : va_S (AM β) s.heap s.heap [] := va_S.rf
  have hl : lv_has ls 3 [(0, .ref β), (1, .int a1), (2, .int a2)] := hl
  have hRf : 4 ≤ rmX9_against.frames := Nat.le_refl _
  have hRl : 98 ≤ rmX9_against.locals := Nat.le_refl _
  have hcs : 0 ≤ rmX9_against.cells ∧ 0 ≤ rmX9_against.slots := ⟨Nat.le_refl _, Nat.le_refl _⟩
  refine lv_iload_n hx hb dX9_against_0 rfl (lv_at hl 1 rfl) ?_
  obtain ⟨v1, h2, hm⟩ := bind_e hm
  refine sX9_160 C h2 hw hS hl.1 (Nat.le_of_ble_eq_true rfl) (Nat.le_trans (Nat.le_of_ble_eq_true rfl) hRf) (Nat.le_trans (Nat.le_of_ble_eq_true rfl) hRl) hcs dX9_against_1 (fun H locs hw hS => ?_)
  refine x_ifeqB hx hb dX9_against_4 (tgt := 28) (by decide) (fun cc => ?_) (fun cc => ?_)
  · replace hm := ite_n cc hm
    refine lv_bipush (v := (-2)) hx hb dX9_against_28 (by decide) ?_
    obtain rfl := Option.some.inj hm
    exact xret_i C hw hS dX9_against_30
  · replace hm := ite_p cc hm
    refine lv_iload_n hx hb dX9_against_7 rfl (lv_at hl 2 rfl) ?_
    refine lv_i2l hx hb dX9_against_8 rfl ?_
    refine lv_lconst (v := 0) hx hb dX9_against_9 (by decide) ?_
    refine lv_ldc2 (v := 9) hx hb ho (hts (.constantLong RX9 158 9) (tg 1118 (by decide +kernel) rfl)) dX9_against_10 ?_
    obtain ⟨v3, h4, hm⟩ := bind_e hm
    refine sX9_132 C h4 hw hS hl.1 (Nat.le_of_ble_eq_true rfl) (Nat.le_trans (Nat.le_of_ble_eq_true rfl) hRf) (Nat.le_trans (Nat.le_of_ble_eq_true rfl) hRl) hcs dX9_against_13 (fun H locs hw hS => ?_)
    refine x_ifeqB hx hb dX9_against_16 (tgt := 28) (by decide) (fun cc => ?_) (fun cc => ?_)
    · replace hm := ite_n cc hm
      refine lv_bipush (v := (-2)) hx hb dX9_against_28 (by decide) ?_
      obtain rfl := Option.some.inj hm
      exact xret_i C hw hS dX9_against_30
    · replace hm := ite_p cc hm
      refine lv_aload_n hx hb dX9_against_19 rfl (lv_at hl 0 rfl) ?_
      refine lv_iload_n hx hb dX9_against_20 rfl (lv_at hl 1 rfl) ?_
      refine lv_iload_n hx hb dX9_against_21 rfl (lv_at hl 2 rfl) ?_
      obtain ⟨v5, h6, hm⟩ := bind_e hm
      refine sX9_411 C h6 hw hS hl.1 (Nat.le_of_ble_eq_true rfl) (Nat.le_trans (Nat.le_of_ble_eq_true rfl) hRf) (Nat.le_trans (Nat.le_of_ble_eq_true rfl) hRl) hcs dX9_against_22 (fun H locs hw hS => ?_)
      refine lv_goto (tgt := 30) hx hb dX9_against_25 (by decide) ?_
      obtain rfl := Option.some.inj hm
      exact xret_i C hw hS dX9_against_30
theorem dX9_learnt_0 : decode cX9_learnt 0 = .ok (.iload_n 1, 1) := by decide +kernel
theorem dX9_learnt_1 : decode cX9_learnt 1 = .ok (.invokestatic 160, 3) := by decide +kernel
theorem dX9_learnt_4 : decode cX9_learnt 4 = .ok (.ifCond .ne 6, 3) := by decide +kernel
theorem dX9_learnt_7 : decode cX9_learnt 7 = .ok (.bipush (-2), 2) := by decide +kernel
theorem dX9_learnt_9 : decode cX9_learnt 9 = .ok (.ireturn, 1) := by decide +kernel
theorem dX9_learnt_10 : decode cX9_learnt 10 = .ok (.iconst 0, 1) := by decide +kernel
theorem dX9_learnt_11 : decode cX9_learnt 11 = .ok (.istore_n 2, 1) := by decide +kernel
theorem dX9_learnt_12 : decode cX9_learnt 12 = .ok (.iconst 1, 1) := by decide +kernel
theorem dX9_learnt_13 : decode cX9_learnt 13 = .ok (.istore_n 3, 1) := by decide +kernel
theorem dX9_learnt_14 : decode cX9_learnt 14 = .ok (.iload_n 3, 1) := by decide +kernel
theorem dX9_learnt_15 : decode cX9_learnt 15 = .ok (.bipush 10, 2) := by decide +kernel
theorem dX9_learnt_17 : decode cX9_learnt 17 = .ok (.if_icmp .ge 30, 3) := by decide +kernel
theorem dX9_learnt_20 : decode cX9_learnt 20 = .ok (.aload_n 0, 1) := by decide +kernel
theorem dX9_learnt_21 : decode cX9_learnt 21 = .ok (.iload_n 1, 1) := by decide +kernel
theorem dX9_learnt_22 : decode cX9_learnt 22 = .ok (.iload_n 3, 1) := by decide +kernel
theorem dX9_learnt_23 : decode cX9_learnt 23 = .ok (.invokevirtual 411, 3) := by decide +kernel
theorem dX9_learnt_26 : decode cX9_learnt 26 = .ok (.aload_n 0, 1) := by decide +kernel
theorem dX9_learnt_27 : decode cX9_learnt 27 = .ok (.iload_n 1, 1) := by decide +kernel
theorem dX9_learnt_28 : decode cX9_learnt 28 = .ok (.iload_n 2, 1) := by decide +kernel
theorem dX9_learnt_29 : decode cX9_learnt 29 = .ok (.invokevirtual 411, 3) := by decide +kernel
theorem dX9_learnt_32 : decode cX9_learnt 32 = .ok (.if_icmp .ge 7, 3) := by decide +kernel
theorem dX9_learnt_35 : decode cX9_learnt 35 = .ok (.iload_n 3, 1) := by decide +kernel
theorem dX9_learnt_36 : decode cX9_learnt 36 = .ok (.goto 4, 3) := by decide +kernel
theorem dX9_learnt_39 : decode cX9_learnt 39 = .ok (.iload_n 2, 1) := by decide +kernel
theorem dX9_learnt_40 : decode cX9_learnt 40 = .ok (.istore_n 2, 1) := by decide +kernel
theorem dX9_learnt_41 : decode cX9_learnt 41 = .ok (.iinc 3 1, 3) := by decide +kernel
theorem dX9_learnt_44 : decode cX9_learnt 44 = .ok (.goto (-30), 3) := by decide +kernel
theorem dX9_learnt_47 : decode cX9_learnt 47 = .ok (.iload_n 2, 1) := by decide +kernel
theorem dX9_learnt_48 : decode cX9_learnt 48 = .ok (.ireturn, 1) := by decide +kernel
def BX9_learnt_14 (x : MS) (q1 : Int32) (lp : Int32 → Int32 → Option (Int32)) (u2 : Int32) (u3 : Int32) : Option (Int32) := if 10 ≤ u3 then some u2 else Option.bind (fX9_againstOf x q1 u3) fun v3 => Option.bind (fX9_againstOf x q1 u2) fun v5 => if v5 ≤ v3 then lt (u3 + 1) fun v7 => lp u2 v7 else lt (u3 + 1) fun v8 => lp u3 v8
def LX9_learnt_14 (x : MS) (q1 : Int32) : Nat → Int32 → Int32 → Option (Int32)
  | 0, _, _ => none
  | n + 1, u2, u3 => BX9_learnt_14 x q1 (LX9_learnt_14 x q1 n) u2 u3
def fX9_learnt (x : MS) (a1 : Int32) : Option (Int32) := Option.bind (fX9_isGround a1) fun v1 => if v1 = true then Option.bind (LX9_learnt_14 x a1 NF 0 1) fun v9 => some v9 else some (-2)
set_option maxHeartbeats 4000000 in
set_option maxRecDepth 100000 in
theorem lX9_learnt_14 {p : Program} {l : Launch} {e : Env} {R : Room} {s : State} {m : MethodId} {args : Array Value} {below : List Frame} {meth : Method} {c : Code} {cells slots : Nat} {Q : State → Prop} {G : xG} {β N : Nat} (C : Cx p s m args meth c RX9 cX9_learnt 4 (some .int) (KK G)) (hRf : 4 ≤ R.frames) (hRl : 98 ≤ R.locals) (hcs : cells ≤ R.cells ∧ slots ≤ R.slots) (x : MS) (q1 : Int32) : ∀ (n : Nat) (u2 : Int32) (u3 : Int32) (J : Int32) (H : Heap) (locs : List Loc) (ls : Array Slot), LX9_learnt_14 x q1 n u2 u3 = some J → MW β G N x H → va_S (AM β) s.heap H locs → lv_has ls 4 [(0, .ref β), (1, .int q1), (2, .int u2), (3, .int u3)] → (∀ (w2 : Int32), J = w2 → ∀ (H : Heap) (locs : List Loc) (ls : Array Slot), MW β G N x H → va_S (AM β) s.heap H locs → lv_has ls 4 [(2, .int w2)] → W p l e R s m args below meth c H locs cells slots Q (F0 m 47 ls [])) → W p l e R s m args below meth c H locs cells slots Q (F0 m 14 ls []) := by
  have hx := C.1
  have hb := C.2.1
  have ho := C.2.2.2.1
  have hts := C.2.2.2.2.1
  intro n
  induction n with
  | zero =>
    intro u2 u3 J H locs ls hm
    exact absurd hm (by simp [LX9_learnt_14])
  | succ n ih =>
    intro u2 u3 J H locs ls hm hw hS hl ke
    replace hm : BX9_learnt_14 x q1 (LX9_learnt_14 x q1 n) u2 u3 = some J := hm
    unfold BX9_learnt_14 at hm
    refine lv_iload_n hx hb dX9_learnt_14 rfl (lv_at hl 3 rfl) ?_
    refine lv_bipush (v := 10) hx hb dX9_learnt_15 (by decide) ?_
    refine lv_icmp_ge (tgt := 47) hx hb dX9_learnt_17 (by decide) (fun cc => ?_) (fun cc => ?_)
    · replace hm := ite_p cc hm
      exact ke _ (Option.some.inj hm).symm _ _ _ hw hS (lv_sub hl [2] rfl)
    · replace hm := ite_n cc hm
      refine lv_aload_n hx hb dX9_learnt_20 rfl (lv_at hl 0 rfl) ?_
      refine lv_iload_n hx hb dX9_learnt_21 rfl (lv_at hl 1 rfl) ?_
      refine lv_iload_n hx hb dX9_learnt_22 rfl (lv_at hl 3 rfl) ?_
      obtain ⟨v3, h4, hm⟩ := bind_e hm
      refine sX9_411 C h4 hw hS hl.1 (Nat.le_of_ble_eq_true rfl) (Nat.le_trans (Nat.le_of_ble_eq_true rfl) hRf) (Nat.le_trans (Nat.le_of_ble_eq_true rfl) hRl) hcs dX9_learnt_23 (fun H locs hw hS => ?_)
      refine lv_aload_n hx hb dX9_learnt_26 rfl (lv_at hl 0 rfl) ?_
      refine lv_iload_n hx hb dX9_learnt_27 rfl (lv_at hl 1 rfl) ?_
      refine lv_iload_n hx hb dX9_learnt_28 rfl (lv_at hl 2 rfl) ?_
      obtain ⟨v5, h6, hm⟩ := bind_e hm
      refine sX9_411 C h6 hw hS hl.1 (Nat.le_of_ble_eq_true rfl) (Nat.le_trans (Nat.le_of_ble_eq_true rfl) hRf) (Nat.le_trans (Nat.le_of_ble_eq_true rfl) hRl) hcs dX9_learnt_29 (fun H locs hw hS => ?_)
      refine lv_icmp_ge (tgt := 39) hx hb dX9_learnt_32 (by decide) (fun cc => ?_) (fun cc => ?_)
      · replace hm := ite_p cc hm
        refine lv_iload_n hx hb dX9_learnt_39 rfl (lv_at hl 2 rfl) ?_
        refine lv_istore_n (lv' := [(2, .int u2), (0, .ref β), (1, .int q1), (3, .int u3)]) hx hb dX9_learnt_40 rfl hl (by decide) rfl (fun ls hl => ?_)
        obtain ⟨v7, ev, hm⟩ := lt_e hm
        refine lv_iinc (v := v7) (lv' := [(3, .int v7), (2, .int u2), (0, .ref β), (1, .int q1)]) hx hb dX9_learnt_41 hl (k := 3) rfl (by rw [ev]; rfl) (by decide) rfl (fun ls hl => ?_)
        clear ev
        refine lv_goto (tgt := 14) hx hb dX9_learnt_44 (by decide) ?_
        exact ih _ _ _ _ _ _ hm hw hS (lv_sub hl [2, 3, 1, 0] rfl) ke
      · replace hm := ite_n cc hm
        refine lv_iload_n hx hb dX9_learnt_35 rfl (lv_at hl 3 rfl) ?_
        refine lv_goto (tgt := 40) hx hb dX9_learnt_36 (by decide) ?_
        refine lv_istore_n (lv' := [(2, .int u3), (0, .ref β), (1, .int q1), (3, .int u3)]) hx hb dX9_learnt_40 rfl hl (by decide) rfl (fun ls hl => ?_)
        obtain ⟨v8, ev, hm⟩ := lt_e hm
        refine lv_iinc (v := v8) (lv' := [(3, .int v8), (2, .int u3), (0, .ref β), (1, .int q1)]) hx hb dX9_learnt_41 hl (k := 3) rfl (by rw [ev]; rfl) (by decide) rfl (fun ls hl => ?_)
        clear ev
        refine lv_goto (tgt := 14) hx hb dX9_learnt_44 (by decide) ?_
        exact ih _ _ _ _ _ _ hm hw hS (lv_sub hl [2, 3, 1, 0] rfl) ke
abbrev rmX9_learnt : Room := { frames := 4, cells := 0, slots := 0, locals := 98 }
set_option maxHeartbeats 4000000 in
set_option maxRecDepth 100000 in
theorem kX9_learnt {l : Launch} {G : xG} {β N : Nat} {x : MS} {a1 : Int32} {r : Int32} (hm : fX9_learnt x a1 = some r) : Met l yX9_learnt (.code yX9_learnt cX9_learnt 4 (some .int) :: GT) rmX9_learnt (PcW [.ref β, .int a1] (MW β G N x) (KK G)) (QcW (AM β) (some (.int r)) (MW β G N x)) 0 0 (AM β) := by
  unfold fX9_learnt at hm
  refine xpro (own := RX9) (by decide +kernel) rfl (Nat.le_of_ble_eq_true rfl) ?_
  intro p e s m args below meth c C hw ls hl
  have hx := C.1
  have hb := C.2.1
  have ho := C.2.2.2.1
  have hts := C.2.2.2.2.1
  have hS : va_S (AM β) s.heap s.heap [] := va_S.rf
  have hl : lv_has ls 4 [(0, .ref β), (1, .int a1)] := hl
  have hRf : 4 ≤ rmX9_learnt.frames := Nat.le_refl _
  have hRl : 98 ≤ rmX9_learnt.locals := Nat.le_refl _
  have hcs : 0 ≤ rmX9_learnt.cells ∧ 0 ≤ rmX9_learnt.slots := ⟨Nat.le_refl _, Nat.le_refl _⟩
  refine lv_iload_n hx hb dX9_learnt_0 rfl (lv_at hl 1 rfl) ?_
  obtain ⟨v1, h2, hm⟩ := bind_e hm
  refine sX9_160 C h2 hw hS hl.1 (Nat.le_of_ble_eq_true rfl) (Nat.le_trans (Nat.le_of_ble_eq_true rfl) hRf) (Nat.le_trans (Nat.le_of_ble_eq_true rfl) hRl) hcs dX9_learnt_1 (fun H locs hw hS => ?_)
  refine x_ifneB hx hb dX9_learnt_4 (tgt := 10) (by decide) (fun cc => ?_) (fun cc => ?_)
  · replace hm := ite_p cc hm
    refine lv_iconst (v := 0) hx hb dX9_learnt_10 (by decide) ?_
    refine lv_istore_n (lv' := [(2, .int 0), (0, .ref β), (1, .int a1)]) hx hb dX9_learnt_11 rfl hl (by decide) rfl (fun ls hl => ?_)
    refine lv_iconst (v := 1) hx hb dX9_learnt_12 (by decide) ?_
    refine lv_istore_n (lv' := [(3, .int 1), (2, .int 0), (0, .ref β), (1, .int a1)]) hx hb dX9_learnt_13 rfl hl (by decide) rfl (fun ls hl => ?_)
    obtain ⟨v9, hj, hm⟩ := bind_e hm
    refine lX9_learnt_14 C hRf hRl hcs x a1 NF _ _ _ _ _ _ hj hw hS (lv_sub hl [2, 3, 1, 0] rfl) (fun v9_ e0 H locs ls hw hS hl => ?_)
    cases e0
    refine lv_iload_n hx hb dX9_learnt_47 rfl (lv_at hl 0 rfl) ?_
    obtain rfl := Option.some.inj hm
    exact xret_i C hw hS dX9_learnt_48
  · replace hm := ite_n cc hm
    refine lv_bipush (v := (-2)) hx hb dX9_learnt_7 (by decide) ?_
    obtain rfl := Option.some.inj hm
    exact xret_i C hw hS dX9_learnt_9
theorem dX9_pair_0 : decode cX9_pair 0 = .ok (.aload_n 0, 1) := by decide +kernel
theorem dX9_pair_1 : decode cX9_pair 1 = .ok (.iload_n 1, 1) := by decide +kernel
theorem dX9_pair_2 : decode cX9_pair 2 = .ok (.invokevirtual 146, 3) := by decide +kernel
theorem dX9_pair_5 : decode cX9_pair 5 = .ok (.ifCond .eq 28, 3) := by decide +kernel
theorem dX9_pair_8 : decode cX9_pair 8 = .ok (.aload_n 0, 1) := by decide +kernel
theorem dX9_pair_9 : decode cX9_pair 9 = .ok (.iload_n 2, 1) := by decide +kernel
theorem dX9_pair_10 : decode cX9_pair 10 = .ok (.invokevirtual 146, 3) := by decide +kernel
theorem dX9_pair_13 : decode cX9_pair 13 = .ok (.ifCond .eq 20, 3) := by decide +kernel
theorem dX9_pair_16 : decode cX9_pair 16 = .ok (.iload_n 1, 1) := by decide +kernel
theorem dX9_pair_17 : decode cX9_pair 17 = .ok (.iload_n 2, 1) := by decide +kernel
theorem dX9_pair_18 : decode cX9_pair 18 = .ok (.if_icmp .eq 15, 3) := by decide +kernel
theorem dX9_pair_21 : decode cX9_pair 21 = .ok (.iload_n 3, 1) := by decide +kernel
theorem dX9_pair_22 : decode cX9_pair 22 = .ok (.i2l, 1) := by decide +kernel
theorem dX9_pair_23 : decode cX9_pair 23 = .ok (.lconst 0, 1) := by decide +kernel
theorem dX9_pair_24 : decode cX9_pair 24 = .ok (.ldc2_w 150, 3) := by decide +kernel
theorem dX9_pair_27 : decode cX9_pair 27 = .ok (.invokestatic 132, 3) := by decide +kernel
theorem dX9_pair_30 : decode cX9_pair 30 = .ok (.ifCond .ne 6, 3) := by decide +kernel
theorem dX9_pair_33 : decode cX9_pair 33 = .ok (.bipush (-2), 2) := by decide +kernel
theorem dX9_pair_35 : decode cX9_pair 35 = .ok (.ireturn, 1) := by decide +kernel
theorem dX9_pair_36 : decode cX9_pair 36 = .ok (.iconst 0, 1) := by decide +kernel
theorem dX9_pair_37 : decode cX9_pair 37 = .ok (.istore 4, 2) := by decide +kernel
theorem dX9_pair_39 : decode cX9_pair 39 = .ok (.iconst 0, 1) := by decide +kernel
theorem dX9_pair_40 : decode cX9_pair 40 = .ok (.istore 5, 2) := by decide +kernel
theorem dX9_pair_42 : decode cX9_pair 42 = .ok (.iload 5, 2) := by decide +kernel
theorem dX9_pair_44 : decode cX9_pair 44 = .ok (.aload_n 0, 1) := by decide +kernel
theorem dX9_pair_45 : decode cX9_pair 45 = .ok (.getfield 169, 3) := by decide +kernel
theorem dX9_pair_48 : decode cX9_pair 48 = .ok (.if_icmp .ge 108, 3) := by decide +kernel
theorem dX9_pair_51 : decode cX9_pair 51 = .ok (.aload_n 0, 1) := by decide +kernel
theorem dX9_pair_52 : decode cX9_pair 52 = .ok (.iload 5, 2) := by decide +kernel
theorem dX9_pair_54 : decode cX9_pair 54 = .ok (.iload_n 1, 1) := by decide +kernel
theorem dX9_pair_55 : decode cX9_pair 55 = .ok (.invokevirtual 177, 3) := by decide +kernel
theorem dX9_pair_58 : decode cX9_pair 58 = .ok (.istore 6, 2) := by decide +kernel
theorem dX9_pair_60 : decode cX9_pair 60 = .ok (.aload_n 0, 1) := by decide +kernel
theorem dX9_pair_61 : decode cX9_pair 61 = .ok (.iload 5, 2) := by decide +kernel
theorem dX9_pair_63 : decode cX9_pair 63 = .ok (.iload_n 2, 1) := by decide +kernel
theorem dX9_pair_64 : decode cX9_pair 64 = .ok (.invokevirtual 177, 3) := by decide +kernel
theorem dX9_pair_67 : decode cX9_pair 67 = .ok (.istore 7, 2) := by decide +kernel
theorem dX9_pair_69 : decode cX9_pair 69 = .ok (.iload 6, 2) := by decide +kernel
theorem dX9_pair_71 : decode cX9_pair 71 = .ok (.iconst (-1), 1) := by decide +kernel
theorem dX9_pair_72 : decode cX9_pair 72 = .ok (.if_icmp .eq 78, 3) := by decide +kernel
theorem dX9_pair_75 : decode cX9_pair 75 = .ok (.iload 7, 2) := by decide +kernel
theorem dX9_pair_77 : decode cX9_pair 77 = .ok (.iconst (-1), 1) := by decide +kernel
theorem dX9_pair_78 : decode cX9_pair 78 = .ok (.if_icmp .ne 6, 3) := by decide +kernel
theorem dX9_pair_81 : decode cX9_pair 81 = .ok (.goto 69, 3) := by decide +kernel
theorem dX9_pair_84 : decode cX9_pair 84 = .ok (.aload_n 0, 1) := by decide +kernel
theorem dX9_pair_85 : decode cX9_pair 85 = .ok (.getfield 41, 3) := by decide +kernel
theorem dX9_pair_88 : decode cX9_pair 88 = .ok (.aload_n 0, 1) := by decide +kernel
theorem dX9_pair_89 : decode cX9_pair 89 = .ok (.getfield 57, 3) := by decide +kernel
theorem dX9_pair_92 : decode cX9_pair 92 = .ok (.iload 5, 2) := by decide +kernel
theorem dX9_pair_94 : decode cX9_pair 94 = .ok (.iaload, 1) := by decide +kernel
theorem dX9_pair_95 : decode cX9_pair 95 = .ok (.iaload, 1) := by decide +kernel
theorem dX9_pair_96 : decode cX9_pair 96 = .ok (.istore 8, 2) := by decide +kernel
theorem dX9_pair_98 : decode cX9_pair 98 = .ok (.iload 4, 2) := by decide +kernel
theorem dX9_pair_100 : decode cX9_pair 100 = .ok (.iload_n 3, 1) := by decide +kernel
theorem dX9_pair_101 : decode cX9_pair 101 = .ok (.ifCond .eq 41, 3) := by decide +kernel
theorem dX9_pair_104 : decode cX9_pair 104 = .ok (.iload_n 3, 1) := by decide +kernel
theorem dX9_pair_105 : decode cX9_pair 105 = .ok (.iconst 1, 1) := by decide +kernel
theorem dX9_pair_106 : decode cX9_pair 106 = .ok (.if_icmp .ne 13, 3) := by decide +kernel
theorem dX9_pair_109 : decode cX9_pair 109 = .ok (.iload 6, 2) := by decide +kernel
theorem dX9_pair_111 : decode cX9_pair 111 = .ok (.iload 7, 2) := by decide +kernel
theorem dX9_pair_113 : decode cX9_pair 113 = .ok (.if_icmp .ge 33, 3) := by decide +kernel
theorem dX9_pair_116 : decode cX9_pair 116 = .ok (.goto 26, 3) := by decide +kernel
theorem dX9_pair_119 : decode cX9_pair 119 = .ok (.aload_n 0, 1) := by decide +kernel
theorem dX9_pair_120 : decode cX9_pair 120 = .ok (.iload 5, 2) := by decide +kernel
theorem dX9_pair_122 : decode cX9_pair 122 = .ok (.iload 6, 2) := by decide +kernel
theorem dX9_pair_124 : decode cX9_pair 124 = .ok (.iload 8, 2) := by decide +kernel
theorem dX9_pair_126 : decode cX9_pair 126 = .ok (.invokevirtual 408, 3) := by decide +kernel
theorem dX9_pair_129 : decode cX9_pair 129 = .ok (.aload_n 0, 1) := by decide +kernel
theorem dX9_pair_130 : decode cX9_pair 130 = .ok (.iload 5, 2) := by decide +kernel
theorem dX9_pair_132 : decode cX9_pair 132 = .ok (.iload 7, 2) := by decide +kernel
theorem dX9_pair_134 : decode cX9_pair 134 = .ok (.iload 8, 2) := by decide +kernel
theorem dX9_pair_136 : decode cX9_pair 136 = .ok (.invokevirtual 408, 3) := by decide +kernel
theorem dX9_pair_139 : decode cX9_pair 139 = .ok (.if_icmp .le 7, 3) := by decide +kernel
theorem dX9_pair_142 : decode cX9_pair 142 = .ok (.iconst 1, 1) := by decide +kernel
theorem dX9_pair_143 : decode cX9_pair 143 = .ok (.goto 4, 3) := by decide +kernel
theorem dX9_pair_146 : decode cX9_pair 146 = .ok (.iconst 0, 1) := by decide +kernel
theorem dX9_pair_147 : decode cX9_pair 147 = .ok (.iadd, 1) := by decide +kernel
theorem dX9_pair_148 : decode cX9_pair 148 = .ok (.istore 4, 2) := by decide +kernel
theorem dX9_pair_150 : decode cX9_pair 150 = .ok (.iinc 5 1, 3) := by decide +kernel
theorem dX9_pair_153 : decode cX9_pair 153 = .ok (.goto (-111), 3) := by decide +kernel
theorem dX9_pair_156 : decode cX9_pair 156 = .ok (.iload 4, 2) := by decide +kernel
theorem dX9_pair_158 : decode cX9_pair 158 = .ok (.ireturn, 1) := by decide +kernel
theorem sX9_177 {p : Program} {l : Launch} {e : Env} {R : Room} {s : State} {m : MethodId} {args : Array Value} {below : List Frame} {meth : Method} {c : Code} {H : Heap} {locs : List Loc} {cells slots : Nat} {Q : State → Prop} {cc : ByteArray} {pc nL : Nat} {ls : Array Slot} {rest : List Value} {ret : Option FieldType} {G : xG} {β N : Nat} {x : MS} {a1 : Int32} {a2 : Int32} {r : Int32} (C : Cx p s m args meth c RX9 cc nL ret (KK G)) (h : fX9_placeIn x a1 a2 = some r) (hw : MW β G N x H) (hS : va_S (AM β) s.heap H locs) (hsz : ls.size = nL) (hW : (rest.map fun v => v.category).sum ≤ 8) (hR : 1 ≤ R.frames) (hR2 : 23 ≤ R.locals) (hcs : cells ≤ R.cells ∧ slots ≤ R.slots) (hd : decode cc pc = .ok (.invokevirtual 177, 3)) (kk : ∀ (H1 : Heap) (locs1 : List Loc), MW β G N x H1 → va_S (AM β) s.heap H1 locs1 → W p l e R s m args below meth c H1 locs1 cells slots Q (F0 m (pc + 3) ls (.int r :: rest))) : W p l e R s m args below meth c H locs cells slots Q (F0 m pc ls (.int a2 :: .int a1 :: .ref β :: rest)) :=
  xcallV C (As := [.int a1, .int a2]) (rest := rest) (nA := 2) (ci := 9) (kX9_placeIn h) (tg 1140 (by decide +kernel) rfl) (tg 1142 (by decide +kernel) rfl) (sg (List.mem_of_getElem? (i := 58) (by decide +kernel)) rfl) (tg 14 (by decide +kernel) rfl) (tg 1143 (by decide +kernel) rfl) ⟨rfl, by decide +kernel, by decide +kernel, by decide +kernel⟩ rfl rfl rfl ⟨hR, hR2⟩ (hw.2 0 (by decide)) hw hS (fun _ q => q) rfl rfl hsz hW hd hcs (fun H1 locs1 hw hz hk hS => kk H1 locs1 hw hS)
def BX9_pair_42 (x : MS) (q1 : Int32) (q2 : Int32) (q3 : Int32) (lp : Int32 → Int32 → Option (Int32)) (u4 : Int32) (u5 : Int32) : Option (Int32) := if (x.1 0 41) ≤ u5 then some u4 else Option.bind (fX9_placeIn x u5 q1) fun v7 => Option.bind (fX9_placeIn x u5 q2) fun v9 => if v7 = (-1) then lt (u5 + 1) fun v11 => lp u4 v11 else if v9 = (-1) then lt (u5 + 1) fun v29 => lp u4 v29 else if ib u5 24 then if ib (x.2.1 15 u5.toNatClampNeg) 4 then lt (x.2.1 10 (x.2.1 15 u5.toNatClampNeg).toNatClampNeg) fun v14 => if q3 = 0 then lt (u4 + 1) fun v15 => lt (u5 + 1) fun v16 => lp v15 v16 else if q3 = 1 then if v9 ≤ v7 then lt (u4 + 0) fun v25 => lt (u5 + 1) fun v26 => lp v25 v26 else lt (u4 + 1) fun v27 => lt (u5 + 1) fun v28 => lp v27 v28 else Option.bind (fX9_carriedIn x u5 v7 v14) fun v17 => Option.bind (fX9_carriedIn x u5 v9 v14) fun v19 => if v17 ≤ v19 then lt (u4 + 0) fun v21 => lt (u5 + 1) fun v22 => lp v21 v22 else lt (u4 + 1) fun v23 => lt (u5 + 1) fun v24 => lp v23 v24 else none else none
def LX9_pair_42 (x : MS) (q1 : Int32) (q2 : Int32) (q3 : Int32) : Nat → Int32 → Int32 → Option (Int32)
  | 0, _, _ => none
  | n + 1, u4, u5 => BX9_pair_42 x q1 q2 q3 (LX9_pair_42 x q1 q2 q3 n) u4 u5
def fX9_pair (x : MS) (a1 : Int32) (a2 : Int32) (a3 : Int32) : Option (Int32) := Option.bind (fX9_isHorse x a1) fun v1 => if v1 = true then Option.bind (fX9_isHorse x a2) fun v3 => if v3 = true then if a1 = a2 then some (-2) else Option.bind (fX9_in (a3.toInt64) 0 2) fun v5 => if v5 = true then Option.bind (LX9_pair_42 x a1 a2 a3 NF 0 0) fun v30 => some v30 else some (-2) else some (-2) else some (-2)
set_option maxHeartbeats 4000000 in
set_option maxRecDepth 100000 in
theorem lX9_pair_42 {p : Program} {l : Launch} {e : Env} {R : Room} {s : State} {m : MethodId} {args : Array Value} {below : List Frame} {meth : Method} {c : Code} {cells slots : Nat} {Q : State → Prop} {G : xG} {β N : Nat} (C : Cx p s m args meth c RX9 cX9_pair 9 (some .int) (KK G)) (hRf : 3 ≤ R.frames) (hRl : 72 ≤ R.locals) (hcs : cells ≤ R.cells ∧ slots ≤ R.slots) (x : MS) (q1 : Int32) (q2 : Int32) (q3 : Int32) : ∀ (n : Nat) (u4 : Int32) (u5 : Int32) (J : Int32) (H : Heap) (locs : List Loc) (ls : Array Slot), LX9_pair_42 x q1 q2 q3 n u4 u5 = some J → MW β G N x H → va_S (AM β) s.heap H locs → lv_has ls 9 [(0, .ref β), (1, .int q1), (2, .int q2), (3, .int q3), (4, .int u4), (5, .int u5)] → (∀ (w4 : Int32), J = w4 → ∀ (H : Heap) (locs : List Loc) (ls : Array Slot), MW β G N x H → va_S (AM β) s.heap H locs → lv_has ls 9 [(4, .int w4)] → W p l e R s m args below meth c H locs cells slots Q (F0 m 156 ls [])) → W p l e R s m args below meth c H locs cells slots Q (F0 m 42 ls []) := by
  have hx := C.1
  have hb := C.2.1
  have ho := C.2.2.2.1
  have hts := C.2.2.2.2.1
  intro n
  induction n with
  | zero =>
    intro u4 u5 J H locs ls hm
    exact absurd hm (by simp [LX9_pair_42])
  | succ n ih =>
    intro u4 u5 J H locs ls hm hw hS hl ke
    replace hm : BX9_pair_42 x q1 q2 q3 (LX9_pair_42 x q1 q2 q3 n) u4 u5 = some J := hm
    unfold BX9_pair_42 at hm
    refine lv_iload hx hb dX9_pair_42 (lv_at hl 5 rfl) ?_
    refine lv_aload_n hx hb dX9_pair_44 rfl (lv_at hl 0 rfl) ?_
    refine gX9_169 C hw dX9_pair_45 ?_
    refine lv_icmp_ge (tgt := 156) hx hb dX9_pair_48 (by decide) (fun cc => ?_) (fun cc => ?_)
    · replace hm := ite_p cc hm
      exact ke _ (Option.some.inj hm).symm _ _ _ hw hS (lv_sub hl [4] rfl)
    · replace hm := ite_n cc hm
      refine lv_aload_n hx hb dX9_pair_51 rfl (lv_at hl 0 rfl) ?_
      refine lv_iload hx hb dX9_pair_52 (lv_at hl 5 rfl) ?_
      refine lv_iload_n hx hb dX9_pair_54 rfl (lv_at hl 1 rfl) ?_
      obtain ⟨v7, h8, hm⟩ := bind_e hm
      refine sX9_177 C h8 hw hS hl.1 (Nat.le_of_ble_eq_true rfl) (Nat.le_trans (Nat.le_of_ble_eq_true rfl) hRf) (Nat.le_trans (Nat.le_of_ble_eq_true rfl) hRl) hcs dX9_pair_55 (fun H locs hw hS => ?_)
      refine lv_istore (lv' := [(6, .int v7), (0, .ref β), (1, .int q1), (2, .int q2), (3, .int q3), (4, .int u4), (5, .int u5)]) hx hb dX9_pair_58 hl (by decide) rfl (fun ls hl => ?_)
      refine lv_aload_n hx hb dX9_pair_60 rfl (lv_at hl 1 rfl) ?_
      refine lv_iload hx hb dX9_pair_61 (lv_at hl 6 rfl) ?_
      refine lv_iload_n hx hb dX9_pair_63 rfl (lv_at hl 3 rfl) ?_
      obtain ⟨v9, h10, hm⟩ := bind_e hm
      refine sX9_177 C h10 hw hS hl.1 (Nat.le_of_ble_eq_true rfl) (Nat.le_trans (Nat.le_of_ble_eq_true rfl) hRf) (Nat.le_trans (Nat.le_of_ble_eq_true rfl) hRl) hcs dX9_pair_64 (fun H locs hw hS => ?_)
      refine lv_istore (lv' := [(7, .int v9), (6, .int v7), (0, .ref β), (1, .int q1), (2, .int q2), (3, .int q3), (4, .int u4), (5, .int u5)]) hx hb dX9_pair_67 hl (by decide) rfl (fun ls hl => ?_)
      refine lv_iload hx hb dX9_pair_69 (lv_at hl 1 rfl) ?_
      refine lv_iconst (v := (-1)) hx hb dX9_pair_71 (by decide) ?_
      refine lv_icmp_eq (tgt := 150) hx hb dX9_pair_72 (by decide) (fun cc => ?_) (fun cc => ?_)
      · replace hm := ite_p cc hm
        obtain ⟨v11, ev, hm⟩ := lt_e hm
        refine lv_iinc (v := v11) (lv' := [(5, .int v11), (7, .int v9), (6, .int v7), (0, .ref β), (1, .int q1), (2, .int q2), (3, .int q3), (4, .int u4)]) hx hb dX9_pair_150 hl (k := 7) rfl (by rw [ev]; rfl) (by decide) rfl (fun ls hl => ?_)
        clear ev
        refine lv_goto (tgt := 42) hx hb dX9_pair_153 (by decide) ?_
        exact ih _ _ _ _ _ _ hm hw hS (lv_sub hl [3, 4, 5, 6, 7, 0] rfl) ke
      · replace hm := ite_n cc hm
        refine lv_iload hx hb dX9_pair_75 (lv_at hl 0 rfl) ?_
        refine lv_iconst (v := (-1)) hx hb dX9_pair_77 (by decide) ?_
        refine lv_icmp_ne (tgt := 84) hx hb dX9_pair_78 (by decide) (fun cc => ?_) (fun cc => ?_)
        · replace hm := ite_n cc hm
          refine lv_aload_n hx hb dX9_pair_84 rfl (lv_at hl 2 rfl) ?_
          refine gX9_41 C hw dX9_pair_85 ?_
          refine lv_aload_n hx hb dX9_pair_88 rfl (lv_at hl 2 rfl) ?_
          refine gX9_57 C hw dX9_pair_89 ?_
          refine lv_iload hx hb dX9_pair_92 (lv_at hl 7 rfl) ?_
          obtain ⟨h12, hm⟩ := chk_e hm
          refine alM_15 C hw h12 dX9_pair_94 ?_
          obtain ⟨h13, hm⟩ := chk_e hm
          refine alM_10 C hw h13 dX9_pair_95 ?_
          refine topI hm (fun v14 hm => ?_)
          refine lv_istore (lv' := [(8, .int v14), (7, .int v9), (6, .int v7), (0, .ref β), (1, .int q1), (2, .int q2), (3, .int q3), (4, .int u4), (5, .int u5)]) hx hb dX9_pair_96 hl (by decide) rfl (fun ls hl => ?_)
          refine lv_iload hx hb dX9_pair_98 (lv_at hl 7 rfl) ?_
          refine lv_iload_n hx hb dX9_pair_100 rfl (lv_at hl 6 rfl) ?_
          refine lv_if_eq (tgt := 142) hx hb dX9_pair_101 (by decide) (fun cc => ?_) (fun cc => ?_)
          · replace hm := ite_p cc hm
            refine lv_iconst (v := 1) hx hb dX9_pair_142 (by decide) ?_
            refine lv_goto (tgt := 147) hx hb dX9_pair_143 (by decide) ?_
            refine lv_iadd hx hb dX9_pair_147 ?_
            refine topI hm (fun v15 hm => ?_)
            refine lv_istore (lv' := [(4, .int v15), (8, .int v14), (7, .int v9), (6, .int v7), (0, .ref β), (1, .int q1), (2, .int q2), (3, .int q3), (5, .int u5)]) hx hb dX9_pair_148 hl (by decide) rfl (fun ls hl => ?_)
            obtain ⟨v16, ev, hm⟩ := lt_e hm
            refine lv_iinc (v := v16) (lv' := [(5, .int v16), (4, .int v15), (8, .int v14), (7, .int v9), (6, .int v7), (0, .ref β), (1, .int q1), (2, .int q2), (3, .int q3)]) hx hb dX9_pair_150 hl (k := 8) rfl (by rw [ev]; rfl) (by decide) rfl (fun ls hl => ?_)
            clear ev
            refine lv_goto (tgt := 42) hx hb dX9_pair_153 (by decide) ?_
            exact ih _ _ _ _ _ _ hm hw hS (lv_sub hl [5, 6, 7, 8, 1, 0] rfl) ke
          · replace hm := ite_n cc hm
            refine lv_iload_n hx hb dX9_pair_104 rfl (lv_at hl 6 rfl) ?_
            refine lv_iconst (v := 1) hx hb dX9_pair_105 (by decide) ?_
            refine lv_icmp_ne (tgt := 119) hx hb dX9_pair_106 (by decide) (fun cc => ?_) (fun cc => ?_)
            · replace hm := ite_n cc hm
              refine lv_aload_n hx hb dX9_pair_119 rfl (lv_at hl 3 rfl) ?_
              refine lv_iload hx hb dX9_pair_120 (lv_at hl 8 rfl) ?_
              refine lv_iload hx hb dX9_pair_122 (lv_at hl 2 rfl) ?_
              refine lv_iload hx hb dX9_pair_124 (lv_at hl 0 rfl) ?_
              obtain ⟨v17, h18, hm⟩ := bind_e hm
              refine sX9_408 C h18 hw hS hl.1 (Nat.le_of_ble_eq_true rfl) (Nat.le_trans (Nat.le_of_ble_eq_true rfl) hRf) (Nat.le_trans (Nat.le_of_ble_eq_true rfl) hRl) hcs dX9_pair_126 (fun H locs hw hS => ?_)
              refine lv_aload_n hx hb dX9_pair_129 rfl (lv_at hl 3 rfl) ?_
              refine lv_iload hx hb dX9_pair_130 (lv_at hl 8 rfl) ?_
              refine lv_iload hx hb dX9_pair_132 (lv_at hl 1 rfl) ?_
              refine lv_iload hx hb dX9_pair_134 (lv_at hl 0 rfl) ?_
              obtain ⟨v19, h20, hm⟩ := bind_e hm
              refine sX9_408 C h20 hw hS hl.1 (Nat.le_of_ble_eq_true rfl) (Nat.le_trans (Nat.le_of_ble_eq_true rfl) hRf) (Nat.le_trans (Nat.le_of_ble_eq_true rfl) hRl) hcs dX9_pair_136 (fun H locs hw hS => ?_)
              refine lv_icmp_le (tgt := 146) hx hb dX9_pair_139 (by decide) (fun cc => ?_) (fun cc => ?_)
              · replace hm := ite_p cc hm
                refine lv_iconst (v := 0) hx hb dX9_pair_146 (by decide) ?_
                refine lv_iadd hx hb dX9_pair_147 ?_
                refine topI hm (fun v21 hm => ?_)
                refine lv_istore (lv' := [(4, .int v21), (8, .int v14), (7, .int v9), (6, .int v7), (0, .ref β), (1, .int q1), (2, .int q2), (3, .int q3), (5, .int u5)]) hx hb dX9_pair_148 hl (by decide) rfl (fun ls hl => ?_)
                obtain ⟨v22, ev, hm⟩ := lt_e hm
                refine lv_iinc (v := v22) (lv' := [(5, .int v22), (4, .int v21), (8, .int v14), (7, .int v9), (6, .int v7), (0, .ref β), (1, .int q1), (2, .int q2), (3, .int q3)]) hx hb dX9_pair_150 hl (k := 8) rfl (by rw [ev]; rfl) (by decide) rfl (fun ls hl => ?_)
                clear ev
                refine lv_goto (tgt := 42) hx hb dX9_pair_153 (by decide) ?_
                exact ih _ _ _ _ _ _ hm hw hS (lv_sub hl [5, 6, 7, 8, 1, 0] rfl) ke
              · replace hm := ite_n cc hm
                refine lv_iconst (v := 1) hx hb dX9_pair_142 (by decide) ?_
                refine lv_goto (tgt := 147) hx hb dX9_pair_143 (by decide) ?_
                refine lv_iadd hx hb dX9_pair_147 ?_
                refine topI hm (fun v23 hm => ?_)
                refine lv_istore (lv' := [(4, .int v23), (8, .int v14), (7, .int v9), (6, .int v7), (0, .ref β), (1, .int q1), (2, .int q2), (3, .int q3), (5, .int u5)]) hx hb dX9_pair_148 hl (by decide) rfl (fun ls hl => ?_)
                obtain ⟨v24, ev, hm⟩ := lt_e hm
                refine lv_iinc (v := v24) (lv' := [(5, .int v24), (4, .int v23), (8, .int v14), (7, .int v9), (6, .int v7), (0, .ref β), (1, .int q1), (2, .int q2), (3, .int q3)]) hx hb dX9_pair_150 hl (k := 8) rfl (by rw [ev]; rfl) (by decide) rfl (fun ls hl => ?_)
                clear ev
                refine lv_goto (tgt := 42) hx hb dX9_pair_153 (by decide) ?_
                exact ih _ _ _ _ _ _ hm hw hS (lv_sub hl [5, 6, 7, 8, 1, 0] rfl) ke
            · replace hm := ite_p cc hm
              refine lv_iload hx hb dX9_pair_109 (lv_at hl 2 rfl) ?_
              refine lv_iload hx hb dX9_pair_111 (lv_at hl 1 rfl) ?_
              refine lv_icmp_ge (tgt := 146) hx hb dX9_pair_113 (by decide) (fun cc => ?_) (fun cc => ?_)
              · replace hm := ite_p cc hm
                refine lv_iconst (v := 0) hx hb dX9_pair_146 (by decide) ?_
                refine lv_iadd hx hb dX9_pair_147 ?_
                refine topI hm (fun v25 hm => ?_)
                refine lv_istore (lv' := [(4, .int v25), (8, .int v14), (7, .int v9), (6, .int v7), (0, .ref β), (1, .int q1), (2, .int q2), (3, .int q3), (5, .int u5)]) hx hb dX9_pair_148 hl (by decide) rfl (fun ls hl => ?_)
                obtain ⟨v26, ev, hm⟩ := lt_e hm
                refine lv_iinc (v := v26) (lv' := [(5, .int v26), (4, .int v25), (8, .int v14), (7, .int v9), (6, .int v7), (0, .ref β), (1, .int q1), (2, .int q2), (3, .int q3)]) hx hb dX9_pair_150 hl (k := 8) rfl (by rw [ev]; rfl) (by decide) rfl (fun ls hl => ?_)
                clear ev
                refine lv_goto (tgt := 42) hx hb dX9_pair_153 (by decide) ?_
                exact ih _ _ _ _ _ _ hm hw hS (lv_sub hl [5, 6, 7, 8, 1, 0] rfl) ke
              · replace hm := ite_n cc hm
                refine lv_goto (tgt := 142) hx hb dX9_pair_116 (by decide) ?_
                refine lv_iconst (v := 1) hx hb dX9_pair_142 (by decide) ?_
                refine lv_goto (tgt := 147) hx hb dX9_pair_143 (by decide) ?_
                refine lv_iadd hx hb dX9_pair_147 ?_
                refine topI hm (fun v27 hm => ?_)
                refine lv_istore (lv' := [(4, .int v27), (8, .int v14), (7, .int v9), (6, .int v7), (0, .ref β), (1, .int q1), (2, .int q2), (3, .int q3), (5, .int u5)]) hx hb dX9_pair_148 hl (by decide) rfl (fun ls hl => ?_)
                obtain ⟨v28, ev, hm⟩ := lt_e hm
                refine lv_iinc (v := v28) (lv' := [(5, .int v28), (4, .int v27), (8, .int v14), (7, .int v9), (6, .int v7), (0, .ref β), (1, .int q1), (2, .int q2), (3, .int q3)]) hx hb dX9_pair_150 hl (k := 8) rfl (by rw [ev]; rfl) (by decide) rfl (fun ls hl => ?_)
                clear ev
                refine lv_goto (tgt := 42) hx hb dX9_pair_153 (by decide) ?_
                exact ih _ _ _ _ _ _ hm hw hS (lv_sub hl [5, 6, 7, 8, 1, 0] rfl) ke
        · replace hm := ite_p cc hm
          refine lv_goto (tgt := 150) hx hb dX9_pair_81 (by decide) ?_
          obtain ⟨v29, ev, hm⟩ := lt_e hm
          refine lv_iinc (v := v29) (lv' := [(5, .int v29), (7, .int v9), (6, .int v7), (0, .ref β), (1, .int q1), (2, .int q2), (3, .int q3), (4, .int u4)]) hx hb dX9_pair_150 hl (k := 7) rfl (by rw [ev]; rfl) (by decide) rfl (fun ls hl => ?_)
          clear ev
          refine lv_goto (tgt := 42) hx hb dX9_pair_153 (by decide) ?_
          exact ih _ _ _ _ _ _ hm hw hS (lv_sub hl [3, 4, 5, 6, 7, 0] rfl) ke
abbrev rmX9_pair : Room := { frames := 3, cells := 0, slots := 0, locals := 72 }
set_option maxHeartbeats 4000000 in
set_option maxRecDepth 100000 in
theorem kX9_pair {l : Launch} {G : xG} {β N : Nat} {x : MS} {a1 : Int32} {a2 : Int32} {a3 : Int32} {r : Int32} (hm : fX9_pair x a1 a2 a3 = some r) : Met l yX9_pair (.code yX9_pair cX9_pair 9 (some .int) :: GT) rmX9_pair (PcW [.ref β, .int a1, .int a2, .int a3] (MW β G N x) (KK G)) (QcW (AM β) (some (.int r)) (MW β G N x)) 0 0 (AM β) := by
  unfold fX9_pair at hm
  refine xpro (own := RX9) (by decide +kernel) rfl (Nat.le_of_ble_eq_true rfl) ?_
  intro p e s m args below meth c C hw ls hl
  have hx := C.1
  have hb := C.2.1
  have ho := C.2.2.2.1
  have hts := C.2.2.2.2.1
  have hS : va_S (AM β) s.heap s.heap [] := va_S.rf
  have hl : lv_has ls 9 [(0, .ref β), (1, .int a1), (2, .int a2), (3, .int a3)] := hl
  have hRf : 3 ≤ rmX9_pair.frames := Nat.le_refl _
  have hRl : 72 ≤ rmX9_pair.locals := Nat.le_refl _
  have hcs : 0 ≤ rmX9_pair.cells ∧ 0 ≤ rmX9_pair.slots := ⟨Nat.le_refl _, Nat.le_refl _⟩
  refine lv_aload_n hx hb dX9_pair_0 rfl (lv_at hl 0 rfl) ?_
  refine lv_iload_n hx hb dX9_pair_1 rfl (lv_at hl 1 rfl) ?_
  obtain ⟨v1, h2, hm⟩ := bind_e hm
  refine sX9_146 C h2 hw hS hl.1 (Nat.le_of_ble_eq_true rfl) (Nat.le_trans (Nat.le_of_ble_eq_true rfl) hRf) (Nat.le_trans (Nat.le_of_ble_eq_true rfl) hRl) hcs dX9_pair_2 (fun H locs hw hS => ?_)
  refine x_ifeqB hx hb dX9_pair_5 (tgt := 33) (by decide) (fun cc => ?_) (fun cc => ?_)
  · replace hm := ite_n cc hm
    refine lv_bipush (v := (-2)) hx hb dX9_pair_33 (by decide) ?_
    obtain rfl := Option.some.inj hm
    exact xret_i C hw hS dX9_pair_35
  · replace hm := ite_p cc hm
    refine lv_aload_n hx hb dX9_pair_8 rfl (lv_at hl 0 rfl) ?_
    refine lv_iload_n hx hb dX9_pair_9 rfl (lv_at hl 2 rfl) ?_
    obtain ⟨v3, h4, hm⟩ := bind_e hm
    refine sX9_146 C h4 hw hS hl.1 (Nat.le_of_ble_eq_true rfl) (Nat.le_trans (Nat.le_of_ble_eq_true rfl) hRf) (Nat.le_trans (Nat.le_of_ble_eq_true rfl) hRl) hcs dX9_pair_10 (fun H locs hw hS => ?_)
    refine x_ifeqB hx hb dX9_pair_13 (tgt := 33) (by decide) (fun cc => ?_) (fun cc => ?_)
    · replace hm := ite_n cc hm
      refine lv_bipush (v := (-2)) hx hb dX9_pair_33 (by decide) ?_
      obtain rfl := Option.some.inj hm
      exact xret_i C hw hS dX9_pair_35
    · replace hm := ite_p cc hm
      refine lv_iload_n hx hb dX9_pair_16 rfl (lv_at hl 1 rfl) ?_
      refine lv_iload_n hx hb dX9_pair_17 rfl (lv_at hl 2 rfl) ?_
      refine lv_icmp_eq (tgt := 33) hx hb dX9_pair_18 (by decide) (fun cc => ?_) (fun cc => ?_)
      · replace hm := ite_p cc hm
        refine lv_bipush (v := (-2)) hx hb dX9_pair_33 (by decide) ?_
        obtain rfl := Option.some.inj hm
        exact xret_i C hw hS dX9_pair_35
      · replace hm := ite_n cc hm
        refine lv_iload_n hx hb dX9_pair_21 rfl (lv_at hl 3 rfl) ?_
        refine lv_i2l hx hb dX9_pair_22 rfl ?_
        refine lv_lconst (v := 0) hx hb dX9_pair_23 (by decide) ?_
        refine lv_ldc2 (v := 2) hx hb ho (hts (.constantLong RX9 150 2) (tg 1109 (by decide +kernel) rfl)) dX9_pair_24 ?_
        obtain ⟨v5, h6, hm⟩ := bind_e hm
        refine sX9_132 C h6 hw hS hl.1 (Nat.le_of_ble_eq_true rfl) (Nat.le_trans (Nat.le_of_ble_eq_true rfl) hRf) (Nat.le_trans (Nat.le_of_ble_eq_true rfl) hRl) hcs dX9_pair_27 (fun H locs hw hS => ?_)
        refine x_ifneB hx hb dX9_pair_30 (tgt := 36) (by decide) (fun cc => ?_) (fun cc => ?_)
        · replace hm := ite_p cc hm
          refine lv_iconst (v := 0) hx hb dX9_pair_36 (by decide) ?_
          refine lv_istore (lv' := [(4, .int 0), (0, .ref β), (1, .int a1), (2, .int a2), (3, .int a3)]) hx hb dX9_pair_37 hl (by decide) rfl (fun ls hl => ?_)
          refine lv_iconst (v := 0) hx hb dX9_pair_39 (by decide) ?_
          refine lv_istore (lv' := [(5, .int 0), (4, .int 0), (0, .ref β), (1, .int a1), (2, .int a2), (3, .int a3)]) hx hb dX9_pair_40 hl (by decide) rfl (fun ls hl => ?_)
          obtain ⟨v30, hj, hm⟩ := bind_e hm
          refine lX9_pair_42 C hRf hRl hcs x a1 a2 a3 NF _ _ _ _ _ _ hj hw hS (lv_sub hl [2, 3, 4, 5, 1, 0] rfl) (fun v30_ e0 H locs ls hw hS hl => ?_)
          cases e0
          refine lv_iload hx hb dX9_pair_156 (lv_at hl 0 rfl) ?_
          obtain rfl := Option.some.inj hm
          exact xret_i C hw hS dX9_pair_158
        · replace hm := ite_n cc hm
          refine lv_bipush (v := (-2)) hx hb dX9_pair_33 (by decide) ?_
          obtain rfl := Option.some.inj hm
          exact xret_i C hw hS dX9_pair_35
theorem dX9_yards_0 : decode cX9_yards 0 = .ok (.aload_n 0, 1) := by decide +kernel
theorem dX9_yards_1 : decode cX9_yards 1 = .ok (.iload_n 1, 1) := by decide +kernel
theorem dX9_yards_2 : decode cX9_yards 2 = .ok (.invokevirtual 222, 3) := by decide +kernel
theorem dX9_yards_5 : decode cX9_yards 5 = .ok (.ifCond .eq 19, 3) := by decide +kernel
theorem dX9_yards_8 : decode cX9_yards 8 = .ok (.iload_n 2, 1) := by decide +kernel
theorem dX9_yards_9 : decode cX9_yards 9 = .ok (.invokestatic 160, 3) := by decide +kernel
theorem dX9_yards_12 : decode cX9_yards 12 = .ok (.ifCond .eq 12, 3) := by decide +kernel
theorem dX9_yards_15 : decode cX9_yards 15 = .ok (.aload_n 0, 1) := by decide +kernel
theorem dX9_yards_16 : decode cX9_yards 16 = .ok (.iload_n 1, 1) := by decide +kernel
theorem dX9_yards_17 : decode cX9_yards 17 = .ok (.iload_n 3, 1) := by decide +kernel
theorem dX9_yards_18 : decode cX9_yards 18 = .ok (.invokevirtual 196, 3) := by decide +kernel
theorem dX9_yards_21 : decode cX9_yards 21 = .ok (.ifCond .ne 6, 3) := by decide +kernel
theorem dX9_yards_24 : decode cX9_yards 24 = .ok (.bipush (-2), 2) := by decide +kernel
theorem dX9_yards_26 : decode cX9_yards 26 = .ok (.ireturn, 1) := by decide +kernel
theorem dX9_yards_27 : decode cX9_yards 27 = .ok (.iconst (-1), 1) := by decide +kernel
theorem dX9_yards_28 : decode cX9_yards 28 = .ok (.istore 4, 2) := by decide +kernel
theorem dX9_yards_30 : decode cX9_yards 30 = .ok (.iconst 0, 1) := by decide +kernel
theorem dX9_yards_31 : decode cX9_yards 31 = .ok (.istore 5, 2) := by decide +kernel
theorem dX9_yards_33 : decode cX9_yards 33 = .ok (.iload 5, 2) := by decide +kernel
theorem dX9_yards_35 : decode cX9_yards 35 = .ok (.aload_n 0, 1) := by decide +kernel
theorem dX9_yards_36 : decode cX9_yards 36 = .ok (.getfield 129, 3) := by decide +kernel
theorem dX9_yards_39 : decode cX9_yards 39 = .ok (.if_icmp .ge 60, 3) := by decide +kernel
theorem dX9_yards_42 : decode cX9_yards 42 = .ok (.aload_n 0, 1) := by decide +kernel
theorem dX9_yards_43 : decode cX9_yards 43 = .ok (.getfield 38, 3) := by decide +kernel
theorem dX9_yards_46 : decode cX9_yards 46 = .ok (.iload 5, 2) := by decide +kernel
theorem dX9_yards_48 : decode cX9_yards 48 = .ok (.iaload, 1) := by decide +kernel
theorem dX9_yards_49 : decode cX9_yards 49 = .ok (.aload_n 0, 1) := by decide +kernel
theorem dX9_yards_50 : decode cX9_yards 50 = .ok (.getfield 41, 3) := by decide +kernel
theorem dX9_yards_53 : decode cX9_yards 53 = .ok (.iload_n 2, 1) := by decide +kernel
theorem dX9_yards_54 : decode cX9_yards 54 = .ok (.iaload, 1) := by decide +kernel
theorem dX9_yards_55 : decode cX9_yards 55 = .ok (.imul, 1) := by decide +kernel
theorem dX9_yards_56 : decode cX9_yards 56 = .ok (.bipush 10, 2) := by decide +kernel
theorem dX9_yards_58 : decode cX9_yards 58 = .ok (.idiv, 1) := by decide +kernel
theorem dX9_yards_59 : decode cX9_yards 59 = .ok (.istore 6, 2) := by decide +kernel
theorem dX9_yards_61 : decode cX9_yards 61 = .ok (.aload_n 0, 1) := by decide +kernel
theorem dX9_yards_62 : decode cX9_yards 62 = .ok (.iload_n 1, 1) := by decide +kernel
theorem dX9_yards_63 : decode cX9_yards 63 = .ok (.iload 5, 2) := by decide +kernel
theorem dX9_yards_65 : decode cX9_yards 65 = .ok (.invokevirtual 196, 3) := by decide +kernel
theorem dX9_yards_68 : decode cX9_yards 68 = .ok (.ifCond .eq 21, 3) := by decide +kernel
theorem dX9_yards_71 : decode cX9_yards 71 = .ok (.iload 4, 2) := by decide +kernel
theorem dX9_yards_73 : decode cX9_yards 73 = .ok (.iconst (-1), 1) := by decide +kernel
theorem dX9_yards_74 : decode cX9_yards 74 = .ok (.if_icmp .eq 10, 3) := by decide +kernel
theorem dX9_yards_77 : decode cX9_yards 77 = .ok (.iload 6, 2) := by decide +kernel
theorem dX9_yards_79 : decode cX9_yards 79 = .ok (.iload 4, 2) := by decide +kernel
theorem dX9_yards_81 : decode cX9_yards 81 = .ok (.if_icmp .ge 8, 3) := by decide +kernel
theorem dX9_yards_84 : decode cX9_yards 84 = .ok (.iload 6, 2) := by decide +kernel
theorem dX9_yards_86 : decode cX9_yards 86 = .ok (.goto 5, 3) := by decide +kernel
theorem dX9_yards_89 : decode cX9_yards 89 = .ok (.iload 4, 2) := by decide +kernel
theorem dX9_yards_91 : decode cX9_yards 91 = .ok (.istore 4, 2) := by decide +kernel
theorem dX9_yards_93 : decode cX9_yards 93 = .ok (.iinc 5 1, 3) := by decide +kernel
theorem dX9_yards_96 : decode cX9_yards 96 = .ok (.goto (-63), 3) := by decide +kernel
theorem dX9_yards_99 : decode cX9_yards 99 = .ok (.iconst 3, 1) := by decide +kernel
theorem dX9_yards_100 : decode cX9_yards 100 = .ok (.aload_n 0, 1) := by decide +kernel
theorem dX9_yards_101 : decode cX9_yards 101 = .ok (.getfield 38, 3) := by decide +kernel
theorem dX9_yards_104 : decode cX9_yards 104 = .ok (.iload_n 3, 1) := by decide +kernel
theorem dX9_yards_105 : decode cX9_yards 105 = .ok (.iaload, 1) := by decide +kernel
theorem dX9_yards_106 : decode cX9_yards 106 = .ok (.aload_n 0, 1) := by decide +kernel
theorem dX9_yards_107 : decode cX9_yards 107 = .ok (.getfield 41, 3) := by decide +kernel
theorem dX9_yards_110 : decode cX9_yards 110 = .ok (.iload_n 2, 1) := by decide +kernel
theorem dX9_yards_111 : decode cX9_yards 111 = .ok (.iaload, 1) := by decide +kernel
theorem dX9_yards_112 : decode cX9_yards 112 = .ok (.imul, 1) := by decide +kernel
theorem dX9_yards_113 : decode cX9_yards 113 = .ok (.bipush 10, 2) := by decide +kernel
theorem dX9_yards_115 : decode cX9_yards 115 = .ok (.idiv, 1) := by decide +kernel
theorem dX9_yards_116 : decode cX9_yards 116 = .ok (.iload 4, 2) := by decide +kernel
theorem dX9_yards_118 : decode cX9_yards 118 = .ok (.isub, 1) := by decide +kernel
theorem dX9_yards_119 : decode cX9_yards 119 = .ok (.imul, 1) := by decide +kernel
theorem dX9_yards_120 : decode cX9_yards 120 = .ok (.ireturn, 1) := by decide +kernel
def BX9_yards_33 (x : MS) (q1 : Int32) (q2 : Int32) (q3 : Int32) (lp : Int32 → Int32 → Option (Int32)) (u4 : Int32) (u5 : Int32) : Option (Int32) := if (x.1 0 13) ≤ u5 then some u4 else if ib u5 10 then if ib q2 4 then lt (((x.2.1 9 u5.toNatClampNeg) * (x.2.1 10 q2.toNatClampNeg)) / 10) fun v9 => Option.bind (fX9_isOf x q1 u5) fun v10 => if v10 = true then if u4 = (-1) then lt (u5 + 1) fun v13 => lp v9 v13 else if u4 ≤ v9 then lt (u5 + 1) fun v14 => lp u4 v14 else lt (u5 + 1) fun v15 => lp v9 v15 else lt (u5 + 1) fun v12 => lp u4 v12 else none else none
def LX9_yards_33 (x : MS) (q1 : Int32) (q2 : Int32) (q3 : Int32) : Nat → Int32 → Int32 → Option (Int32)
  | 0, _, _ => none
  | n + 1, u4, u5 => BX9_yards_33 x q1 q2 q3 (LX9_yards_33 x q1 q2 q3 n) u4 u5
def fX9_yards (x : MS) (a1 : Int32) (a2 : Int32) (a3 : Int32) : Option (Int32) := Option.bind (fX9_isField x a1) fun v1 => if v1 = true then Option.bind (fX9_isGround a2) fun v3 => if v3 = true then Option.bind (fX9_isOf x a1 a3) fun v5 => if v5 = true then Option.bind (LX9_yards_33 x a1 a2 a3 NF (-1) 0) fun v16 => if ib a3 10 then if ib a2 4 then some (3 * ((((x.2.1 9 a3.toNatClampNeg) * (x.2.1 10 a2.toNatClampNeg)) / 10) - v16)) else none else none else some (-2) else some (-2) else some (-2)
set_option maxHeartbeats 4000000 in
set_option maxRecDepth 100000 in
theorem lX9_yards_33 {p : Program} {l : Launch} {e : Env} {R : Room} {s : State} {m : MethodId} {args : Array Value} {below : List Frame} {meth : Method} {c : Code} {cells slots : Nat} {Q : State → Prop} {G : xG} {β N : Nat} (C : Cx p s m args meth c RX9 cX9_yards 7 (some .int) (KK G)) (hRf : 3 ≤ R.frames) (hRl : 68 ≤ R.locals) (hcs : cells ≤ R.cells ∧ slots ≤ R.slots) (x : MS) (q1 : Int32) (q2 : Int32) (q3 : Int32) : ∀ (n : Nat) (u4 : Int32) (u5 : Int32) (J : Int32) (H : Heap) (locs : List Loc) (ls : Array Slot), LX9_yards_33 x q1 q2 q3 n u4 u5 = some J → MW β G N x H → va_S (AM β) s.heap H locs → lv_has ls 7 [(0, .ref β), (1, .int q1), (2, .int q2), (3, .int q3), (4, .int u4), (5, .int u5)] → (∀ (w4 : Int32), J = w4 → ∀ (H : Heap) (locs : List Loc) (ls : Array Slot), MW β G N x H → va_S (AM β) s.heap H locs → lv_has ls 7 [(0, .ref β), (2, .int q2), (3, .int q3), (4, .int w4)] → W p l e R s m args below meth c H locs cells slots Q (F0 m 99 ls [])) → W p l e R s m args below meth c H locs cells slots Q (F0 m 33 ls []) := by
  have hx := C.1
  have hb := C.2.1
  have ho := C.2.2.2.1
  have hts := C.2.2.2.2.1
  intro n
  induction n with
  | zero =>
    intro u4 u5 J H locs ls hm
    exact absurd hm (by simp [LX9_yards_33])
  | succ n ih =>
    intro u4 u5 J H locs ls hm hw hS hl ke
    replace hm : BX9_yards_33 x q1 q2 q3 (LX9_yards_33 x q1 q2 q3 n) u4 u5 = some J := hm
    unfold BX9_yards_33 at hm
    refine lv_iload hx hb dX9_yards_33 (lv_at hl 5 rfl) ?_
    refine lv_aload_n hx hb dX9_yards_35 rfl (lv_at hl 0 rfl) ?_
    refine gX9_129 C hw dX9_yards_36 ?_
    refine lv_icmp_ge (tgt := 99) hx hb dX9_yards_39 (by decide) (fun cc => ?_) (fun cc => ?_)
    · replace hm := ite_p cc hm
      exact ke _ (Option.some.inj hm).symm _ _ _ hw hS (lv_sub hl [0, 2, 3, 4] rfl)
    · replace hm := ite_n cc hm
      refine lv_aload_n hx hb dX9_yards_42 rfl (lv_at hl 0 rfl) ?_
      refine gX9_38 C hw dX9_yards_43 ?_
      refine lv_iload hx hb dX9_yards_46 (lv_at hl 5 rfl) ?_
      obtain ⟨h7, hm⟩ := chk_e hm
      refine alM_9 C hw h7 dX9_yards_48 ?_
      refine lv_aload_n hx hb dX9_yards_49 rfl (lv_at hl 0 rfl) ?_
      refine gX9_41 C hw dX9_yards_50 ?_
      refine lv_iload_n hx hb dX9_yards_53 rfl (lv_at hl 2 rfl) ?_
      obtain ⟨h8, hm⟩ := chk_e hm
      refine alM_10 C hw h8 dX9_yards_54 ?_
      refine lv_imul hx hb dX9_yards_55 ?_
      refine lv_bipush (v := 10) hx hb dX9_yards_56 (by decide) ?_
      refine lv_idiv hx hb dX9_yards_58 (by decide) ?_
      refine topI hm (fun v9 hm => ?_)
      refine lv_istore (lv' := [(6, .int v9), (0, .ref β), (1, .int q1), (2, .int q2), (3, .int q3), (4, .int u4), (5, .int u5)]) hx hb dX9_yards_59 hl (by decide) rfl (fun ls hl => ?_)
      refine lv_aload_n hx hb dX9_yards_61 rfl (lv_at hl 1 rfl) ?_
      refine lv_iload_n hx hb dX9_yards_62 rfl (lv_at hl 2 rfl) ?_
      refine lv_iload hx hb dX9_yards_63 (lv_at hl 6 rfl) ?_
      obtain ⟨v10, h11, hm⟩ := bind_e hm
      refine sX9_196 C h11 hw hS hl.1 (Nat.le_of_ble_eq_true rfl) (Nat.le_trans (Nat.le_of_ble_eq_true rfl) hRf) (Nat.le_trans (Nat.le_of_ble_eq_true rfl) hRl) hcs dX9_yards_65 (fun H locs hw hS => ?_)
      refine x_ifeqB hx hb dX9_yards_68 (tgt := 89) (by decide) (fun cc => ?_) (fun cc => ?_)
      · replace hm := ite_n cc hm
        refine lv_iload hx hb dX9_yards_89 (lv_at hl 5 rfl) ?_
        refine lv_istore (lv' := [(4, .int u4), (6, .int v9), (0, .ref β), (1, .int q1), (2, .int q2), (3, .int q3), (5, .int u5)]) hx hb dX9_yards_91 hl (by decide) rfl (fun ls hl => ?_)
        obtain ⟨v12, ev, hm⟩ := lt_e hm
        refine lv_iinc (v := v12) (lv' := [(5, .int v12), (4, .int u4), (6, .int v9), (0, .ref β), (1, .int q1), (2, .int q2), (3, .int q3)]) hx hb dX9_yards_93 hl (k := 6) rfl (by rw [ev]; rfl) (by decide) rfl (fun ls hl => ?_)
        clear ev
        refine lv_goto (tgt := 33) hx hb dX9_yards_96 (by decide) ?_
        exact ih _ _ _ _ _ _ hm hw hS (lv_sub hl [3, 4, 5, 6, 1, 0] rfl) ke
      · replace hm := ite_p cc hm
        refine lv_iload hx hb dX9_yards_71 (lv_at hl 5 rfl) ?_
        refine lv_iconst (v := (-1)) hx hb dX9_yards_73 (by decide) ?_
        refine lv_icmp_eq (tgt := 84) hx hb dX9_yards_74 (by decide) (fun cc => ?_) (fun cc => ?_)
        · replace hm := ite_p cc hm
          refine lv_iload hx hb dX9_yards_84 (lv_at hl 0 rfl) ?_
          refine lv_goto (tgt := 91) hx hb dX9_yards_86 (by decide) ?_
          refine lv_istore (lv' := [(4, .int v9), (6, .int v9), (0, .ref β), (1, .int q1), (2, .int q2), (3, .int q3), (5, .int u5)]) hx hb dX9_yards_91 hl (by decide) rfl (fun ls hl => ?_)
          obtain ⟨v13, ev, hm⟩ := lt_e hm
          refine lv_iinc (v := v13) (lv' := [(5, .int v13), (4, .int v9), (6, .int v9), (0, .ref β), (1, .int q1), (2, .int q2), (3, .int q3)]) hx hb dX9_yards_93 hl (k := 6) rfl (by rw [ev]; rfl) (by decide) rfl (fun ls hl => ?_)
          clear ev
          refine lv_goto (tgt := 33) hx hb dX9_yards_96 (by decide) ?_
          exact ih _ _ _ _ _ _ hm hw hS (lv_sub hl [3, 4, 5, 6, 1, 0] rfl) ke
        · replace hm := ite_n cc hm
          refine lv_iload hx hb dX9_yards_77 (lv_at hl 0 rfl) ?_
          refine lv_iload hx hb dX9_yards_79 (lv_at hl 5 rfl) ?_
          refine lv_icmp_ge (tgt := 89) hx hb dX9_yards_81 (by decide) (fun cc => ?_) (fun cc => ?_)
          · replace hm := ite_p cc hm
            refine lv_iload hx hb dX9_yards_89 (lv_at hl 5 rfl) ?_
            refine lv_istore (lv' := [(4, .int u4), (6, .int v9), (0, .ref β), (1, .int q1), (2, .int q2), (3, .int q3), (5, .int u5)]) hx hb dX9_yards_91 hl (by decide) rfl (fun ls hl => ?_)
            obtain ⟨v14, ev, hm⟩ := lt_e hm
            refine lv_iinc (v := v14) (lv' := [(5, .int v14), (4, .int u4), (6, .int v9), (0, .ref β), (1, .int q1), (2, .int q2), (3, .int q3)]) hx hb dX9_yards_93 hl (k := 6) rfl (by rw [ev]; rfl) (by decide) rfl (fun ls hl => ?_)
            clear ev
            refine lv_goto (tgt := 33) hx hb dX9_yards_96 (by decide) ?_
            exact ih _ _ _ _ _ _ hm hw hS (lv_sub hl [3, 4, 5, 6, 1, 0] rfl) ke
          · replace hm := ite_n cc hm
            refine lv_iload hx hb dX9_yards_84 (lv_at hl 0 rfl) ?_
            refine lv_goto (tgt := 91) hx hb dX9_yards_86 (by decide) ?_
            refine lv_istore (lv' := [(4, .int v9), (6, .int v9), (0, .ref β), (1, .int q1), (2, .int q2), (3, .int q3), (5, .int u5)]) hx hb dX9_yards_91 hl (by decide) rfl (fun ls hl => ?_)
            obtain ⟨v15, ev, hm⟩ := lt_e hm
            refine lv_iinc (v := v15) (lv' := [(5, .int v15), (4, .int v9), (6, .int v9), (0, .ref β), (1, .int q1), (2, .int q2), (3, .int q3)]) hx hb dX9_yards_93 hl (k := 6) rfl (by rw [ev]; rfl) (by decide) rfl (fun ls hl => ?_)
            clear ev
            refine lv_goto (tgt := 33) hx hb dX9_yards_96 (by decide) ?_
            exact ih _ _ _ _ _ _ hm hw hS (lv_sub hl [3, 4, 5, 6, 1, 0] rfl) ke
abbrev rmX9_yards : Room := { frames := 3, cells := 0, slots := 0, locals := 68 }
set_option maxHeartbeats 4000000 in
set_option maxRecDepth 100000 in
theorem kX9_yards {l : Launch} {G : xG} {β N : Nat} {x : MS} {a1 : Int32} {a2 : Int32} {a3 : Int32} {r : Int32} (hm : fX9_yards x a1 a2 a3 = some r) : Met l yX9_yards (.code yX9_yards cX9_yards 7 (some .int) :: GT) rmX9_yards (PcW [.ref β, .int a1, .int a2, .int a3] (MW β G N x) (KK G)) (QcW (AM β) (some (.int r)) (MW β G N x)) 0 0 (AM β) := by
  unfold fX9_yards at hm
  refine xpro (own := RX9) (by decide +kernel) rfl (Nat.le_of_ble_eq_true rfl) ?_
  intro p e s m args below meth c C hw ls hl
  have hx := C.1
  have hb := C.2.1
  have ho := C.2.2.2.1
  have hts := C.2.2.2.2.1
  have hS : va_S (AM β) s.heap s.heap [] := va_S.rf
  have hl : lv_has ls 7 [(0, .ref β), (1, .int a1), (2, .int a2), (3, .int a3)] := hl
  have hRf : 3 ≤ rmX9_yards.frames := Nat.le_refl _
  have hRl : 68 ≤ rmX9_yards.locals := Nat.le_refl _
  have hcs : 0 ≤ rmX9_yards.cells ∧ 0 ≤ rmX9_yards.slots := ⟨Nat.le_refl _, Nat.le_refl _⟩
  refine lv_aload_n hx hb dX9_yards_0 rfl (lv_at hl 0 rfl) ?_
  refine lv_iload_n hx hb dX9_yards_1 rfl (lv_at hl 1 rfl) ?_
  obtain ⟨v1, h2, hm⟩ := bind_e hm
  refine sX9_222 C h2 hw hS hl.1 (Nat.le_of_ble_eq_true rfl) (Nat.le_trans (Nat.le_of_ble_eq_true rfl) hRf) (Nat.le_trans (Nat.le_of_ble_eq_true rfl) hRl) hcs dX9_yards_2 (fun H locs hw hS => ?_)
  refine x_ifeqB hx hb dX9_yards_5 (tgt := 24) (by decide) (fun cc => ?_) (fun cc => ?_)
  · replace hm := ite_n cc hm
    refine lv_bipush (v := (-2)) hx hb dX9_yards_24 (by decide) ?_
    obtain rfl := Option.some.inj hm
    exact xret_i C hw hS dX9_yards_26
  · replace hm := ite_p cc hm
    refine lv_iload_n hx hb dX9_yards_8 rfl (lv_at hl 2 rfl) ?_
    obtain ⟨v3, h4, hm⟩ := bind_e hm
    refine sX9_160 C h4 hw hS hl.1 (Nat.le_of_ble_eq_true rfl) (Nat.le_trans (Nat.le_of_ble_eq_true rfl) hRf) (Nat.le_trans (Nat.le_of_ble_eq_true rfl) hRl) hcs dX9_yards_9 (fun H locs hw hS => ?_)
    refine x_ifeqB hx hb dX9_yards_12 (tgt := 24) (by decide) (fun cc => ?_) (fun cc => ?_)
    · replace hm := ite_n cc hm
      refine lv_bipush (v := (-2)) hx hb dX9_yards_24 (by decide) ?_
      obtain rfl := Option.some.inj hm
      exact xret_i C hw hS dX9_yards_26
    · replace hm := ite_p cc hm
      refine lv_aload_n hx hb dX9_yards_15 rfl (lv_at hl 0 rfl) ?_
      refine lv_iload_n hx hb dX9_yards_16 rfl (lv_at hl 1 rfl) ?_
      refine lv_iload_n hx hb dX9_yards_17 rfl (lv_at hl 3 rfl) ?_
      obtain ⟨v5, h6, hm⟩ := bind_e hm
      refine sX9_196 C h6 hw hS hl.1 (Nat.le_of_ble_eq_true rfl) (Nat.le_trans (Nat.le_of_ble_eq_true rfl) hRf) (Nat.le_trans (Nat.le_of_ble_eq_true rfl) hRl) hcs dX9_yards_18 (fun H locs hw hS => ?_)
      refine x_ifneB hx hb dX9_yards_21 (tgt := 27) (by decide) (fun cc => ?_) (fun cc => ?_)
      · replace hm := ite_p cc hm
        refine lv_iconst (v := (-1)) hx hb dX9_yards_27 (by decide) ?_
        refine lv_istore (lv' := [(4, .int (-1)), (0, .ref β), (1, .int a1), (2, .int a2), (3, .int a3)]) hx hb dX9_yards_28 hl (by decide) rfl (fun ls hl => ?_)
        refine lv_iconst (v := 0) hx hb dX9_yards_30 (by decide) ?_
        refine lv_istore (lv' := [(5, .int 0), (4, .int (-1)), (0, .ref β), (1, .int a1), (2, .int a2), (3, .int a3)]) hx hb dX9_yards_31 hl (by decide) rfl (fun ls hl => ?_)
        obtain ⟨v16, hj, hm⟩ := bind_e hm
        refine lX9_yards_33 C hRf hRl hcs x a1 a2 a3 NF _ _ _ _ _ _ hj hw hS (lv_sub hl [2, 3, 4, 5, 1, 0] rfl) (fun v16_ e0 H locs ls hw hS hl => ?_)
        cases e0
        refine lv_iconst (v := 3) hx hb dX9_yards_99 (by decide) ?_
        refine lv_aload_n hx hb dX9_yards_100 rfl (lv_at hl 0 rfl) ?_
        refine gX9_38 C hw dX9_yards_101 ?_
        refine lv_iload_n hx hb dX9_yards_104 rfl (lv_at hl 2 rfl) ?_
        obtain ⟨h17, hm⟩ := chk_e hm
        refine alM_9 C hw h17 dX9_yards_105 ?_
        refine lv_aload_n hx hb dX9_yards_106 rfl (lv_at hl 0 rfl) ?_
        refine gX9_41 C hw dX9_yards_107 ?_
        refine lv_iload_n hx hb dX9_yards_110 rfl (lv_at hl 1 rfl) ?_
        obtain ⟨h18, hm⟩ := chk_e hm
        refine alM_10 C hw h18 dX9_yards_111 ?_
        refine lv_imul hx hb dX9_yards_112 ?_
        refine lv_bipush (v := 10) hx hb dX9_yards_113 (by decide) ?_
        refine lv_idiv hx hb dX9_yards_115 (by decide) ?_
        refine lv_iload hx hb dX9_yards_116 (lv_at hl 3 rfl) ?_
        refine lv_isub hx hb dX9_yards_118 ?_
        refine lv_imul hx hb dX9_yards_119 ?_
        obtain rfl := Option.some.inj hm
        exact xret_i C hw hS dX9_yards_120
      · replace hm := ite_n cc hm
        refine lv_bipush (v := (-2)) hx hb dX9_yards_24 (by decide) ?_
        obtain rfl := Option.some.inj hm
        exact xret_i C hw hS dX9_yards_26
theorem dX9_placeBy_0 : decode cX9_placeBy 0 = .ok (.iconst 0, 1) := by decide +kernel
theorem dX9_placeBy_1 : decode cX9_placeBy 1 = .ok (.istore_n 3, 1) := by decide +kernel
theorem dX9_placeBy_2 : decode cX9_placeBy 2 = .ok (.iconst 0, 1) := by decide +kernel
theorem dX9_placeBy_3 : decode cX9_placeBy 3 = .ok (.istore 4, 2) := by decide +kernel
theorem dX9_placeBy_5 : decode cX9_placeBy 5 = .ok (.iload 4, 2) := by decide +kernel
theorem dX9_placeBy_7 : decode cX9_placeBy 7 = .ok (.aload_n 0, 1) := by decide +kernel
theorem dX9_placeBy_8 : decode cX9_placeBy 8 = .ok (.getfield 129, 3) := by decide +kernel
theorem dX9_placeBy_11 : decode cX9_placeBy 11 = .ok (.if_icmp .ge 65, 3) := by decide +kernel
theorem dX9_placeBy_14 : decode cX9_placeBy 14 = .ok (.iload_n 3, 1) := by decide +kernel
theorem dX9_placeBy_15 : decode cX9_placeBy 15 = .ok (.aload_n 0, 1) := by decide +kernel
theorem dX9_placeBy_16 : decode cX9_placeBy 16 = .ok (.iload_n 1, 1) := by decide +kernel
theorem dX9_placeBy_17 : decode cX9_placeBy 17 = .ok (.iload 4, 2) := by decide +kernel
theorem dX9_placeBy_19 : decode cX9_placeBy 19 = .ok (.invokevirtual 196, 3) := by decide +kernel
theorem dX9_placeBy_22 : decode cX9_placeBy 22 = .ok (.ifCond .eq 45, 3) := by decide +kernel
theorem dX9_placeBy_25 : decode cX9_placeBy 25 = .ok (.aload_n 0, 1) := by decide +kernel
theorem dX9_placeBy_26 : decode cX9_placeBy 26 = .ok (.getfield 72, 3) := by decide +kernel
theorem dX9_placeBy_29 : decode cX9_placeBy 29 = .ok (.iload 4, 2) := by decide +kernel
theorem dX9_placeBy_31 : decode cX9_placeBy 31 = .ok (.iaload, 1) := by decide +kernel
theorem dX9_placeBy_32 : decode cX9_placeBy 32 = .ok (.aload_n 0, 1) := by decide +kernel
theorem dX9_placeBy_33 : decode cX9_placeBy 33 = .ok (.getfield 72, 3) := by decide +kernel
theorem dX9_placeBy_36 : decode cX9_placeBy 36 = .ok (.iload_n 2, 1) := by decide +kernel
theorem dX9_placeBy_37 : decode cX9_placeBy 37 = .ok (.iaload, 1) := by decide +kernel
theorem dX9_placeBy_38 : decode cX9_placeBy 38 = .ok (.if_icmp .gt 25, 3) := by decide +kernel
theorem dX9_placeBy_41 : decode cX9_placeBy 41 = .ok (.aload_n 0, 1) := by decide +kernel
theorem dX9_placeBy_42 : decode cX9_placeBy 42 = .ok (.getfield 72, 3) := by decide +kernel
theorem dX9_placeBy_45 : decode cX9_placeBy 45 = .ok (.iload 4, 2) := by decide +kernel
theorem dX9_placeBy_47 : decode cX9_placeBy 47 = .ok (.iaload, 1) := by decide +kernel
theorem dX9_placeBy_48 : decode cX9_placeBy 48 = .ok (.aload_n 0, 1) := by decide +kernel
theorem dX9_placeBy_49 : decode cX9_placeBy 49 = .ok (.getfield 72, 3) := by decide +kernel
theorem dX9_placeBy_52 : decode cX9_placeBy 52 = .ok (.iload_n 2, 1) := by decide +kernel
theorem dX9_placeBy_53 : decode cX9_placeBy 53 = .ok (.iaload, 1) := by decide +kernel
theorem dX9_placeBy_54 : decode cX9_placeBy 54 = .ok (.if_icmp .ne 13, 3) := by decide +kernel
theorem dX9_placeBy_57 : decode cX9_placeBy 57 = .ok (.iload 4, 2) := by decide +kernel
theorem dX9_placeBy_59 : decode cX9_placeBy 59 = .ok (.iload_n 2, 1) := by decide +kernel
theorem dX9_placeBy_60 : decode cX9_placeBy 60 = .ok (.if_icmp .ge 7, 3) := by decide +kernel
theorem dX9_placeBy_63 : decode cX9_placeBy 63 = .ok (.iconst 1, 1) := by decide +kernel
theorem dX9_placeBy_64 : decode cX9_placeBy 64 = .ok (.goto 4, 3) := by decide +kernel
theorem dX9_placeBy_67 : decode cX9_placeBy 67 = .ok (.iconst 0, 1) := by decide +kernel
theorem dX9_placeBy_68 : decode cX9_placeBy 68 = .ok (.iadd, 1) := by decide +kernel
theorem dX9_placeBy_69 : decode cX9_placeBy 69 = .ok (.istore_n 3, 1) := by decide +kernel
theorem dX9_placeBy_70 : decode cX9_placeBy 70 = .ok (.iinc 4 1, 3) := by decide +kernel
theorem dX9_placeBy_73 : decode cX9_placeBy 73 = .ok (.goto (-68), 3) := by decide +kernel
theorem dX9_placeBy_76 : decode cX9_placeBy 76 = .ok (.iload_n 3, 1) := by decide +kernel
theorem dX9_placeBy_77 : decode cX9_placeBy 77 = .ok (.ireturn, 1) := by decide +kernel
theorem gX9_72 {p : Program} {l : Launch} {e : Env} {R : Room} {s : State} {m : MethodId} {args : Array Value} {below : List Frame} {meth : Method} {c : Code} {H : Heap} {locs : List Loc} {cells slots : Nat} {Q : State → Prop} {cc : ByteArray} {pc nL : Nat} {ls : Array Slot} {rest : List Value} {ret : Option FieldType} {G : xG} {β N : Nat} {x : MS} (C : Cx p s m args meth c RX9 cc nL ret (KK G)) (hw : MW β G N x H) (hd : decode cc pc = .ok (.getfield 72, 3)) (kk : W p l e R s m args below meth c H locs cells slots Q (F0 m (pc + 3) ls (.ref (β + 20) :: rest))) : W p l e R s m args below meth c H locs cells slots Q (F0 m pc ls (.ref β :: rest)) :=
  va_get C.1 C.2.1 C.2.2.2.2.1 iwX9 C.2.2.2.1 C.K.1 (xP1 (hw.2 0 (by decide))) 0 rfl rfl 42 (by decide) (C.2.2.2.2.1 (.fieldLink RX9 72 RX9 "runs" "[I") (tg 958 (by decide +kernel) rfl)) (fun _ h9 => h9) rfl hd kk
theorem alM_20 {p : Program} {l : Launch} {e : Env} {R : Room} {s : State} {m : MethodId} {args : Array Value} {below : List Frame} {meth : Method} {c : Code} {H : Heap} {locs : List Loc} {cells slots : Nat} {Q : State → Prop} {cc : ByteArray} {pc nL : Nat} {ls : Array Slot} {rest : List Value} {ret : Option FieldType} {G : xG} {β N : Nat} {x : MS} {own : String} {i : Int32} (C : Cx p s m args meth c own cc nL ret (KK G)) (hw : MW β G N x H) (hin : ib i 10) (hd : decode cc pc = .ok (.iaload, 1)) (kk : W p l e R s m args below meth c H locs cells slots Q (F0 m (pc + 1) ls (.int (x.2.1 20 i.toNatClampNeg) :: rest))) : W p l e R s m args below meth c H locs cells slots Q (F0 m pc ls (.int i :: .ref (β + 20) :: rest)) :=
  va_iald C.1 C.2.1 C.K.1 (xP1 (hw.2 20 (by decide))) 0 0 rfl rfl hin hd kk
def BX9_placeBy_5 (x : MS) (q1 : Int32) (q2 : Int32) (lp : Int32 → Int32 → Option (Int32)) (u3 : Int32) (u4 : Int32) : Option (Int32) := if (x.1 0 13) ≤ u4 then some u3 else Option.bind (fX9_isOf x q1 u4) fun v1 => if v1 = true then if ib u4 10 then if ib q2 10 then if (x.2.1 20 q2.toNatClampNeg) < (x.2.1 20 u4.toNatClampNeg) then lt (u3 + 1) fun v7 => lt (u4 + 1) fun v8 => lp v7 v8 else if ib u4 10 then if ib q2 10 then if (x.2.1 20 u4.toNatClampNeg) = (x.2.1 20 q2.toNatClampNeg) then if q2 ≤ u4 then lt (u3 + 0) fun v13 => lt (u4 + 1) fun v14 => lp v13 v14 else lt (u3 + 1) fun v15 => lt (u4 + 1) fun v16 => lp v15 v16 else lt (u3 + 0) fun v11 => lt (u4 + 1) fun v12 => lp v11 v12 else none else none else none else none else lt (u3 + 0) fun v3 => lt (u4 + 1) fun v4 => lp v3 v4
def LX9_placeBy_5 (x : MS) (q1 : Int32) (q2 : Int32) : Nat → Int32 → Int32 → Option (Int32)
  | 0, _, _ => none
  | n + 1, u3, u4 => BX9_placeBy_5 x q1 q2 (LX9_placeBy_5 x q1 q2 n) u3 u4
def fX9_placeBy (x : MS) (a1 : Int32) (a2 : Int32) : Option (Int32) := Option.bind (LX9_placeBy_5 x a1 a2 NF 0 0) fun v17 => some v17
set_option maxHeartbeats 4000000 in
set_option maxRecDepth 100000 in
theorem lX9_placeBy_5 {p : Program} {l : Launch} {e : Env} {R : Room} {s : State} {m : MethodId} {args : Array Value} {below : List Frame} {meth : Method} {c : Code} {cells slots : Nat} {Q : State → Prop} {G : xG} {β N : Nat} (C : Cx p s m args meth c RX9 cX9_placeBy 5 (some .int) (KK G)) (hRf : 3 ≤ R.frames) (hRl : 68 ≤ R.locals) (hcs : cells ≤ R.cells ∧ slots ≤ R.slots) (x : MS) (q1 : Int32) (q2 : Int32) : ∀ (n : Nat) (u3 : Int32) (u4 : Int32) (J : Int32) (H : Heap) (locs : List Loc) (ls : Array Slot), LX9_placeBy_5 x q1 q2 n u3 u4 = some J → MW β G N x H → va_S (AM β) s.heap H locs → lv_has ls 5 [(0, .ref β), (1, .int q1), (2, .int q2), (3, .int u3), (4, .int u4)] → (∀ (w3 : Int32), J = w3 → ∀ (H : Heap) (locs : List Loc) (ls : Array Slot), MW β G N x H → va_S (AM β) s.heap H locs → lv_has ls 5 [(3, .int w3)] → W p l e R s m args below meth c H locs cells slots Q (F0 m 76 ls [])) → W p l e R s m args below meth c H locs cells slots Q (F0 m 5 ls []) := by
  have hx := C.1
  have hb := C.2.1
  have ho := C.2.2.2.1
  have hts := C.2.2.2.2.1
  intro n
  induction n with
  | zero =>
    intro u3 u4 J H locs ls hm
    exact absurd hm (by simp [LX9_placeBy_5])
  | succ n ih =>
    intro u3 u4 J H locs ls hm hw hS hl ke
    replace hm : BX9_placeBy_5 x q1 q2 (LX9_placeBy_5 x q1 q2 n) u3 u4 = some J := hm
    unfold BX9_placeBy_5 at hm
    refine lv_iload hx hb dX9_placeBy_5 (lv_at hl 4 rfl) ?_
    refine lv_aload_n hx hb dX9_placeBy_7 rfl (lv_at hl 0 rfl) ?_
    refine gX9_129 C hw dX9_placeBy_8 ?_
    refine lv_icmp_ge (tgt := 76) hx hb dX9_placeBy_11 (by decide) (fun cc => ?_) (fun cc => ?_)
    · replace hm := ite_p cc hm
      exact ke _ (Option.some.inj hm).symm _ _ _ hw hS (lv_sub hl [3] rfl)
    · replace hm := ite_n cc hm
      refine lv_iload_n hx hb dX9_placeBy_14 rfl (lv_at hl 3 rfl) ?_
      refine lv_aload_n hx hb dX9_placeBy_15 rfl (lv_at hl 0 rfl) ?_
      refine lv_iload_n hx hb dX9_placeBy_16 rfl (lv_at hl 1 rfl) ?_
      refine lv_iload hx hb dX9_placeBy_17 (lv_at hl 4 rfl) ?_
      obtain ⟨v1, h2, hm⟩ := bind_e hm
      refine sX9_196 C h2 hw hS hl.1 (Nat.le_of_ble_eq_true rfl) (Nat.le_trans (Nat.le_of_ble_eq_true rfl) hRf) (Nat.le_trans (Nat.le_of_ble_eq_true rfl) hRl) hcs dX9_placeBy_19 (fun H locs hw hS => ?_)
      refine x_ifeqB hx hb dX9_placeBy_22 (tgt := 67) (by decide) (fun cc => ?_) (fun cc => ?_)
      · replace hm := ite_n cc hm
        refine lv_iconst (v := 0) hx hb dX9_placeBy_67 (by decide) ?_
        refine lv_iadd hx hb dX9_placeBy_68 ?_
        refine topI hm (fun v3 hm => ?_)
        refine lv_istore_n (lv' := [(3, .int v3), (0, .ref β), (1, .int q1), (2, .int q2), (4, .int u4)]) hx hb dX9_placeBy_69 rfl hl (by decide) rfl (fun ls hl => ?_)
        obtain ⟨v4, ev, hm⟩ := lt_e hm
        refine lv_iinc (v := v4) (lv' := [(4, .int v4), (3, .int v3), (0, .ref β), (1, .int q1), (2, .int q2)]) hx hb dX9_placeBy_70 hl (k := 4) rfl (by rw [ev]; rfl) (by decide) rfl (fun ls hl => ?_)
        clear ev
        refine lv_goto (tgt := 5) hx hb dX9_placeBy_73 (by decide) ?_
        exact ih _ _ _ _ _ _ hm hw hS (lv_sub hl [2, 3, 4, 1, 0] rfl) ke
      · replace hm := ite_p cc hm
        refine lv_aload_n hx hb dX9_placeBy_25 rfl (lv_at hl 0 rfl) ?_
        refine gX9_72 C hw dX9_placeBy_26 ?_
        refine lv_iload hx hb dX9_placeBy_29 (lv_at hl 4 rfl) ?_
        obtain ⟨h5, hm⟩ := chk_e hm
        refine alM_20 C hw h5 dX9_placeBy_31 ?_
        refine lv_aload_n hx hb dX9_placeBy_32 rfl (lv_at hl 0 rfl) ?_
        refine gX9_72 C hw dX9_placeBy_33 ?_
        refine lv_iload_n hx hb dX9_placeBy_36 rfl (lv_at hl 2 rfl) ?_
        obtain ⟨h6, hm⟩ := chk_e hm
        refine alM_20 C hw h6 dX9_placeBy_37 ?_
        refine lv_icmp_gt (tgt := 63) hx hb dX9_placeBy_38 (by decide) (fun cc => ?_) (fun cc => ?_)
        · replace hm := ite_p cc hm
          refine lv_iconst (v := 1) hx hb dX9_placeBy_63 (by decide) ?_
          refine lv_goto (tgt := 68) hx hb dX9_placeBy_64 (by decide) ?_
          refine lv_iadd hx hb dX9_placeBy_68 ?_
          refine topI hm (fun v7 hm => ?_)
          refine lv_istore_n (lv' := [(3, .int v7), (0, .ref β), (1, .int q1), (2, .int q2), (4, .int u4)]) hx hb dX9_placeBy_69 rfl hl (by decide) rfl (fun ls hl => ?_)
          obtain ⟨v8, ev, hm⟩ := lt_e hm
          refine lv_iinc (v := v8) (lv' := [(4, .int v8), (3, .int v7), (0, .ref β), (1, .int q1), (2, .int q2)]) hx hb dX9_placeBy_70 hl (k := 4) rfl (by rw [ev]; rfl) (by decide) rfl (fun ls hl => ?_)
          clear ev
          refine lv_goto (tgt := 5) hx hb dX9_placeBy_73 (by decide) ?_
          exact ih _ _ _ _ _ _ hm hw hS (lv_sub hl [2, 3, 4, 1, 0] rfl) ke
        · replace hm := ite_n cc hm
          refine lv_aload_n hx hb dX9_placeBy_41 rfl (lv_at hl 0 rfl) ?_
          refine gX9_72 C hw dX9_placeBy_42 ?_
          refine lv_iload hx hb dX9_placeBy_45 (lv_at hl 4 rfl) ?_
          obtain ⟨h9, hm⟩ := chk_e hm
          refine alM_20 C hw h9 dX9_placeBy_47 ?_
          refine lv_aload_n hx hb dX9_placeBy_48 rfl (lv_at hl 0 rfl) ?_
          refine gX9_72 C hw dX9_placeBy_49 ?_
          refine lv_iload_n hx hb dX9_placeBy_52 rfl (lv_at hl 2 rfl) ?_
          obtain ⟨h10, hm⟩ := chk_e hm
          refine alM_20 C hw h10 dX9_placeBy_53 ?_
          refine lv_icmp_ne (tgt := 67) hx hb dX9_placeBy_54 (by decide) (fun cc => ?_) (fun cc => ?_)
          · replace hm := ite_n cc hm
            refine lv_iconst (v := 0) hx hb dX9_placeBy_67 (by decide) ?_
            refine lv_iadd hx hb dX9_placeBy_68 ?_
            refine topI hm (fun v11 hm => ?_)
            refine lv_istore_n (lv' := [(3, .int v11), (0, .ref β), (1, .int q1), (2, .int q2), (4, .int u4)]) hx hb dX9_placeBy_69 rfl hl (by decide) rfl (fun ls hl => ?_)
            obtain ⟨v12, ev, hm⟩ := lt_e hm
            refine lv_iinc (v := v12) (lv' := [(4, .int v12), (3, .int v11), (0, .ref β), (1, .int q1), (2, .int q2)]) hx hb dX9_placeBy_70 hl (k := 4) rfl (by rw [ev]; rfl) (by decide) rfl (fun ls hl => ?_)
            clear ev
            refine lv_goto (tgt := 5) hx hb dX9_placeBy_73 (by decide) ?_
            exact ih _ _ _ _ _ _ hm hw hS (lv_sub hl [2, 3, 4, 1, 0] rfl) ke
          · replace hm := ite_p cc hm
            refine lv_iload hx hb dX9_placeBy_57 (lv_at hl 4 rfl) ?_
            refine lv_iload_n hx hb dX9_placeBy_59 rfl (lv_at hl 2 rfl) ?_
            refine lv_icmp_ge (tgt := 67) hx hb dX9_placeBy_60 (by decide) (fun cc => ?_) (fun cc => ?_)
            · replace hm := ite_p cc hm
              refine lv_iconst (v := 0) hx hb dX9_placeBy_67 (by decide) ?_
              refine lv_iadd hx hb dX9_placeBy_68 ?_
              refine topI hm (fun v13 hm => ?_)
              refine lv_istore_n (lv' := [(3, .int v13), (0, .ref β), (1, .int q1), (2, .int q2), (4, .int u4)]) hx hb dX9_placeBy_69 rfl hl (by decide) rfl (fun ls hl => ?_)
              obtain ⟨v14, ev, hm⟩ := lt_e hm
              refine lv_iinc (v := v14) (lv' := [(4, .int v14), (3, .int v13), (0, .ref β), (1, .int q1), (2, .int q2)]) hx hb dX9_placeBy_70 hl (k := 4) rfl (by rw [ev]; rfl) (by decide) rfl (fun ls hl => ?_)
              clear ev
              refine lv_goto (tgt := 5) hx hb dX9_placeBy_73 (by decide) ?_
              exact ih _ _ _ _ _ _ hm hw hS (lv_sub hl [2, 3, 4, 1, 0] rfl) ke
            · replace hm := ite_n cc hm
              refine lv_iconst (v := 1) hx hb dX9_placeBy_63 (by decide) ?_
              refine lv_goto (tgt := 68) hx hb dX9_placeBy_64 (by decide) ?_
              refine lv_iadd hx hb dX9_placeBy_68 ?_
              refine topI hm (fun v15 hm => ?_)
              refine lv_istore_n (lv' := [(3, .int v15), (0, .ref β), (1, .int q1), (2, .int q2), (4, .int u4)]) hx hb dX9_placeBy_69 rfl hl (by decide) rfl (fun ls hl => ?_)
              obtain ⟨v16, ev, hm⟩ := lt_e hm
              refine lv_iinc (v := v16) (lv' := [(4, .int v16), (3, .int v15), (0, .ref β), (1, .int q1), (2, .int q2)]) hx hb dX9_placeBy_70 hl (k := 4) rfl (by rw [ev]; rfl) (by decide) rfl (fun ls hl => ?_)
              clear ev
              refine lv_goto (tgt := 5) hx hb dX9_placeBy_73 (by decide) ?_
              exact ih _ _ _ _ _ _ hm hw hS (lv_sub hl [2, 3, 4, 1, 0] rfl) ke
abbrev rmX9_placeBy : Room := { frames := 3, cells := 0, slots := 0, locals := 68 }
set_option maxHeartbeats 4000000 in
set_option maxRecDepth 100000 in
theorem kX9_placeBy {l : Launch} {G : xG} {β N : Nat} {x : MS} {a1 : Int32} {a2 : Int32} {r : Int32} (hm : fX9_placeBy x a1 a2 = some r) : Met l yX9_placeBy (.code yX9_placeBy cX9_placeBy 5 (some .int) :: GT) rmX9_placeBy (PcW [.ref β, .int a1, .int a2] (MW β G N x) (KK G)) (QcW (AM β) (some (.int r)) (MW β G N x)) 0 0 (AM β) := by
  unfold fX9_placeBy at hm
  refine xpro (own := RX9) (by decide +kernel) rfl (Nat.le_of_ble_eq_true rfl) ?_
  intro p e s m args below meth c C hw ls hl
  have hx := C.1
  have hb := C.2.1
  have ho := C.2.2.2.1
  have hts := C.2.2.2.2.1
  have hS : va_S (AM β) s.heap s.heap [] := va_S.rf
  have hl : lv_has ls 5 [(0, .ref β), (1, .int a1), (2, .int a2)] := hl
  have hRf : 3 ≤ rmX9_placeBy.frames := Nat.le_refl _
  have hRl : 68 ≤ rmX9_placeBy.locals := Nat.le_refl _
  have hcs : 0 ≤ rmX9_placeBy.cells ∧ 0 ≤ rmX9_placeBy.slots := ⟨Nat.le_refl _, Nat.le_refl _⟩
  refine lv_iconst (v := 0) hx hb dX9_placeBy_0 (by decide) ?_
  refine lv_istore_n (lv' := [(3, .int 0), (0, .ref β), (1, .int a1), (2, .int a2)]) hx hb dX9_placeBy_1 rfl hl (by decide) rfl (fun ls hl => ?_)
  refine lv_iconst (v := 0) hx hb dX9_placeBy_2 (by decide) ?_
  refine lv_istore (lv' := [(4, .int 0), (3, .int 0), (0, .ref β), (1, .int a1), (2, .int a2)]) hx hb dX9_placeBy_3 hl (by decide) rfl (fun ls hl => ?_)
  obtain ⟨v17, hj, hm⟩ := bind_e hm
  refine lX9_placeBy_5 C hRf hRl hcs x a1 a2 NF _ _ _ _ _ _ hj hw hS (lv_sub hl [2, 3, 4, 1, 0] rfl) (fun v17_ e0 H locs ls hw hS hl => ?_)
  cases e0
  refine lv_iload_n hx hb dX9_placeBy_76 rfl (lv_at hl 0 rfl) ?_
  obtain rfl := Option.some.inj hm
  exact xret_i C hw hS dX9_placeBy_77
theorem dX9_image_0 : decode cX9_image 0 = .ok (.aload_n 0, 1) := by decide +kernel
theorem dX9_image_1 : decode cX9_image 1 = .ok (.iconst 1, 1) := by decide +kernel
theorem dX9_image_2 : decode cX9_image 2 = .ok (.putfield 429, 3) := by decide +kernel
theorem dX9_image_5 : decode cX9_image 5 = .ok (.aload_n 0, 1) := by decide +kernel
theorem dX9_image_6 : decode cX9_image 6 = .ok (.aload_n 0, 1) := by decide +kernel
theorem dX9_image_7 : decode cX9_image 7 = .ok (.getfield 129, 3) := by decide +kernel
theorem dX9_image_10 : decode cX9_image 10 = .ok (.putfield 432, 3) := by decide +kernel
theorem dX9_image_13 : decode cX9_image 13 = .ok (.aload_n 0, 1) := by decide +kernel
theorem dX9_image_14 : decode cX9_image 14 = .ok (.aload_n 0, 1) := by decide +kernel
theorem dX9_image_15 : decode cX9_image 15 = .ok (.getfield 124, 3) := by decide +kernel
theorem dX9_image_18 : decode cX9_image 18 = .ok (.putfield 435, 3) := by decide +kernel
theorem dX9_image_21 : decode cX9_image 21 = .ok (.aload_n 0, 1) := by decide +kernel
theorem dX9_image_22 : decode cX9_image 22 = .ok (.aload_n 0, 1) := by decide +kernel
theorem dX9_image_23 : decode cX9_image 23 = .ok (.getfield 169, 3) := by decide +kernel
theorem dX9_image_26 : decode cX9_image 26 = .ok (.putfield 438, 3) := by decide +kernel
theorem dX9_image_29 : decode cX9_image 29 = .ok (.aload_n 0, 1) := by decide +kernel
theorem dX9_image_30 : decode cX9_image 30 = .ok (.aload_n 0, 1) := by decide +kernel
theorem dX9_image_31 : decode cX9_image 31 = .ok (.getfield 184, 3) := by decide +kernel
theorem dX9_image_34 : decode cX9_image 34 = .ok (.putfield 441, 3) := by decide +kernel
theorem dX9_image_37 : decode cX9_image 37 = .ok (.iconst 0, 1) := by decide +kernel
theorem dX9_image_38 : decode cX9_image 38 = .ok (.istore_n 1, 1) := by decide +kernel
theorem dX9_image_39 : decode cX9_image 39 = .ok (.iload_n 1, 1) := by decide +kernel
theorem dX9_image_40 : decode cX9_image 40 = .ok (.aload_n 0, 1) := by decide +kernel
theorem dX9_image_41 : decode cX9_image 41 = .ok (.getfield 129, 3) := by decide +kernel
theorem dX9_image_44 : decode cX9_image 44 = .ok (.if_icmp .ge 45, 3) := by decide +kernel
theorem dX9_image_47 : decode cX9_image 47 = .ok (.aload_n 0, 1) := by decide +kernel
theorem dX9_image_48 : decode cX9_image 48 = .ok (.getfield 78, 3) := by decide +kernel
theorem dX9_image_51 : decode cX9_image 51 = .ok (.iload_n 1, 1) := by decide +kernel
theorem dX9_image_52 : decode cX9_image 52 = .ok (.aload_n 0, 1) := by decide +kernel
theorem dX9_image_53 : decode cX9_image 53 = .ok (.getfield 26, 3) := by decide +kernel
theorem dX9_image_56 : decode cX9_image 56 = .ok (.iload_n 1, 1) := by decide +kernel
theorem dX9_image_57 : decode cX9_image 57 = .ok (.iaload, 1) := by decide +kernel
theorem dX9_image_58 : decode cX9_image 58 = .ok (.iastore, 1) := by decide +kernel
theorem dX9_image_59 : decode cX9_image 59 = .ok (.aload_n 0, 1) := by decide +kernel
theorem dX9_image_60 : decode cX9_image 60 = .ok (.getfield 81, 3) := by decide +kernel
theorem dX9_image_63 : decode cX9_image 63 = .ok (.iload_n 1, 1) := by decide +kernel
theorem dX9_image_64 : decode cX9_image 64 = .ok (.aload_n 0, 1) := by decide +kernel
theorem dX9_image_65 : decode cX9_image 65 = .ok (.getfield 29, 3) := by decide +kernel
theorem dX9_image_68 : decode cX9_image 68 = .ok (.iload_n 1, 1) := by decide +kernel
theorem dX9_image_69 : decode cX9_image 69 = .ok (.iaload, 1) := by decide +kernel
theorem dX9_image_70 : decode cX9_image 70 = .ok (.iastore, 1) := by decide +kernel
theorem dX9_image_71 : decode cX9_image 71 = .ok (.aload_n 0, 1) := by decide +kernel
theorem dX9_image_72 : decode cX9_image 72 = .ok (.getfield 84, 3) := by decide +kernel
theorem dX9_image_75 : decode cX9_image 75 = .ok (.iload_n 1, 1) := by decide +kernel
theorem dX9_image_76 : decode cX9_image 76 = .ok (.aload_n 0, 1) := by decide +kernel
theorem dX9_image_77 : decode cX9_image 77 = .ok (.getfield 38, 3) := by decide +kernel
theorem dX9_image_80 : decode cX9_image 80 = .ok (.iload_n 1, 1) := by decide +kernel
theorem dX9_image_81 : decode cX9_image 81 = .ok (.iaload, 1) := by decide +kernel
theorem dX9_image_82 : decode cX9_image 82 = .ok (.iastore, 1) := by decide +kernel
theorem dX9_image_83 : decode cX9_image 83 = .ok (.iinc 1 1, 3) := by decide +kernel
theorem dX9_image_86 : decode cX9_image 86 = .ok (.goto (-47), 3) := by decide +kernel
theorem dX9_image_89 : decode cX9_image 89 = .ok (.iconst 0, 1) := by decide +kernel
theorem dX9_image_90 : decode cX9_image 90 = .ok (.istore_n 1, 1) := by decide +kernel
theorem dX9_image_91 : decode cX9_image 91 = .ok (.iload_n 1, 1) := by decide +kernel
theorem dX9_image_92 : decode cX9_image 92 = .ok (.iconst 4, 1) := by decide +kernel
theorem dX9_image_93 : decode cX9_image 93 = .ok (.if_icmp .ge 21, 3) := by decide +kernel
theorem dX9_image_96 : decode cX9_image 96 = .ok (.aload_n 0, 1) := by decide +kernel
theorem dX9_image_97 : decode cX9_image 97 = .ok (.getfield 87, 3) := by decide +kernel
theorem dX9_image_100 : decode cX9_image 100 = .ok (.iload_n 1, 1) := by decide +kernel
theorem dX9_image_101 : decode cX9_image 101 = .ok (.aload_n 0, 1) := by decide +kernel
theorem dX9_image_102 : decode cX9_image 102 = .ok (.getfield 41, 3) := by decide +kernel
theorem dX9_image_105 : decode cX9_image 105 = .ok (.iload_n 1, 1) := by decide +kernel
theorem dX9_image_106 : decode cX9_image 106 = .ok (.iaload, 1) := by decide +kernel
theorem dX9_image_107 : decode cX9_image 107 = .ok (.iastore, 1) := by decide +kernel
theorem dX9_image_108 : decode cX9_image 108 = .ok (.iinc 1 1, 3) := by decide +kernel
theorem dX9_image_111 : decode cX9_image 111 = .ok (.goto (-20), 3) := by decide +kernel
theorem dX9_image_114 : decode cX9_image 114 = .ok (.aload_n 0, 1) := by decide +kernel
theorem dX9_image_115 : decode cX9_image 115 = .ok (.getfield 169, 3) := by decide +kernel
theorem dX9_image_118 : decode cX9_image 118 = .ok (.ireturn, 1) := by decide +kernel
theorem pX9_429 {p : Program} {l : Launch} {e : Env} {R : Room} {s : State} {m : MethodId} {args : Array Value} {below : List Frame} {meth : Method} {c : Code} {H : Heap} {locs : List Loc} {cells slots : Nat} {Q : State → Prop} {cc : ByteArray} {pc nL : Nat} {ls : Array Slot} {rest : List Value} {ret : Option FieldType} {G : xG} {β N : Nat} {x : MS} {b : Bool} (C : Cx p s m args meth c RX9 cc nL ret (KK G)) (hw : MW β G N x H) (hS : va_S (AM β) s.heap H locs) (hd : decode cc pc = .ok (.putfield 429, 3)) (kk : ∀ (H1 : Heap) (locs1 : List Loc), MW β G N (msS x 0 48 (bI b)) H1 → va_S (AM β) s.heap H1 locs1 → W p l e R s m args below meth c H1 locs1 cells slots Q (F0 m (pc + 3) ls (rest))) : W p l e R s m args below meth c H locs cells slots Q (F0 m pc ls (.int (bI b) :: .ref β :: rest)) :=
  x_put C.1 C.2.1 C.2.2.2.2.1 iwX9 tyX9 tyX9_ok nmX9 C.2.2.2.1 C.K.1 hS (hw.2 0 (by decide)) (AM.in (by decide)) rfl 48 (by decide) (C.2.2.2.2.1 (.fieldLink RX9 429 RX9 "hasImage" "Z") (tg 964 (by decide +kernel) rfl)) (fun _ h9 => h9) rfl (ty := .boolean) (by decide +kernel) (bI_nar b) (bI_fits b) (Nat.le_of_ble_eq_true rfl) hd (fun H1 locs1 hat ho hS => kk H1 locs1 (hw.setS 0 48 (bI b) hat ho) hS)
theorem pX9_432 {p : Program} {l : Launch} {e : Env} {R : Room} {s : State} {m : MethodId} {args : Array Value} {below : List Frame} {meth : Method} {c : Code} {H : Heap} {locs : List Loc} {cells slots : Nat} {Q : State → Prop} {cc : ByteArray} {pc nL : Nat} {ls : Array Slot} {rest : List Value} {ret : Option FieldType} {G : xG} {β N : Nat} {x : MS} {v : Int32} (C : Cx p s m args meth c RX9 cc nL ret (KK G)) (hw : MW β G N x H) (hS : va_S (AM β) s.heap H locs) (hd : decode cc pc = .ok (.putfield 432, 3)) (kk : ∀ (H1 : Heap) (locs1 : List Loc), MW β G N (msS x 0 49 v) H1 → va_S (AM β) s.heap H1 locs1 → W p l e R s m args below meth c H1 locs1 cells slots Q (F0 m (pc + 3) ls (rest))) : W p l e R s m args below meth c H locs cells slots Q (F0 m pc ls (.int v :: .ref β :: rest)) :=
  x_put C.1 C.2.1 C.2.2.2.2.1 iwX9 tyX9 tyX9_ok nmX9 C.2.2.2.1 C.K.1 hS (hw.2 0 (by decide)) (AM.in (by decide)) rfl 49 (by decide) (C.2.2.2.2.1 (.fieldLink RX9 432 RX9 "imageHorses" "I") (tg 965 (by decide +kernel) rfl)) (fun _ h9 => h9) rfl (ty := .int) (by decide +kernel) rfl rfl (Nat.le_of_ble_eq_true rfl) hd (fun H1 locs1 hat ho hS => kk H1 locs1 (hw.setS 0 49 v hat ho) hS)
theorem pX9_435 {p : Program} {l : Launch} {e : Env} {R : Room} {s : State} {m : MethodId} {args : Array Value} {below : List Frame} {meth : Method} {c : Code} {H : Heap} {locs : List Loc} {cells slots : Nat} {Q : State → Prop} {cc : ByteArray} {pc nL : Nat} {ls : Array Slot} {rest : List Value} {ret : Option FieldType} {G : xG} {β N : Nat} {x : MS} {v : Int32} (C : Cx p s m args meth c RX9 cc nL ret (KK G)) (hw : MW β G N x H) (hS : va_S (AM β) s.heap H locs) (hd : decode cc pc = .ok (.putfield 435, 3)) (kk : ∀ (H1 : Heap) (locs1 : List Loc), MW β G N (msS x 0 50 v) H1 → va_S (AM β) s.heap H1 locs1 → W p l e R s m args below meth c H1 locs1 cells slots Q (F0 m (pc + 3) ls (rest))) : W p l e R s m args below meth c H locs cells slots Q (F0 m pc ls (.int v :: .ref β :: rest)) :=
  x_put C.1 C.2.1 C.2.2.2.2.1 iwX9 tyX9 tyX9_ok nmX9 C.2.2.2.1 C.K.1 hS (hw.2 0 (by decide)) (AM.in (by decide)) rfl 50 (by decide) (C.2.2.2.2.1 (.fieldLink RX9 435 RX9 "imageSpread" "I") (tg 966 (by decide +kernel) rfl)) (fun _ h9 => h9) rfl (ty := .int) (by decide +kernel) rfl rfl (Nat.le_of_ble_eq_true rfl) hd (fun H1 locs1 hat ho hS => kk H1 locs1 (hw.setS 0 50 v hat ho) hS)
theorem pX9_438 {p : Program} {l : Launch} {e : Env} {R : Room} {s : State} {m : MethodId} {args : Array Value} {below : List Frame} {meth : Method} {c : Code} {H : Heap} {locs : List Loc} {cells slots : Nat} {Q : State → Prop} {cc : ByteArray} {pc nL : Nat} {ls : Array Slot} {rest : List Value} {ret : Option FieldType} {G : xG} {β N : Nat} {x : MS} {v : Int32} (C : Cx p s m args meth c RX9 cc nL ret (KK G)) (hw : MW β G N x H) (hS : va_S (AM β) s.heap H locs) (hd : decode cc pc = .ok (.putfield 438, 3)) (kk : ∀ (H1 : Heap) (locs1 : List Loc), MW β G N (msS x 0 51 v) H1 → va_S (AM β) s.heap H1 locs1 → W p l e R s m args below meth c H1 locs1 cells slots Q (F0 m (pc + 3) ls (rest))) : W p l e R s m args below meth c H locs cells slots Q (F0 m pc ls (.int v :: .ref β :: rest)) :=
  x_put C.1 C.2.1 C.2.2.2.2.1 iwX9 tyX9 tyX9_ok nmX9 C.2.2.2.1 C.K.1 hS (hw.2 0 (by decide)) (AM.in (by decide)) rfl 51 (by decide) (C.2.2.2.2.1 (.fieldLink RX9 438 RX9 "imageRaces" "I") (tg 967 (by decide +kernel) rfl)) (fun _ h9 => h9) rfl (ty := .int) (by decide +kernel) rfl rfl (Nat.le_of_ble_eq_true rfl) hd (fun H1 locs1 hat ho hS => kk H1 locs1 (hw.setS 0 51 v hat ho) hS)
theorem pX9_441 {p : Program} {l : Launch} {e : Env} {R : Room} {s : State} {m : MethodId} {args : Array Value} {below : List Frame} {meth : Method} {c : Code} {H : Heap} {locs : List Loc} {cells slots : Nat} {Q : State → Prop} {cc : ByteArray} {pc nL : Nat} {ls : Array Slot} {rest : List Value} {ret : Option FieldType} {G : xG} {β N : Nat} {x : MS} {v : Int32} (C : Cx p s m args meth c RX9 cc nL ret (KK G)) (hw : MW β G N x H) (hS : va_S (AM β) s.heap H locs) (hd : decode cc pc = .ok (.putfield 441, 3)) (kk : ∀ (H1 : Heap) (locs1 : List Loc), MW β G N (msS x 0 52 v) H1 → va_S (AM β) s.heap H1 locs1 → W p l e R s m args below meth c H1 locs1 cells slots Q (F0 m (pc + 3) ls (rest))) : W p l e R s m args below meth c H locs cells slots Q (F0 m pc ls (.int v :: .ref β :: rest)) :=
  x_put C.1 C.2.1 C.2.2.2.2.1 iwX9 tyX9 tyX9_ok nmX9 C.2.2.2.1 C.K.1 hS (hw.2 0 (by decide)) (AM.in (by decide)) rfl 52 (by decide) (C.2.2.2.2.1 (.fieldLink RX9 441 RX9 "imageRule" "I") (tg 968 (by decide +kernel) rfl)) (fun _ h9 => h9) rfl (ty := .int) (by decide +kernel) rfl rfl (Nat.le_of_ble_eq_true rfl) hd (fun H1 locs1 hat ho hS => kk H1 locs1 (hw.setS 0 52 v hat ho) hS)
theorem gX9_78 {p : Program} {l : Launch} {e : Env} {R : Room} {s : State} {m : MethodId} {args : Array Value} {below : List Frame} {meth : Method} {c : Code} {H : Heap} {locs : List Loc} {cells slots : Nat} {Q : State → Prop} {cc : ByteArray} {pc nL : Nat} {ls : Array Slot} {rest : List Value} {ret : Option FieldType} {G : xG} {β N : Nat} {x : MS} (C : Cx p s m args meth c RX9 cc nL ret (KK G)) (hw : MW β G N x H) (hd : decode cc pc = .ok (.getfield 78, 3)) (kk : W p l e R s m args below meth c H locs cells slots Q (F0 m (pc + 3) ls (.ref (β + 22) :: rest))) : W p l e R s m args below meth c H locs cells slots Q (F0 m pc ls (.ref β :: rest)) :=
  va_get C.1 C.2.1 C.2.2.2.2.1 iwX9 C.2.2.2.1 C.K.1 (xP1 (hw.2 0 (by decide))) 0 rfl rfl 44 (by decide) (C.2.2.2.2.1 (.fieldLink RX9 78 RX9 "imageStrength" "[I") (tg 960 (by decide +kernel) rfl)) (fun _ h9 => h9) rfl hd kk
theorem asM_22 {p : Program} {l : Launch} {e : Env} {R : Room} {s : State} {m : MethodId} {args : Array Value} {below : List Frame} {meth : Method} {c : Code} {H : Heap} {locs : List Loc} {cells slots : Nat} {Q : State → Prop} {cc : ByteArray} {pc nL : Nat} {ls : Array Slot} {rest : List Value} {ret : Option FieldType} {G : xG} {β N : Nat} {x : MS} {own : String} {i : Int32} {v : Int32} (C : Cx p s m args meth c own cc nL ret (KK G)) (hw : MW β G N x H) (hS : va_S (AM β) s.heap H locs) (hin : ib i 10) (hd : decode cc pc = .ok (.iastore, 1)) (kk : ∀ (H1 : Heap) (locs1 : List Loc), MW β G N (msA x 22 i.toNatClampNeg v) H1 → va_S (AM β) s.heap H1 locs1 → W p l e R s m args below meth c H1 locs1 cells slots Q (F0 m (pc + 1) ls (rest))) : W p l e R s m args below meth c H locs cells slots Q (F0 m pc ls (.int v :: .int i :: .ref (β + 22) :: rest)) :=
  x_iast C.1 C.2.1 C.K.1 hS 0 (hw.2 22 (by decide)) (AM.in (by decide)) rfl hin hd (fun H1 locs1 hat ho hS => kk H1 locs1 (hw.setA 22 _ _ hat ho) hS)
theorem gX9_81 {p : Program} {l : Launch} {e : Env} {R : Room} {s : State} {m : MethodId} {args : Array Value} {below : List Frame} {meth : Method} {c : Code} {H : Heap} {locs : List Loc} {cells slots : Nat} {Q : State → Prop} {cc : ByteArray} {pc nL : Nat} {ls : Array Slot} {rest : List Value} {ret : Option FieldType} {G : xG} {β N : Nat} {x : MS} (C : Cx p s m args meth c RX9 cc nL ret (KK G)) (hw : MW β G N x H) (hd : decode cc pc = .ok (.getfield 81, 3)) (kk : W p l e R s m args below meth c H locs cells slots Q (F0 m (pc + 3) ls (.ref (β + 23) :: rest))) : W p l e R s m args below meth c H locs cells slots Q (F0 m pc ls (.ref β :: rest)) :=
  va_get C.1 C.2.1 C.2.2.2.2.1 iwX9 C.2.2.2.1 C.K.1 (xP1 (hw.2 0 (by decide))) 0 rfl rfl 45 (by decide) (C.2.2.2.2.1 (.fieldLink RX9 81 RX9 "imageAge" "[I") (tg 961 (by decide +kernel) rfl)) (fun _ h9 => h9) rfl hd kk
theorem asM_23 {p : Program} {l : Launch} {e : Env} {R : Room} {s : State} {m : MethodId} {args : Array Value} {below : List Frame} {meth : Method} {c : Code} {H : Heap} {locs : List Loc} {cells slots : Nat} {Q : State → Prop} {cc : ByteArray} {pc nL : Nat} {ls : Array Slot} {rest : List Value} {ret : Option FieldType} {G : xG} {β N : Nat} {x : MS} {own : String} {i : Int32} {v : Int32} (C : Cx p s m args meth c own cc nL ret (KK G)) (hw : MW β G N x H) (hS : va_S (AM β) s.heap H locs) (hin : ib i 10) (hd : decode cc pc = .ok (.iastore, 1)) (kk : ∀ (H1 : Heap) (locs1 : List Loc), MW β G N (msA x 23 i.toNatClampNeg v) H1 → va_S (AM β) s.heap H1 locs1 → W p l e R s m args below meth c H1 locs1 cells slots Q (F0 m (pc + 1) ls (rest))) : W p l e R s m args below meth c H locs cells slots Q (F0 m pc ls (.int v :: .int i :: .ref (β + 23) :: rest)) :=
  x_iast C.1 C.2.1 C.K.1 hS 0 (hw.2 23 (by decide)) (AM.in (by decide)) rfl hin hd (fun H1 locs1 hat ho hS => kk H1 locs1 (hw.setA 23 _ _ hat ho) hS)
theorem gX9_84 {p : Program} {l : Launch} {e : Env} {R : Room} {s : State} {m : MethodId} {args : Array Value} {below : List Frame} {meth : Method} {c : Code} {H : Heap} {locs : List Loc} {cells slots : Nat} {Q : State → Prop} {cc : ByteArray} {pc nL : Nat} {ls : Array Slot} {rest : List Value} {ret : Option FieldType} {G : xG} {β N : Nat} {x : MS} (C : Cx p s m args meth c RX9 cc nL ret (KK G)) (hw : MW β G N x H) (hd : decode cc pc = .ok (.getfield 84, 3)) (kk : W p l e R s m args below meth c H locs cells slots Q (F0 m (pc + 3) ls (.ref (β + 24) :: rest))) : W p l e R s m args below meth c H locs cells slots Q (F0 m pc ls (.ref β :: rest)) :=
  va_get C.1 C.2.1 C.2.2.2.2.1 iwX9 C.2.2.2.1 C.K.1 (xP1 (hw.2 0 (by decide))) 0 rfl rfl 46 (by decide) (C.2.2.2.2.1 (.fieldLink RX9 84 RX9 "imageLead" "[I") (tg 962 (by decide +kernel) rfl)) (fun _ h9 => h9) rfl hd kk
theorem asM_24 {p : Program} {l : Launch} {e : Env} {R : Room} {s : State} {m : MethodId} {args : Array Value} {below : List Frame} {meth : Method} {c : Code} {H : Heap} {locs : List Loc} {cells slots : Nat} {Q : State → Prop} {cc : ByteArray} {pc nL : Nat} {ls : Array Slot} {rest : List Value} {ret : Option FieldType} {G : xG} {β N : Nat} {x : MS} {own : String} {i : Int32} {v : Int32} (C : Cx p s m args meth c own cc nL ret (KK G)) (hw : MW β G N x H) (hS : va_S (AM β) s.heap H locs) (hin : ib i 10) (hd : decode cc pc = .ok (.iastore, 1)) (kk : ∀ (H1 : Heap) (locs1 : List Loc), MW β G N (msA x 24 i.toNatClampNeg v) H1 → va_S (AM β) s.heap H1 locs1 → W p l e R s m args below meth c H1 locs1 cells slots Q (F0 m (pc + 1) ls (rest))) : W p l e R s m args below meth c H locs cells slots Q (F0 m pc ls (.int v :: .int i :: .ref (β + 24) :: rest)) :=
  x_iast C.1 C.2.1 C.K.1 hS 0 (hw.2 24 (by decide)) (AM.in (by decide)) rfl hin hd (fun H1 locs1 hat ho hS => kk H1 locs1 (hw.setA 24 _ _ hat ho) hS)
theorem gX9_87 {p : Program} {l : Launch} {e : Env} {R : Room} {s : State} {m : MethodId} {args : Array Value} {below : List Frame} {meth : Method} {c : Code} {H : Heap} {locs : List Loc} {cells slots : Nat} {Q : State → Prop} {cc : ByteArray} {pc nL : Nat} {ls : Array Slot} {rest : List Value} {ret : Option FieldType} {G : xG} {β N : Nat} {x : MS} (C : Cx p s m args meth c RX9 cc nL ret (KK G)) (hw : MW β G N x H) (hd : decode cc pc = .ok (.getfield 87, 3)) (kk : W p l e R s m args below meth c H locs cells slots Q (F0 m (pc + 3) ls (.ref (β + 25) :: rest))) : W p l e R s m args below meth c H locs cells slots Q (F0 m pc ls (.ref β :: rest)) :=
  va_get C.1 C.2.1 C.2.2.2.2.1 iwX9 C.2.2.2.1 C.K.1 (xP1 (hw.2 0 (by decide))) 0 rfl rfl 47 (by decide) (C.2.2.2.2.1 (.fieldLink RX9 87 RX9 "imagePounds" "[I") (tg 963 (by decide +kernel) rfl)) (fun _ h9 => h9) rfl hd kk
theorem asM_25 {p : Program} {l : Launch} {e : Env} {R : Room} {s : State} {m : MethodId} {args : Array Value} {below : List Frame} {meth : Method} {c : Code} {H : Heap} {locs : List Loc} {cells slots : Nat} {Q : State → Prop} {cc : ByteArray} {pc nL : Nat} {ls : Array Slot} {rest : List Value} {ret : Option FieldType} {G : xG} {β N : Nat} {x : MS} {own : String} {i : Int32} {v : Int32} (C : Cx p s m args meth c own cc nL ret (KK G)) (hw : MW β G N x H) (hS : va_S (AM β) s.heap H locs) (hin : ib i 4) (hd : decode cc pc = .ok (.iastore, 1)) (kk : ∀ (H1 : Heap) (locs1 : List Loc), MW β G N (msA x 25 i.toNatClampNeg v) H1 → va_S (AM β) s.heap H1 locs1 → W p l e R s m args below meth c H1 locs1 cells slots Q (F0 m (pc + 1) ls (rest))) : W p l e R s m args below meth c H locs cells slots Q (F0 m pc ls (.int v :: .int i :: .ref (β + 25) :: rest)) :=
  x_iast C.1 C.2.1 C.K.1 hS 0 (hw.2 25 (by decide)) (AM.in (by decide)) rfl hin hd (fun H1 locs1 hat ho hS => kk H1 locs1 (hw.setA 25 _ _ hat ho) hS)
def BX9_image_39 (lp : Int32 → MS → Option (MS)) (u1 : Int32) (x : MS) : Option (MS) := if (x.1 0 13) ≤ u1 then some x else if ib u1 10 then if ib u1 10 then lt (msA x 22 u1.toNatClampNeg (x.2.1 5 u1.toNatClampNeg)) fun x8 => if ib u1 10 then if ib u1 10 then lt (msA x8 23 u1.toNatClampNeg (x8.2.1 6 u1.toNatClampNeg)) fun x11 => if ib u1 10 then if ib u1 10 then lt (msA x11 24 u1.toNatClampNeg (x11.2.1 9 u1.toNatClampNeg)) fun x14 => lt (u1 + 1) fun v15 => lp v15 x14 else none else none else none else none else none else none
def LX9_image_39 : Nat → Int32 → MS → Option (MS)
  | 0, _, _ => none
  | n + 1, u1, x => BX9_image_39 (LX9_image_39 n) u1 x
def BX9_image_91 (lp : Int32 → MS → Option (MS)) (u1 : Int32) (x : MS) : Option (MS) := if 4 ≤ u1 then some x else if ib u1 4 then if ib u1 4 then lt (msA x 25 u1.toNatClampNeg (x.2.1 10 u1.toNatClampNeg)) fun x19 => lt (u1 + 1) fun v20 => lp v20 x19 else none else none
def LX9_image_91 : Nat → Int32 → MS → Option (MS)
  | 0, _, _ => none
  | n + 1, u1, x => BX9_image_91 (LX9_image_91 n) u1 x
def fX9_image (x : MS) : Option (Int32 × MS) := lt (msS x 0 48 (bI true)) fun x1 => lt (msS x1 0 49 (x1.1 0 13)) fun x2 => lt (msS x2 0 50 (x2.1 0 15)) fun x3 => lt (msS x3 0 51 (x3.1 0 41)) fun x4 => lt (msS x4 0 52 (x4.1 0 4)) fun x5 => Option.bind (LX9_image_39 NF 0 x5) fun x16 => Option.bind (LX9_image_91 NF 0 x16) fun x21 => some (x21.1 0 41, x21)
set_option maxHeartbeats 4000000 in
set_option maxRecDepth 100000 in
theorem lX9_image_39 {p : Program} {l : Launch} {e : Env} {R : Room} {s : State} {m : MethodId} {args : Array Value} {below : List Frame} {meth : Method} {c : Code} {cells slots : Nat} {Q : State → Prop} {G : xG} {β N : Nat} (C : Cx p s m args meth c RX9 cX9_image 2 (some .int) (KK G)) (hRf : 0 ≤ R.frames) (hRl : 0 ≤ R.locals) (hcs : cells ≤ R.cells ∧ slots ≤ R.slots) : ∀ (n : Nat) (u1 : Int32) (x : MS) (J : MS) (H : Heap) (locs : List Loc) (ls : Array Slot), LX9_image_39 n u1 x = some J → MW β G N x H → va_S (AM β) s.heap H locs → lv_has ls 2 [(0, .ref β), (1, .int u1)] → (∀ (x1 : MS), J = x1 → ∀ (H : Heap) (locs : List Loc) (ls : Array Slot), MW β G N x1 H → va_S (AM β) s.heap H locs → lv_has ls 2 [(0, .ref β)] → W p l e R s m args below meth c H locs cells slots Q (F0 m 89 ls [])) → W p l e R s m args below meth c H locs cells slots Q (F0 m 39 ls []) := by
  have hx := C.1
  have hb := C.2.1
  have ho := C.2.2.2.1
  have hts := C.2.2.2.2.1
  intro n
  induction n with
  | zero =>
    intro u1 x J H locs ls hm
    exact absurd hm (by simp [LX9_image_39])
  | succ n ih =>
    intro u1 x J H locs ls hm hw hS hl ke
    replace hm : BX9_image_39 (LX9_image_39 n) u1 x = some J := hm
    unfold BX9_image_39 at hm
    refine lv_iload_n hx hb dX9_image_39 rfl (lv_at hl 1 rfl) ?_
    refine lv_aload_n hx hb dX9_image_40 rfl (lv_at hl 0 rfl) ?_
    refine gX9_129 C hw dX9_image_41 ?_
    refine lv_icmp_ge (tgt := 89) hx hb dX9_image_44 (by decide) (fun cc => ?_) (fun cc => ?_)
    · replace hm := ite_p cc hm
      exact ke _ (Option.some.inj hm).symm _ _ _ hw hS (lv_sub hl [0] rfl)
    · replace hm := ite_n cc hm
      refine lv_aload_n hx hb dX9_image_47 rfl (lv_at hl 0 rfl) ?_
      refine gX9_78 C hw dX9_image_48 ?_
      refine lv_iload_n hx hb dX9_image_51 rfl (lv_at hl 1 rfl) ?_
      refine lv_aload_n hx hb dX9_image_52 rfl (lv_at hl 0 rfl) ?_
      refine gX9_26 C hw dX9_image_53 ?_
      refine lv_iload_n hx hb dX9_image_56 rfl (lv_at hl 1 rfl) ?_
      obtain ⟨h6, hm⟩ := chk_e hm
      refine alM_5 C hw h6 dX9_image_57 ?_
      obtain ⟨h7, hm⟩ := chk_e hm
      refine asM_22 C hw hS h7 dX9_image_58 (fun H locs hw hS => ?_)
      obtain ⟨x8, ev, hm⟩ := lt_e hm
      rw [← ev] at hw
      clear ev
      refine lv_aload_n hx hb dX9_image_59 rfl (lv_at hl 0 rfl) ?_
      refine gX9_81 C hw dX9_image_60 ?_
      refine lv_iload_n hx hb dX9_image_63 rfl (lv_at hl 1 rfl) ?_
      refine lv_aload_n hx hb dX9_image_64 rfl (lv_at hl 0 rfl) ?_
      refine gX9_29 C hw dX9_image_65 ?_
      refine lv_iload_n hx hb dX9_image_68 rfl (lv_at hl 1 rfl) ?_
      obtain ⟨h9, hm⟩ := chk_e hm
      refine alM_6 C hw h9 dX9_image_69 ?_
      obtain ⟨h10, hm⟩ := chk_e hm
      refine asM_23 C hw hS h10 dX9_image_70 (fun H locs hw hS => ?_)
      obtain ⟨x11, ev, hm⟩ := lt_e hm
      rw [← ev] at hw
      clear ev
      refine lv_aload_n hx hb dX9_image_71 rfl (lv_at hl 0 rfl) ?_
      refine gX9_84 C hw dX9_image_72 ?_
      refine lv_iload_n hx hb dX9_image_75 rfl (lv_at hl 1 rfl) ?_
      refine lv_aload_n hx hb dX9_image_76 rfl (lv_at hl 0 rfl) ?_
      refine gX9_38 C hw dX9_image_77 ?_
      refine lv_iload_n hx hb dX9_image_80 rfl (lv_at hl 1 rfl) ?_
      obtain ⟨h12, hm⟩ := chk_e hm
      refine alM_9 C hw h12 dX9_image_81 ?_
      obtain ⟨h13, hm⟩ := chk_e hm
      refine asM_24 C hw hS h13 dX9_image_82 (fun H locs hw hS => ?_)
      obtain ⟨x14, ev, hm⟩ := lt_e hm
      rw [← ev] at hw
      clear ev
      obtain ⟨v15, ev, hm⟩ := lt_e hm
      refine lv_iinc (v := v15) (lv' := [(1, .int v15), (0, .ref β)]) hx hb dX9_image_83 hl (k := 1) rfl (by rw [ev]; rfl) (by decide) rfl (fun ls hl => ?_)
      clear ev
      refine lv_goto (tgt := 39) hx hb dX9_image_86 (by decide) ?_
      exact ih _ _ _ _ _ _ hm hw hS (lv_sub hl [1, 0] rfl) ke
set_option maxHeartbeats 4000000 in
set_option maxRecDepth 100000 in
theorem lX9_image_91 {p : Program} {l : Launch} {e : Env} {R : Room} {s : State} {m : MethodId} {args : Array Value} {below : List Frame} {meth : Method} {c : Code} {cells slots : Nat} {Q : State → Prop} {G : xG} {β N : Nat} (C : Cx p s m args meth c RX9 cX9_image 2 (some .int) (KK G)) (hRf : 0 ≤ R.frames) (hRl : 0 ≤ R.locals) (hcs : cells ≤ R.cells ∧ slots ≤ R.slots) : ∀ (n : Nat) (u1 : Int32) (x : MS) (J : MS) (H : Heap) (locs : List Loc) (ls : Array Slot), LX9_image_91 n u1 x = some J → MW β G N x H → va_S (AM β) s.heap H locs → lv_has ls 2 [(0, .ref β), (1, .int u1)] → (∀ (x1 : MS), J = x1 → ∀ (H : Heap) (locs : List Loc) (ls : Array Slot), MW β G N x1 H → va_S (AM β) s.heap H locs → lv_has ls 2 [(0, .ref β)] → W p l e R s m args below meth c H locs cells slots Q (F0 m 114 ls [])) → W p l e R s m args below meth c H locs cells slots Q (F0 m 91 ls []) := by
  have hx := C.1
  have hb := C.2.1
  have ho := C.2.2.2.1
  have hts := C.2.2.2.2.1
  intro n
  induction n with
  | zero =>
    intro u1 x J H locs ls hm
    exact absurd hm (by simp [LX9_image_91])
  | succ n ih =>
    intro u1 x J H locs ls hm hw hS hl ke
    replace hm : BX9_image_91 (LX9_image_91 n) u1 x = some J := hm
    unfold BX9_image_91 at hm
    refine lv_iload_n hx hb dX9_image_91 rfl (lv_at hl 1 rfl) ?_
    refine lv_iconst (v := 4) hx hb dX9_image_92 (by decide) ?_
    refine lv_icmp_ge (tgt := 114) hx hb dX9_image_93 (by decide) (fun cc => ?_) (fun cc => ?_)
    · replace hm := ite_p cc hm
      exact ke _ (Option.some.inj hm).symm _ _ _ hw hS (lv_sub hl [0] rfl)
    · replace hm := ite_n cc hm
      refine lv_aload_n hx hb dX9_image_96 rfl (lv_at hl 0 rfl) ?_
      refine gX9_87 C hw dX9_image_97 ?_
      refine lv_iload_n hx hb dX9_image_100 rfl (lv_at hl 1 rfl) ?_
      refine lv_aload_n hx hb dX9_image_101 rfl (lv_at hl 0 rfl) ?_
      refine gX9_41 C hw dX9_image_102 ?_
      refine lv_iload_n hx hb dX9_image_105 rfl (lv_at hl 1 rfl) ?_
      obtain ⟨h17, hm⟩ := chk_e hm
      refine alM_10 C hw h17 dX9_image_106 ?_
      obtain ⟨h18, hm⟩ := chk_e hm
      refine asM_25 C hw hS h18 dX9_image_107 (fun H locs hw hS => ?_)
      obtain ⟨x19, ev, hm⟩ := lt_e hm
      rw [← ev] at hw
      clear ev
      obtain ⟨v20, ev, hm⟩ := lt_e hm
      refine lv_iinc (v := v20) (lv' := [(1, .int v20), (0, .ref β)]) hx hb dX9_image_108 hl (k := 1) rfl (by rw [ev]; rfl) (by decide) rfl (fun ls hl => ?_)
      clear ev
      refine lv_goto (tgt := 91) hx hb dX9_image_111 (by decide) ?_
      exact ih _ _ _ _ _ _ hm hw hS (lv_sub hl [1, 0] rfl) ke
abbrev rmX9_image : Room := { frames := 0, cells := 0, slots := 0, locals := 0 }
set_option maxHeartbeats 4000000 in
set_option maxRecDepth 100000 in
theorem kX9_image {l : Launch} {G : xG} {β N : Nat} {x x' : MS} {r : Int32} (hm : fX9_image x = some (r, x')) : Met l yX9_image (.code yX9_image cX9_image 2 (some .int) :: GT) rmX9_image (PcW [.ref β] (MW β G N x) (KK G)) (QcW (AM β) (some (.int r)) (MW β G N x')) 0 0 (AM β) := by
  unfold fX9_image at hm
  refine xpro (own := RX9) (by decide +kernel) rfl (Nat.le_of_ble_eq_true rfl) ?_
  intro p e s m args below meth c C hw ls hl
  have hx := C.1
  have hb := C.2.1
  have ho := C.2.2.2.1
  have hts := C.2.2.2.2.1
  have hS : va_S (AM β) s.heap s.heap [] := va_S.rf
  have hl : lv_has ls 2 [(0, .ref β)] := hl
  have hRf : 0 ≤ rmX9_image.frames := Nat.le_refl _
  have hRl : 0 ≤ rmX9_image.locals := Nat.le_refl _
  have hcs : 0 ≤ rmX9_image.cells ∧ 0 ≤ rmX9_image.slots := ⟨Nat.le_refl _, Nat.le_refl _⟩
  refine lv_aload_n hx hb dX9_image_0 rfl (lv_at hl 0 rfl) ?_
  refine lv_iconst (v := 1) hx hb dX9_image_1 (by decide) ?_
  refine pX9_429 (b := true) C hw hS dX9_image_2 (fun H locs hw hS => ?_)
  obtain ⟨x1, ev, hm⟩ := lt_e hm
  rw [← ev] at hw
  clear ev
  refine lv_aload_n hx hb dX9_image_5 rfl (lv_at hl 0 rfl) ?_
  refine lv_aload_n hx hb dX9_image_6 rfl (lv_at hl 0 rfl) ?_
  refine gX9_129 C hw dX9_image_7 ?_
  refine pX9_432 C hw hS dX9_image_10 (fun H locs hw hS => ?_)
  obtain ⟨x2, ev, hm⟩ := lt_e hm
  rw [← ev] at hw
  clear ev
  refine lv_aload_n hx hb dX9_image_13 rfl (lv_at hl 0 rfl) ?_
  refine lv_aload_n hx hb dX9_image_14 rfl (lv_at hl 0 rfl) ?_
  refine gX9_124 C hw dX9_image_15 ?_
  refine pX9_435 C hw hS dX9_image_18 (fun H locs hw hS => ?_)
  obtain ⟨x3, ev, hm⟩ := lt_e hm
  rw [← ev] at hw
  clear ev
  refine lv_aload_n hx hb dX9_image_21 rfl (lv_at hl 0 rfl) ?_
  refine lv_aload_n hx hb dX9_image_22 rfl (lv_at hl 0 rfl) ?_
  refine gX9_169 C hw dX9_image_23 ?_
  refine pX9_438 C hw hS dX9_image_26 (fun H locs hw hS => ?_)
  obtain ⟨x4, ev, hm⟩ := lt_e hm
  rw [← ev] at hw
  clear ev
  refine lv_aload_n hx hb dX9_image_29 rfl (lv_at hl 0 rfl) ?_
  refine lv_aload_n hx hb dX9_image_30 rfl (lv_at hl 0 rfl) ?_
  refine gX9_184 C hw dX9_image_31 ?_
  refine pX9_441 C hw hS dX9_image_34 (fun H locs hw hS => ?_)
  obtain ⟨x5, ev, hm⟩ := lt_e hm
  rw [← ev] at hw
  clear ev
  refine lv_iconst (v := 0) hx hb dX9_image_37 (by decide) ?_
  refine lv_istore_n (lv' := [(1, .int 0), (0, .ref β)]) hx hb dX9_image_38 rfl hl (by decide) rfl (fun ls hl => ?_)
  obtain ⟨x16, hj, hm⟩ := bind_e hm
  refine lX9_image_39 C hRf hRl hcs NF _ _ _ _ _ _ hj hw hS (lv_sub hl [1, 0] rfl) (fun x16_ e0 H locs ls hw hS hl => ?_)
  cases e0
  refine lv_iconst (v := 0) hx hb dX9_image_89 (by decide) ?_
  refine lv_istore_n (lv' := [(1, .int 0), (0, .ref β)]) hx hb dX9_image_90 rfl hl (by decide) rfl (fun ls hl => ?_)
  obtain ⟨x21, hj, hm⟩ := bind_e hm
  refine lX9_image_91 C hRf hRl hcs NF _ _ _ _ _ _ hj hw hS (lv_sub hl [1, 0] rfl) (fun x21_ e0 H locs ls hw hS hl => ?_)
  cases e0
  refine lv_aload_n hx hb dX9_image_114 rfl (lv_at hl 0 rfl) ?_
  refine gX9_169 C hw dX9_image_115 ?_
  obtain ⟨rfl, rfl⟩ := inj2 hm
  exact xret_i C hw hS dX9_image_118
theorem dX9_back_0 : decode cX9_back 0 = .ok (.aload_n 0, 1) := by decide +kernel
theorem dX9_back_1 : decode cX9_back 1 = .ok (.getfield 429, 3) := by decide +kernel
theorem dX9_back_4 : decode cX9_back 4 = .ok (.ifCond .ne 6, 3) := by decide +kernel
theorem dX9_back_7 : decode cX9_back 7 = .ok (.bipush (-3), 2) := by decide +kernel
theorem dX9_back_9 : decode cX9_back 9 = .ok (.ireturn, 1) := by decide +kernel
theorem dX9_back_10 : decode cX9_back 10 = .ok (.aload_n 0, 1) := by decide +kernel
theorem dX9_back_11 : decode cX9_back 11 = .ok (.aload_n 0, 1) := by decide +kernel
theorem dX9_back_12 : decode cX9_back 12 = .ok (.getfield 435, 3) := by decide +kernel
theorem dX9_back_15 : decode cX9_back 15 = .ok (.putfield 124, 3) := by decide +kernel
theorem dX9_back_18 : decode cX9_back 18 = .ok (.aload_n 0, 1) := by decide +kernel
theorem dX9_back_19 : decode cX9_back 19 = .ok (.aload_n 0, 1) := by decide +kernel
theorem dX9_back_20 : decode cX9_back 20 = .ok (.getfield 438, 3) := by decide +kernel
theorem dX9_back_23 : decode cX9_back 23 = .ok (.putfield 169, 3) := by decide +kernel
theorem dX9_back_26 : decode cX9_back 26 = .ok (.aload_n 0, 1) := by decide +kernel
theorem dX9_back_27 : decode cX9_back 27 = .ok (.aload_n 0, 1) := by decide +kernel
theorem dX9_back_28 : decode cX9_back 28 = .ok (.getfield 441, 3) := by decide +kernel
theorem dX9_back_31 : decode cX9_back 31 = .ok (.putfield 184, 3) := by decide +kernel
theorem dX9_back_34 : decode cX9_back 34 = .ok (.iconst 0, 1) := by decide +kernel
theorem dX9_back_35 : decode cX9_back 35 = .ok (.istore_n 1, 1) := by decide +kernel
theorem dX9_back_36 : decode cX9_back 36 = .ok (.iload_n 1, 1) := by decide +kernel
theorem dX9_back_37 : decode cX9_back 37 = .ok (.aload_n 0, 1) := by decide +kernel
theorem dX9_back_38 : decode cX9_back 38 = .ok (.getfield 432, 3) := by decide +kernel
theorem dX9_back_41 : decode cX9_back 41 = .ok (.if_icmp .ge 45, 3) := by decide +kernel
theorem dX9_back_44 : decode cX9_back 44 = .ok (.aload_n 0, 1) := by decide +kernel
theorem dX9_back_45 : decode cX9_back 45 = .ok (.getfield 26, 3) := by decide +kernel
theorem dX9_back_48 : decode cX9_back 48 = .ok (.iload_n 1, 1) := by decide +kernel
theorem dX9_back_49 : decode cX9_back 49 = .ok (.aload_n 0, 1) := by decide +kernel
theorem dX9_back_50 : decode cX9_back 50 = .ok (.getfield 78, 3) := by decide +kernel
theorem dX9_back_53 : decode cX9_back 53 = .ok (.iload_n 1, 1) := by decide +kernel
theorem dX9_back_54 : decode cX9_back 54 = .ok (.iaload, 1) := by decide +kernel
theorem dX9_back_55 : decode cX9_back 55 = .ok (.iastore, 1) := by decide +kernel
theorem dX9_back_56 : decode cX9_back 56 = .ok (.aload_n 0, 1) := by decide +kernel
theorem dX9_back_57 : decode cX9_back 57 = .ok (.getfield 29, 3) := by decide +kernel
theorem dX9_back_60 : decode cX9_back 60 = .ok (.iload_n 1, 1) := by decide +kernel
theorem dX9_back_61 : decode cX9_back 61 = .ok (.aload_n 0, 1) := by decide +kernel
theorem dX9_back_62 : decode cX9_back 62 = .ok (.getfield 81, 3) := by decide +kernel
theorem dX9_back_65 : decode cX9_back 65 = .ok (.iload_n 1, 1) := by decide +kernel
theorem dX9_back_66 : decode cX9_back 66 = .ok (.iaload, 1) := by decide +kernel
theorem dX9_back_67 : decode cX9_back 67 = .ok (.iastore, 1) := by decide +kernel
theorem dX9_back_68 : decode cX9_back 68 = .ok (.aload_n 0, 1) := by decide +kernel
theorem dX9_back_69 : decode cX9_back 69 = .ok (.getfield 38, 3) := by decide +kernel
theorem dX9_back_72 : decode cX9_back 72 = .ok (.iload_n 1, 1) := by decide +kernel
theorem dX9_back_73 : decode cX9_back 73 = .ok (.aload_n 0, 1) := by decide +kernel
theorem dX9_back_74 : decode cX9_back 74 = .ok (.getfield 84, 3) := by decide +kernel
theorem dX9_back_77 : decode cX9_back 77 = .ok (.iload_n 1, 1) := by decide +kernel
theorem dX9_back_78 : decode cX9_back 78 = .ok (.iaload, 1) := by decide +kernel
theorem dX9_back_79 : decode cX9_back 79 = .ok (.iastore, 1) := by decide +kernel
theorem dX9_back_80 : decode cX9_back 80 = .ok (.iinc 1 1, 3) := by decide +kernel
theorem dX9_back_83 : decode cX9_back 83 = .ok (.goto (-47), 3) := by decide +kernel
theorem dX9_back_86 : decode cX9_back 86 = .ok (.iconst 0, 1) := by decide +kernel
theorem dX9_back_87 : decode cX9_back 87 = .ok (.istore_n 1, 1) := by decide +kernel
theorem dX9_back_88 : decode cX9_back 88 = .ok (.iload_n 1, 1) := by decide +kernel
theorem dX9_back_89 : decode cX9_back 89 = .ok (.iconst 4, 1) := by decide +kernel
theorem dX9_back_90 : decode cX9_back 90 = .ok (.if_icmp .ge 21, 3) := by decide +kernel
theorem dX9_back_93 : decode cX9_back 93 = .ok (.aload_n 0, 1) := by decide +kernel
theorem dX9_back_94 : decode cX9_back 94 = .ok (.getfield 41, 3) := by decide +kernel
theorem dX9_back_97 : decode cX9_back 97 = .ok (.iload_n 1, 1) := by decide +kernel
theorem dX9_back_98 : decode cX9_back 98 = .ok (.aload_n 0, 1) := by decide +kernel
theorem dX9_back_99 : decode cX9_back 99 = .ok (.getfield 87, 3) := by decide +kernel
theorem dX9_back_102 : decode cX9_back 102 = .ok (.iload_n 1, 1) := by decide +kernel
theorem dX9_back_103 : decode cX9_back 103 = .ok (.iaload, 1) := by decide +kernel
theorem dX9_back_104 : decode cX9_back 104 = .ok (.iastore, 1) := by decide +kernel
theorem dX9_back_105 : decode cX9_back 105 = .ok (.iinc 1 1, 3) := by decide +kernel
theorem dX9_back_108 : decode cX9_back 108 = .ok (.goto (-20), 3) := by decide +kernel
theorem dX9_back_111 : decode cX9_back 111 = .ok (.aload_n 0, 1) := by decide +kernel
theorem dX9_back_112 : decode cX9_back 112 = .ok (.getfield 169, 3) := by decide +kernel
theorem dX9_back_115 : decode cX9_back 115 = .ok (.ireturn, 1) := by decide +kernel
theorem gX9_429 {p : Program} {l : Launch} {e : Env} {R : Room} {s : State} {m : MethodId} {args : Array Value} {below : List Frame} {meth : Method} {c : Code} {H : Heap} {locs : List Loc} {cells slots : Nat} {Q : State → Prop} {cc : ByteArray} {pc nL : Nat} {ls : Array Slot} {rest : List Value} {ret : Option FieldType} {G : xG} {β N : Nat} {x : MS} (C : Cx p s m args meth c RX9 cc nL ret (KK G)) (hw : MW β G N x H) (hd : decode cc pc = .ok (.getfield 429, 3)) (kk : W p l e R s m args below meth c H locs cells slots Q (F0 m (pc + 3) ls (.int (x.1 0 48) :: rest))) : W p l e R s m args below meth c H locs cells slots Q (F0 m pc ls (.ref β :: rest)) :=
  va_get C.1 C.2.1 C.2.2.2.2.1 iwX9 C.2.2.2.1 C.K.1 (xP1 (hw.2 0 (by decide))) 0 rfl rfl 48 (by decide) (C.2.2.2.2.1 (.fieldLink RX9 429 RX9 "hasImage" "Z") (tg 964 (by decide +kernel) rfl)) (fun _ h9 => h9) rfl hd kk
theorem gX9_435 {p : Program} {l : Launch} {e : Env} {R : Room} {s : State} {m : MethodId} {args : Array Value} {below : List Frame} {meth : Method} {c : Code} {H : Heap} {locs : List Loc} {cells slots : Nat} {Q : State → Prop} {cc : ByteArray} {pc nL : Nat} {ls : Array Slot} {rest : List Value} {ret : Option FieldType} {G : xG} {β N : Nat} {x : MS} (C : Cx p s m args meth c RX9 cc nL ret (KK G)) (hw : MW β G N x H) (hd : decode cc pc = .ok (.getfield 435, 3)) (kk : W p l e R s m args below meth c H locs cells slots Q (F0 m (pc + 3) ls (.int (x.1 0 50) :: rest))) : W p l e R s m args below meth c H locs cells slots Q (F0 m pc ls (.ref β :: rest)) :=
  va_get C.1 C.2.1 C.2.2.2.2.1 iwX9 C.2.2.2.1 C.K.1 (xP1 (hw.2 0 (by decide))) 0 rfl rfl 50 (by decide) (C.2.2.2.2.1 (.fieldLink RX9 435 RX9 "imageSpread" "I") (tg 966 (by decide +kernel) rfl)) (fun _ h9 => h9) rfl hd kk
theorem gX9_438 {p : Program} {l : Launch} {e : Env} {R : Room} {s : State} {m : MethodId} {args : Array Value} {below : List Frame} {meth : Method} {c : Code} {H : Heap} {locs : List Loc} {cells slots : Nat} {Q : State → Prop} {cc : ByteArray} {pc nL : Nat} {ls : Array Slot} {rest : List Value} {ret : Option FieldType} {G : xG} {β N : Nat} {x : MS} (C : Cx p s m args meth c RX9 cc nL ret (KK G)) (hw : MW β G N x H) (hd : decode cc pc = .ok (.getfield 438, 3)) (kk : W p l e R s m args below meth c H locs cells slots Q (F0 m (pc + 3) ls (.int (x.1 0 51) :: rest))) : W p l e R s m args below meth c H locs cells slots Q (F0 m pc ls (.ref β :: rest)) :=
  va_get C.1 C.2.1 C.2.2.2.2.1 iwX9 C.2.2.2.1 C.K.1 (xP1 (hw.2 0 (by decide))) 0 rfl rfl 51 (by decide) (C.2.2.2.2.1 (.fieldLink RX9 438 RX9 "imageRaces" "I") (tg 967 (by decide +kernel) rfl)) (fun _ h9 => h9) rfl hd kk
theorem pX9_169 {p : Program} {l : Launch} {e : Env} {R : Room} {s : State} {m : MethodId} {args : Array Value} {below : List Frame} {meth : Method} {c : Code} {H : Heap} {locs : List Loc} {cells slots : Nat} {Q : State → Prop} {cc : ByteArray} {pc nL : Nat} {ls : Array Slot} {rest : List Value} {ret : Option FieldType} {G : xG} {β N : Nat} {x : MS} {v : Int32} (C : Cx p s m args meth c RX9 cc nL ret (KK G)) (hw : MW β G N x H) (hS : va_S (AM β) s.heap H locs) (hd : decode cc pc = .ok (.putfield 169, 3)) (kk : ∀ (H1 : Heap) (locs1 : List Loc), MW β G N (msS x 0 41 v) H1 → va_S (AM β) s.heap H1 locs1 → W p l e R s m args below meth c H1 locs1 cells slots Q (F0 m (pc + 3) ls (rest))) : W p l e R s m args below meth c H locs cells slots Q (F0 m pc ls (.int v :: .ref β :: rest)) :=
  x_put C.1 C.2.1 C.2.2.2.2.1 iwX9 tyX9 tyX9_ok nmX9 C.2.2.2.1 C.K.1 hS (hw.2 0 (by decide)) (AM.in (by decide)) rfl 41 (by decide) (C.2.2.2.2.1 (.fieldLink RX9 169 RX9 "raceMany" "I") (tg 957 (by decide +kernel) rfl)) (fun _ h9 => h9) rfl (ty := .int) (by decide +kernel) rfl rfl (Nat.le_of_ble_eq_true rfl) hd (fun H1 locs1 hat ho hS => kk H1 locs1 (hw.setS 0 41 v hat ho) hS)
theorem gX9_441 {p : Program} {l : Launch} {e : Env} {R : Room} {s : State} {m : MethodId} {args : Array Value} {below : List Frame} {meth : Method} {c : Code} {H : Heap} {locs : List Loc} {cells slots : Nat} {Q : State → Prop} {cc : ByteArray} {pc nL : Nat} {ls : Array Slot} {rest : List Value} {ret : Option FieldType} {G : xG} {β N : Nat} {x : MS} (C : Cx p s m args meth c RX9 cc nL ret (KK G)) (hw : MW β G N x H) (hd : decode cc pc = .ok (.getfield 441, 3)) (kk : W p l e R s m args below meth c H locs cells slots Q (F0 m (pc + 3) ls (.int (x.1 0 52) :: rest))) : W p l e R s m args below meth c H locs cells slots Q (F0 m pc ls (.ref β :: rest)) :=
  va_get C.1 C.2.1 C.2.2.2.2.1 iwX9 C.2.2.2.1 C.K.1 (xP1 (hw.2 0 (by decide))) 0 rfl rfl 52 (by decide) (C.2.2.2.2.1 (.fieldLink RX9 441 RX9 "imageRule" "I") (tg 968 (by decide +kernel) rfl)) (fun _ h9 => h9) rfl hd kk
theorem gX9_432 {p : Program} {l : Launch} {e : Env} {R : Room} {s : State} {m : MethodId} {args : Array Value} {below : List Frame} {meth : Method} {c : Code} {H : Heap} {locs : List Loc} {cells slots : Nat} {Q : State → Prop} {cc : ByteArray} {pc nL : Nat} {ls : Array Slot} {rest : List Value} {ret : Option FieldType} {G : xG} {β N : Nat} {x : MS} (C : Cx p s m args meth c RX9 cc nL ret (KK G)) (hw : MW β G N x H) (hd : decode cc pc = .ok (.getfield 432, 3)) (kk : W p l e R s m args below meth c H locs cells slots Q (F0 m (pc + 3) ls (.int (x.1 0 49) :: rest))) : W p l e R s m args below meth c H locs cells slots Q (F0 m pc ls (.ref β :: rest)) :=
  va_get C.1 C.2.1 C.2.2.2.2.1 iwX9 C.2.2.2.1 C.K.1 (xP1 (hw.2 0 (by decide))) 0 rfl rfl 49 (by decide) (C.2.2.2.2.1 (.fieldLink RX9 432 RX9 "imageHorses" "I") (tg 965 (by decide +kernel) rfl)) (fun _ h9 => h9) rfl hd kk
theorem alM_22 {p : Program} {l : Launch} {e : Env} {R : Room} {s : State} {m : MethodId} {args : Array Value} {below : List Frame} {meth : Method} {c : Code} {H : Heap} {locs : List Loc} {cells slots : Nat} {Q : State → Prop} {cc : ByteArray} {pc nL : Nat} {ls : Array Slot} {rest : List Value} {ret : Option FieldType} {G : xG} {β N : Nat} {x : MS} {own : String} {i : Int32} (C : Cx p s m args meth c own cc nL ret (KK G)) (hw : MW β G N x H) (hin : ib i 10) (hd : decode cc pc = .ok (.iaload, 1)) (kk : W p l e R s m args below meth c H locs cells slots Q (F0 m (pc + 1) ls (.int (x.2.1 22 i.toNatClampNeg) :: rest))) : W p l e R s m args below meth c H locs cells slots Q (F0 m pc ls (.int i :: .ref (β + 22) :: rest)) :=
  va_iald C.1 C.2.1 C.K.1 (xP1 (hw.2 22 (by decide))) 0 0 rfl rfl hin hd kk
theorem alM_23 {p : Program} {l : Launch} {e : Env} {R : Room} {s : State} {m : MethodId} {args : Array Value} {below : List Frame} {meth : Method} {c : Code} {H : Heap} {locs : List Loc} {cells slots : Nat} {Q : State → Prop} {cc : ByteArray} {pc nL : Nat} {ls : Array Slot} {rest : List Value} {ret : Option FieldType} {G : xG} {β N : Nat} {x : MS} {own : String} {i : Int32} (C : Cx p s m args meth c own cc nL ret (KK G)) (hw : MW β G N x H) (hin : ib i 10) (hd : decode cc pc = .ok (.iaload, 1)) (kk : W p l e R s m args below meth c H locs cells slots Q (F0 m (pc + 1) ls (.int (x.2.1 23 i.toNatClampNeg) :: rest))) : W p l e R s m args below meth c H locs cells slots Q (F0 m pc ls (.int i :: .ref (β + 23) :: rest)) :=
  va_iald C.1 C.2.1 C.K.1 (xP1 (hw.2 23 (by decide))) 0 0 rfl rfl hin hd kk
theorem alM_24 {p : Program} {l : Launch} {e : Env} {R : Room} {s : State} {m : MethodId} {args : Array Value} {below : List Frame} {meth : Method} {c : Code} {H : Heap} {locs : List Loc} {cells slots : Nat} {Q : State → Prop} {cc : ByteArray} {pc nL : Nat} {ls : Array Slot} {rest : List Value} {ret : Option FieldType} {G : xG} {β N : Nat} {x : MS} {own : String} {i : Int32} (C : Cx p s m args meth c own cc nL ret (KK G)) (hw : MW β G N x H) (hin : ib i 10) (hd : decode cc pc = .ok (.iaload, 1)) (kk : W p l e R s m args below meth c H locs cells slots Q (F0 m (pc + 1) ls (.int (x.2.1 24 i.toNatClampNeg) :: rest))) : W p l e R s m args below meth c H locs cells slots Q (F0 m pc ls (.int i :: .ref (β + 24) :: rest)) :=
  va_iald C.1 C.2.1 C.K.1 (xP1 (hw.2 24 (by decide))) 0 0 rfl rfl hin hd kk
theorem alM_25 {p : Program} {l : Launch} {e : Env} {R : Room} {s : State} {m : MethodId} {args : Array Value} {below : List Frame} {meth : Method} {c : Code} {H : Heap} {locs : List Loc} {cells slots : Nat} {Q : State → Prop} {cc : ByteArray} {pc nL : Nat} {ls : Array Slot} {rest : List Value} {ret : Option FieldType} {G : xG} {β N : Nat} {x : MS} {own : String} {i : Int32} (C : Cx p s m args meth c own cc nL ret (KK G)) (hw : MW β G N x H) (hin : ib i 4) (hd : decode cc pc = .ok (.iaload, 1)) (kk : W p l e R s m args below meth c H locs cells slots Q (F0 m (pc + 1) ls (.int (x.2.1 25 i.toNatClampNeg) :: rest))) : W p l e R s m args below meth c H locs cells slots Q (F0 m pc ls (.int i :: .ref (β + 25) :: rest)) :=
  va_iald C.1 C.2.1 C.K.1 (xP1 (hw.2 25 (by decide))) 0 0 rfl rfl hin hd kk
def BX9_back_36 (lp : Int32 → MS → Option (MS)) (u1 : Int32) (x : MS) : Option (MS) := if (x.1 0 49) ≤ u1 then some x else if ib u1 10 then if ib u1 10 then lt (msA x 5 u1.toNatClampNeg (x.2.1 22 u1.toNatClampNeg)) fun x6 => if ib u1 10 then if ib u1 10 then lt (msA x6 6 u1.toNatClampNeg (x6.2.1 23 u1.toNatClampNeg)) fun x9 => if ib u1 10 then if ib u1 10 then lt (msA x9 9 u1.toNatClampNeg (x9.2.1 24 u1.toNatClampNeg)) fun x12 => lt (u1 + 1) fun v13 => lp v13 x12 else none else none else none else none else none else none
def LX9_back_36 : Nat → Int32 → MS → Option (MS)
  | 0, _, _ => none
  | n + 1, u1, x => BX9_back_36 (LX9_back_36 n) u1 x
def BX9_back_88 (lp : Int32 → MS → Option (MS)) (u1 : Int32) (x : MS) : Option (MS) := if 4 ≤ u1 then some x else if ib u1 4 then if ib u1 4 then lt (msA x 10 u1.toNatClampNeg (x.2.1 25 u1.toNatClampNeg)) fun x17 => lt (u1 + 1) fun v18 => lp v18 x17 else none else none
def LX9_back_88 : Nat → Int32 → MS → Option (MS)
  | 0, _, _ => none
  | n + 1, u1, x => BX9_back_88 (LX9_back_88 n) u1 x
def fX9_back (x : MS) : Option (Int32 × MS) := if (x.1 0 48) = 0 then some ((-3), x) else lt (msS x 0 15 (x.1 0 50)) fun x1 => lt (msS x1 0 41 (x1.1 0 51)) fun x2 => lt (msS x2 0 4 (x2.1 0 52)) fun x3 => Option.bind (LX9_back_36 NF 0 x3) fun x14 => Option.bind (LX9_back_88 NF 0 x14) fun x19 => some (x19.1 0 41, x19)
set_option maxHeartbeats 4000000 in
set_option maxRecDepth 100000 in
theorem lX9_back_36 {p : Program} {l : Launch} {e : Env} {R : Room} {s : State} {m : MethodId} {args : Array Value} {below : List Frame} {meth : Method} {c : Code} {cells slots : Nat} {Q : State → Prop} {G : xG} {β N : Nat} (C : Cx p s m args meth c RX9 cX9_back 2 (some .int) (KK G)) (hRf : 0 ≤ R.frames) (hRl : 0 ≤ R.locals) (hcs : cells ≤ R.cells ∧ slots ≤ R.slots) : ∀ (n : Nat) (u1 : Int32) (x : MS) (J : MS) (H : Heap) (locs : List Loc) (ls : Array Slot), LX9_back_36 n u1 x = some J → MW β G N x H → va_S (AM β) s.heap H locs → lv_has ls 2 [(0, .ref β), (1, .int u1)] → (∀ (x1 : MS), J = x1 → ∀ (H : Heap) (locs : List Loc) (ls : Array Slot), MW β G N x1 H → va_S (AM β) s.heap H locs → lv_has ls 2 [(0, .ref β)] → W p l e R s m args below meth c H locs cells slots Q (F0 m 86 ls [])) → W p l e R s m args below meth c H locs cells slots Q (F0 m 36 ls []) := by
  have hx := C.1
  have hb := C.2.1
  have ho := C.2.2.2.1
  have hts := C.2.2.2.2.1
  intro n
  induction n with
  | zero =>
    intro u1 x J H locs ls hm
    exact absurd hm (by simp [LX9_back_36])
  | succ n ih =>
    intro u1 x J H locs ls hm hw hS hl ke
    replace hm : BX9_back_36 (LX9_back_36 n) u1 x = some J := hm
    unfold BX9_back_36 at hm
    refine lv_iload_n hx hb dX9_back_36 rfl (lv_at hl 1 rfl) ?_
    refine lv_aload_n hx hb dX9_back_37 rfl (lv_at hl 0 rfl) ?_
    refine gX9_432 C hw dX9_back_38 ?_
    refine lv_icmp_ge (tgt := 86) hx hb dX9_back_41 (by decide) (fun cc => ?_) (fun cc => ?_)
    · replace hm := ite_p cc hm
      exact ke _ (Option.some.inj hm).symm _ _ _ hw hS (lv_sub hl [0] rfl)
    · replace hm := ite_n cc hm
      refine lv_aload_n hx hb dX9_back_44 rfl (lv_at hl 0 rfl) ?_
      refine gX9_26 C hw dX9_back_45 ?_
      refine lv_iload_n hx hb dX9_back_48 rfl (lv_at hl 1 rfl) ?_
      refine lv_aload_n hx hb dX9_back_49 rfl (lv_at hl 0 rfl) ?_
      refine gX9_78 C hw dX9_back_50 ?_
      refine lv_iload_n hx hb dX9_back_53 rfl (lv_at hl 1 rfl) ?_
      obtain ⟨h4, hm⟩ := chk_e hm
      refine alM_22 C hw h4 dX9_back_54 ?_
      obtain ⟨h5, hm⟩ := chk_e hm
      refine asM_5 C hw hS h5 dX9_back_55 (fun H locs hw hS => ?_)
      obtain ⟨x6, ev, hm⟩ := lt_e hm
      rw [← ev] at hw
      clear ev
      refine lv_aload_n hx hb dX9_back_56 rfl (lv_at hl 0 rfl) ?_
      refine gX9_29 C hw dX9_back_57 ?_
      refine lv_iload_n hx hb dX9_back_60 rfl (lv_at hl 1 rfl) ?_
      refine lv_aload_n hx hb dX9_back_61 rfl (lv_at hl 0 rfl) ?_
      refine gX9_81 C hw dX9_back_62 ?_
      refine lv_iload_n hx hb dX9_back_65 rfl (lv_at hl 1 rfl) ?_
      obtain ⟨h7, hm⟩ := chk_e hm
      refine alM_23 C hw h7 dX9_back_66 ?_
      obtain ⟨h8, hm⟩ := chk_e hm
      refine asM_6 C hw hS h8 dX9_back_67 (fun H locs hw hS => ?_)
      obtain ⟨x9, ev, hm⟩ := lt_e hm
      rw [← ev] at hw
      clear ev
      refine lv_aload_n hx hb dX9_back_68 rfl (lv_at hl 0 rfl) ?_
      refine gX9_38 C hw dX9_back_69 ?_
      refine lv_iload_n hx hb dX9_back_72 rfl (lv_at hl 1 rfl) ?_
      refine lv_aload_n hx hb dX9_back_73 rfl (lv_at hl 0 rfl) ?_
      refine gX9_84 C hw dX9_back_74 ?_
      refine lv_iload_n hx hb dX9_back_77 rfl (lv_at hl 1 rfl) ?_
      obtain ⟨h10, hm⟩ := chk_e hm
      refine alM_24 C hw h10 dX9_back_78 ?_
      obtain ⟨h11, hm⟩ := chk_e hm
      refine asM_9 C hw hS h11 dX9_back_79 (fun H locs hw hS => ?_)
      obtain ⟨x12, ev, hm⟩ := lt_e hm
      rw [← ev] at hw
      clear ev
      obtain ⟨v13, ev, hm⟩ := lt_e hm
      refine lv_iinc (v := v13) (lv' := [(1, .int v13), (0, .ref β)]) hx hb dX9_back_80 hl (k := 1) rfl (by rw [ev]; rfl) (by decide) rfl (fun ls hl => ?_)
      clear ev
      refine lv_goto (tgt := 36) hx hb dX9_back_83 (by decide) ?_
      exact ih _ _ _ _ _ _ hm hw hS (lv_sub hl [1, 0] rfl) ke
set_option maxHeartbeats 4000000 in
set_option maxRecDepth 100000 in
theorem lX9_back_88 {p : Program} {l : Launch} {e : Env} {R : Room} {s : State} {m : MethodId} {args : Array Value} {below : List Frame} {meth : Method} {c : Code} {cells slots : Nat} {Q : State → Prop} {G : xG} {β N : Nat} (C : Cx p s m args meth c RX9 cX9_back 2 (some .int) (KK G)) (hRf : 0 ≤ R.frames) (hRl : 0 ≤ R.locals) (hcs : cells ≤ R.cells ∧ slots ≤ R.slots) : ∀ (n : Nat) (u1 : Int32) (x : MS) (J : MS) (H : Heap) (locs : List Loc) (ls : Array Slot), LX9_back_88 n u1 x = some J → MW β G N x H → va_S (AM β) s.heap H locs → lv_has ls 2 [(0, .ref β), (1, .int u1)] → (∀ (x1 : MS), J = x1 → ∀ (H : Heap) (locs : List Loc) (ls : Array Slot), MW β G N x1 H → va_S (AM β) s.heap H locs → lv_has ls 2 [(0, .ref β)] → W p l e R s m args below meth c H locs cells slots Q (F0 m 111 ls [])) → W p l e R s m args below meth c H locs cells slots Q (F0 m 88 ls []) := by
  have hx := C.1
  have hb := C.2.1
  have ho := C.2.2.2.1
  have hts := C.2.2.2.2.1
  intro n
  induction n with
  | zero =>
    intro u1 x J H locs ls hm
    exact absurd hm (by simp [LX9_back_88])
  | succ n ih =>
    intro u1 x J H locs ls hm hw hS hl ke
    replace hm : BX9_back_88 (LX9_back_88 n) u1 x = some J := hm
    unfold BX9_back_88 at hm
    refine lv_iload_n hx hb dX9_back_88 rfl (lv_at hl 1 rfl) ?_
    refine lv_iconst (v := 4) hx hb dX9_back_89 (by decide) ?_
    refine lv_icmp_ge (tgt := 111) hx hb dX9_back_90 (by decide) (fun cc => ?_) (fun cc => ?_)
    · replace hm := ite_p cc hm
      exact ke _ (Option.some.inj hm).symm _ _ _ hw hS (lv_sub hl [0] rfl)
    · replace hm := ite_n cc hm
      refine lv_aload_n hx hb dX9_back_93 rfl (lv_at hl 0 rfl) ?_
      refine gX9_41 C hw dX9_back_94 ?_
      refine lv_iload_n hx hb dX9_back_97 rfl (lv_at hl 1 rfl) ?_
      refine lv_aload_n hx hb dX9_back_98 rfl (lv_at hl 0 rfl) ?_
      refine gX9_87 C hw dX9_back_99 ?_
      refine lv_iload_n hx hb dX9_back_102 rfl (lv_at hl 1 rfl) ?_
      obtain ⟨h15, hm⟩ := chk_e hm
      refine alM_25 C hw h15 dX9_back_103 ?_
      obtain ⟨h16, hm⟩ := chk_e hm
      refine asM_10 C hw hS h16 dX9_back_104 (fun H locs hw hS => ?_)
      obtain ⟨x17, ev, hm⟩ := lt_e hm
      rw [← ev] at hw
      clear ev
      obtain ⟨v18, ev, hm⟩ := lt_e hm
      refine lv_iinc (v := v18) (lv' := [(1, .int v18), (0, .ref β)]) hx hb dX9_back_105 hl (k := 1) rfl (by rw [ev]; rfl) (by decide) rfl (fun ls hl => ?_)
      clear ev
      refine lv_goto (tgt := 88) hx hb dX9_back_108 (by decide) ?_
      exact ih _ _ _ _ _ _ hm hw hS (lv_sub hl [1, 0] rfl) ke
abbrev rmX9_back : Room := { frames := 0, cells := 0, slots := 0, locals := 0 }
set_option maxHeartbeats 4000000 in
set_option maxRecDepth 100000 in
theorem kX9_back {l : Launch} {G : xG} {β N : Nat} {x x' : MS} {r : Int32} (hm : fX9_back x = some (r, x')) : Met l yX9_back (.code yX9_back cX9_back 2 (some .int) :: GT) rmX9_back (PcW [.ref β] (MW β G N x) (KK G)) (QcW (AM β) (some (.int r)) (MW β G N x')) 0 0 (AM β) := by
  unfold fX9_back at hm
  refine xpro (own := RX9) (by decide +kernel) rfl (Nat.le_of_ble_eq_true rfl) ?_
  intro p e s m args below meth c C hw ls hl
  have hx := C.1
  have hb := C.2.1
  have ho := C.2.2.2.1
  have hts := C.2.2.2.2.1
  have hS : va_S (AM β) s.heap s.heap [] := va_S.rf
  have hl : lv_has ls 2 [(0, .ref β)] := hl
  have hRf : 0 ≤ rmX9_back.frames := Nat.le_refl _
  have hRl : 0 ≤ rmX9_back.locals := Nat.le_refl _
  have hcs : 0 ≤ rmX9_back.cells ∧ 0 ≤ rmX9_back.slots := ⟨Nat.le_refl _, Nat.le_refl _⟩
  refine lv_aload_n hx hb dX9_back_0 rfl (lv_at hl 0 rfl) ?_
  refine gX9_429 C hw dX9_back_1 ?_
  refine lv_if_ne (tgt := 10) hx hb dX9_back_4 (by decide) (fun cc => ?_) (fun cc => ?_)
  · replace hm := ite_n cc hm
    refine lv_aload_n hx hb dX9_back_10 rfl (lv_at hl 0 rfl) ?_
    refine lv_aload_n hx hb dX9_back_11 rfl (lv_at hl 0 rfl) ?_
    refine gX9_435 C hw dX9_back_12 ?_
    refine pX9_124 C hw hS dX9_back_15 (fun H locs hw hS => ?_)
    obtain ⟨x1, ev, hm⟩ := lt_e hm
    rw [← ev] at hw
    clear ev
    refine lv_aload_n hx hb dX9_back_18 rfl (lv_at hl 0 rfl) ?_
    refine lv_aload_n hx hb dX9_back_19 rfl (lv_at hl 0 rfl) ?_
    refine gX9_438 C hw dX9_back_20 ?_
    refine pX9_169 C hw hS dX9_back_23 (fun H locs hw hS => ?_)
    obtain ⟨x2, ev, hm⟩ := lt_e hm
    rw [← ev] at hw
    clear ev
    refine lv_aload_n hx hb dX9_back_26 rfl (lv_at hl 0 rfl) ?_
    refine lv_aload_n hx hb dX9_back_27 rfl (lv_at hl 0 rfl) ?_
    refine gX9_441 C hw dX9_back_28 ?_
    refine pX9_184 C hw hS dX9_back_31 (fun H locs hw hS => ?_)
    obtain ⟨x3, ev, hm⟩ := lt_e hm
    rw [← ev] at hw
    clear ev
    refine lv_iconst (v := 0) hx hb dX9_back_34 (by decide) ?_
    refine lv_istore_n (lv' := [(1, .int 0), (0, .ref β)]) hx hb dX9_back_35 rfl hl (by decide) rfl (fun ls hl => ?_)
    obtain ⟨x14, hj, hm⟩ := bind_e hm
    refine lX9_back_36 C hRf hRl hcs NF _ _ _ _ _ _ hj hw hS (lv_sub hl [1, 0] rfl) (fun x14_ e0 H locs ls hw hS hl => ?_)
    cases e0
    refine lv_iconst (v := 0) hx hb dX9_back_86 (by decide) ?_
    refine lv_istore_n (lv' := [(1, .int 0), (0, .ref β)]) hx hb dX9_back_87 rfl hl (by decide) rfl (fun ls hl => ?_)
    obtain ⟨x19, hj, hm⟩ := bind_e hm
    refine lX9_back_88 C hRf hRl hcs NF _ _ _ _ _ _ hj hw hS (lv_sub hl [1, 0] rfl) (fun x19_ e0 H locs ls hw hS hl => ?_)
    cases e0
    refine lv_aload_n hx hb dX9_back_111 rfl (lv_at hl 0 rfl) ?_
    refine gX9_169 C hw dX9_back_112 ?_
    obtain ⟨rfl, rfl⟩ := inj2 hm
    exact xret_i C hw hS dX9_back_115
  · replace hm := ite_p cc hm
    refine lv_bipush (v := (-3)) hx hb dX9_back_7 (by decide) ?_
    obtain ⟨rfl, rfl⟩ := inj2 hm
    exact xret_i C hw hS dX9_back_9
theorem dX9_count_0 : decode cX9_count 0 = .ok (.iconst 0, 1) := by decide +kernel
theorem dX9_count_1 : decode cX9_count 1 = .ok (.istore_n 2, 1) := by decide +kernel
theorem dX9_count_2 : decode cX9_count 2 = .ok (.iload_n 1, 1) := by decide +kernel
theorem dX9_count_3 : decode cX9_count 3 = .ok (.tableswitch 98 0 6 #[41, 46, 51, 56, 61, 66, 71], 41) := by decide +kernel
theorem dX9_count_44 : decode cX9_count 44 = .ok (.aload_n 0, 1) := by decide +kernel
theorem dX9_count_45 : decode cX9_count 45 = .ok (.getfield 129, 3) := by decide +kernel
theorem dX9_count_48 : decode cX9_count 48 = .ok (.ireturn, 1) := by decide +kernel
theorem dX9_count_49 : decode cX9_count 49 = .ok (.aload_n 0, 1) := by decide +kernel
theorem dX9_count_50 : decode cX9_count 50 = .ok (.getfield 169, 3) := by decide +kernel
theorem dX9_count_53 : decode cX9_count 53 = .ok (.ireturn, 1) := by decide +kernel
theorem dX9_count_54 : decode cX9_count 54 = .ok (.aload_n 0, 1) := by decide +kernel
theorem dX9_count_55 : decode cX9_count 55 = .ok (.getfield 121, 3) := by decide +kernel
theorem dX9_count_58 : decode cX9_count 58 = .ok (.ireturn, 1) := by decide +kernel
theorem dX9_count_59 : decode cX9_count 59 = .ok (.aload_n 0, 1) := by decide +kernel
theorem dX9_count_60 : decode cX9_count 60 = .ok (.getfield 270, 3) := by decide +kernel
theorem dX9_count_63 : decode cX9_count 63 = .ok (.ireturn, 1) := by decide +kernel
theorem dX9_count_64 : decode cX9_count 64 = .ok (.aload_n 0, 1) := by decide +kernel
theorem dX9_count_65 : decode cX9_count 65 = .ok (.getfield 184, 3) := by decide +kernel
theorem dX9_count_68 : decode cX9_count 68 = .ok (.ireturn, 1) := by decide +kernel
theorem dX9_count_69 : decode cX9_count 69 = .ok (.aload_n 0, 1) := by decide +kernel
theorem dX9_count_70 : decode cX9_count 70 = .ok (.getfield 124, 3) := by decide +kernel
theorem dX9_count_73 : decode cX9_count 73 = .ok (.ireturn, 1) := by decide +kernel
theorem dX9_count_74 : decode cX9_count 74 = .ok (.iconst 0, 1) := by decide +kernel
theorem dX9_count_75 : decode cX9_count 75 = .ok (.istore_n 3, 1) := by decide +kernel
theorem dX9_count_76 : decode cX9_count 76 = .ok (.iload_n 3, 1) := by decide +kernel
theorem dX9_count_77 : decode cX9_count 77 = .ok (.aload_n 0, 1) := by decide +kernel
theorem dX9_count_78 : decode cX9_count 78 = .ok (.getfield 129, 3) := by decide +kernel
theorem dX9_count_81 : decode cX9_count 81 = .ok (.if_icmp .ge 18, 3) := by decide +kernel
theorem dX9_count_84 : decode cX9_count 84 = .ok (.iload_n 2, 1) := by decide +kernel
theorem dX9_count_85 : decode cX9_count 85 = .ok (.aload_n 0, 1) := by decide +kernel
theorem dX9_count_86 : decode cX9_count 86 = .ok (.getfield 38, 3) := by decide +kernel
theorem dX9_count_89 : decode cX9_count 89 = .ok (.iload_n 3, 1) := by decide +kernel
theorem dX9_count_90 : decode cX9_count 90 = .ok (.iaload, 1) := by decide +kernel
theorem dX9_count_91 : decode cX9_count 91 = .ok (.iadd, 1) := by decide +kernel
theorem dX9_count_92 : decode cX9_count 92 = .ok (.istore_n 2, 1) := by decide +kernel
theorem dX9_count_93 : decode cX9_count 93 = .ok (.iinc 3 1, 3) := by decide +kernel
theorem dX9_count_96 : decode cX9_count 96 = .ok (.goto (-20), 3) := by decide +kernel
theorem dX9_count_99 : decode cX9_count 99 = .ok (.iload_n 2, 1) := by decide +kernel
theorem dX9_count_100 : decode cX9_count 100 = .ok (.ireturn, 1) := by decide +kernel
theorem dX9_count_101 : decode cX9_count 101 = .ok (.bipush (-2), 2) := by decide +kernel
theorem dX9_count_103 : decode cX9_count 103 = .ok (.ireturn, 1) := by decide +kernel
def BX9_count_76 (x : MS) (lp : Int32 → Int32 → Option (Int32)) (u2 : Int32) (u3 : Int32) : Option (Int32) := if (x.1 0 13) ≤ u3 then some u2 else if ib u3 10 then lt (u2 + (x.2.1 9 u3.toNatClampNeg)) fun v2 => lt (u3 + 1) fun v3 => lp v2 v3 else none
def LX9_count_76 (x : MS) : Nat → Int32 → Int32 → Option (Int32)
  | 0, _, _ => none
  | n + 1, u2, u3 => BX9_count_76 x (LX9_count_76 x n) u2 u3
def fX9_count (x : MS) (a1 : Int32) : Option (Int32) := if a1 = 0 then some (x.1 0 13) else if a1 = 1 then some (x.1 0 41) else if a1 = 2 then some (x.1 0 3) else if a1 = 3 then some (x.1 0 6) else if a1 = 4 then some (x.1 0 4) else if a1 = 5 then some (x.1 0 15) else if a1 = 6 then Option.bind (LX9_count_76 x NF 0 0) fun v4 => some v4 else some (-2)
set_option maxHeartbeats 4000000 in
set_option maxRecDepth 100000 in
theorem lX9_count_76 {p : Program} {l : Launch} {e : Env} {R : Room} {s : State} {m : MethodId} {args : Array Value} {below : List Frame} {meth : Method} {c : Code} {cells slots : Nat} {Q : State → Prop} {G : xG} {β N : Nat} (C : Cx p s m args meth c RX9 cX9_count 4 (some .int) (KK G)) (hRf : 0 ≤ R.frames) (hRl : 0 ≤ R.locals) (hcs : cells ≤ R.cells ∧ slots ≤ R.slots) (x : MS) : ∀ (n : Nat) (u2 : Int32) (u3 : Int32) (J : Int32) (H : Heap) (locs : List Loc) (ls : Array Slot), LX9_count_76 x n u2 u3 = some J → MW β G N x H → va_S (AM β) s.heap H locs → lv_has ls 4 [(0, .ref β), (2, .int u2), (3, .int u3)] → (∀ (w2 : Int32), J = w2 → ∀ (H : Heap) (locs : List Loc) (ls : Array Slot), MW β G N x H → va_S (AM β) s.heap H locs → lv_has ls 4 [(2, .int w2)] → W p l e R s m args below meth c H locs cells slots Q (F0 m 99 ls [])) → W p l e R s m args below meth c H locs cells slots Q (F0 m 76 ls []) := by
  have hx := C.1
  have hb := C.2.1
  have ho := C.2.2.2.1
  have hts := C.2.2.2.2.1
  intro n
  induction n with
  | zero =>
    intro u2 u3 J H locs ls hm
    exact absurd hm (by simp [LX9_count_76])
  | succ n ih =>
    intro u2 u3 J H locs ls hm hw hS hl ke
    replace hm : BX9_count_76 x (LX9_count_76 x n) u2 u3 = some J := hm
    unfold BX9_count_76 at hm
    refine lv_iload_n hx hb dX9_count_76 rfl (lv_at hl 2 rfl) ?_
    refine lv_aload_n hx hb dX9_count_77 rfl (lv_at hl 0 rfl) ?_
    refine gX9_129 C hw dX9_count_78 ?_
    refine lv_icmp_ge (tgt := 99) hx hb dX9_count_81 (by decide) (fun cc => ?_) (fun cc => ?_)
    · replace hm := ite_p cc hm
      exact ke _ (Option.some.inj hm).symm _ _ _ hw hS (lv_sub hl [1] rfl)
    · replace hm := ite_n cc hm
      refine lv_iload_n hx hb dX9_count_84 rfl (lv_at hl 1 rfl) ?_
      refine lv_aload_n hx hb dX9_count_85 rfl (lv_at hl 0 rfl) ?_
      refine gX9_38 C hw dX9_count_86 ?_
      refine lv_iload_n hx hb dX9_count_89 rfl (lv_at hl 2 rfl) ?_
      obtain ⟨h1, hm⟩ := chk_e hm
      refine alM_9 C hw h1 dX9_count_90 ?_
      refine lv_iadd hx hb dX9_count_91 ?_
      refine topI hm (fun v2 hm => ?_)
      refine lv_istore_n (lv' := [(2, .int v2), (0, .ref β), (3, .int u3)]) hx hb dX9_count_92 rfl hl (by decide) rfl (fun ls hl => ?_)
      obtain ⟨v3, ev, hm⟩ := lt_e hm
      refine lv_iinc (v := v3) (lv' := [(3, .int v3), (2, .int v2), (0, .ref β)]) hx hb dX9_count_93 hl (k := 2) rfl (by rw [ev]; rfl) (by decide) rfl (fun ls hl => ?_)
      clear ev
      refine lv_goto (tgt := 76) hx hb dX9_count_96 (by decide) ?_
      exact ih _ _ _ _ _ _ hm hw hS (lv_sub hl [2, 1, 0] rfl) ke
abbrev rmX9_count : Room := { frames := 0, cells := 0, slots := 0, locals := 0 }
set_option maxHeartbeats 4000000 in
set_option maxRecDepth 100000 in
theorem kX9_count {l : Launch} {G : xG} {β N : Nat} {x : MS} {a1 : Int32} {r : Int32} (hm : fX9_count x a1 = some r) : Met l yX9_count (.code yX9_count cX9_count 4 (some .int) :: GT) rmX9_count (PcW [.ref β, .int a1] (MW β G N x) (KK G)) (QcW (AM β) (some (.int r)) (MW β G N x)) 0 0 (AM β) := by
  unfold fX9_count at hm
  refine xpro (own := RX9) (by decide +kernel) rfl (Nat.le_of_ble_eq_true rfl) ?_
  intro p e s m args below meth c C hw ls hl
  have hx := C.1
  have hb := C.2.1
  have ho := C.2.2.2.1
  have hts := C.2.2.2.2.1
  have hS : va_S (AM β) s.heap s.heap [] := va_S.rf
  have hl : lv_has ls 4 [(0, .ref β), (1, .int a1)] := hl
  have hRf : 0 ≤ rmX9_count.frames := Nat.le_refl _
  have hRl : 0 ≤ rmX9_count.locals := Nat.le_refl _
  have hcs : 0 ≤ rmX9_count.cells ∧ 0 ≤ rmX9_count.slots := ⟨Nat.le_refl _, Nat.le_refl _⟩
  refine lv_iconst (v := 0) hx hb dX9_count_0 (by decide) ?_
  refine lv_istore_n (lv' := [(2, .int 0), (0, .ref β), (1, .int a1)]) hx hb dX9_count_1 rfl hl (by decide) rfl (fun ls hl => ?_)
  refine lv_iload_n hx hb dX9_count_2 rfl (lv_at hl 2 rfl) ?_
  by_cases k0 : a1 = 0
  · replace hm := ite_p k0 hm
    refine lv_tableIn (tgt := 44) (off := 41) hx hb dX9_count_3 (by rw [k0]; decide) (by rw [k0]; decide) (by rw [k0]; rfl) (by decide) ?_
    refine lv_aload_n hx hb dX9_count_44 rfl (lv_at hl 1 rfl) ?_
    refine gX9_129 C hw dX9_count_45 ?_
    obtain rfl := Option.some.inj hm
    exact xret_i C hw hS dX9_count_48
  replace hm := ite_n k0 hm
  by_cases k1 : a1 = 1
  · replace hm := ite_p k1 hm
    refine lv_tableIn (tgt := 49) (off := 46) hx hb dX9_count_3 (by rw [k1]; decide) (by rw [k1]; decide) (by rw [k1]; rfl) (by decide) ?_
    refine lv_aload_n hx hb dX9_count_49 rfl (lv_at hl 1 rfl) ?_
    refine gX9_169 C hw dX9_count_50 ?_
    obtain rfl := Option.some.inj hm
    exact xret_i C hw hS dX9_count_53
  replace hm := ite_n k1 hm
  by_cases k2 : a1 = 2
  · replace hm := ite_p k2 hm
    refine lv_tableIn (tgt := 54) (off := 51) hx hb dX9_count_3 (by rw [k2]; decide) (by rw [k2]; decide) (by rw [k2]; rfl) (by decide) ?_
    refine lv_aload_n hx hb dX9_count_54 rfl (lv_at hl 1 rfl) ?_
    refine gX9_121 C hw dX9_count_55 ?_
    obtain rfl := Option.some.inj hm
    exact xret_i C hw hS dX9_count_58
  replace hm := ite_n k2 hm
  by_cases k3 : a1 = 3
  · replace hm := ite_p k3 hm
    refine lv_tableIn (tgt := 59) (off := 56) hx hb dX9_count_3 (by rw [k3]; decide) (by rw [k3]; decide) (by rw [k3]; rfl) (by decide) ?_
    refine lv_aload_n hx hb dX9_count_59 rfl (lv_at hl 1 rfl) ?_
    refine gX9_270 C hw dX9_count_60 ?_
    obtain rfl := Option.some.inj hm
    exact xret_i C hw hS dX9_count_63
  replace hm := ite_n k3 hm
  by_cases k4 : a1 = 4
  · replace hm := ite_p k4 hm
    refine lv_tableIn (tgt := 64) (off := 61) hx hb dX9_count_3 (by rw [k4]; decide) (by rw [k4]; decide) (by rw [k4]; rfl) (by decide) ?_
    refine lv_aload_n hx hb dX9_count_64 rfl (lv_at hl 1 rfl) ?_
    refine gX9_184 C hw dX9_count_65 ?_
    obtain rfl := Option.some.inj hm
    exact xret_i C hw hS dX9_count_68
  replace hm := ite_n k4 hm
  by_cases k5 : a1 = 5
  · replace hm := ite_p k5 hm
    refine lv_tableIn (tgt := 69) (off := 66) hx hb dX9_count_3 (by rw [k5]; decide) (by rw [k5]; decide) (by rw [k5]; rfl) (by decide) ?_
    refine lv_aload_n hx hb dX9_count_69 rfl (lv_at hl 1 rfl) ?_
    refine gX9_124 C hw dX9_count_70 ?_
    obtain rfl := Option.some.inj hm
    exact xret_i C hw hS dX9_count_73
  replace hm := ite_n k5 hm
  by_cases k6 : a1 = 6
  · replace hm := ite_p k6 hm
    refine lv_tableIn (tgt := 74) (off := 71) hx hb dX9_count_3 (by rw [k6]; decide) (by rw [k6]; decide) (by rw [k6]; rfl) (by decide) ?_
    refine lv_iconst (v := 0) hx hb dX9_count_74 (by decide) ?_
    refine lv_istore_n (lv' := [(3, .int 0), (2, .int 0), (0, .ref β), (1, .int a1)]) hx hb dX9_count_75 rfl hl (by decide) rfl (fun ls hl => ?_)
    obtain ⟨v4, hj, hm⟩ := bind_e hm
    refine lX9_count_76 C hRf hRl hcs x NF _ _ _ _ _ _ hj hw hS (lv_sub hl [2, 1, 0] rfl) (fun v4_ e0 H locs ls hw hS hl => ?_)
    cases e0
    refine lv_iload_n hx hb dX9_count_99 rfl (lv_at hl 0 rfl) ?_
    obtain rfl := Option.some.inj hm
    exact xret_i C hw hS dX9_count_100
  replace hm := ite_n k6 hm
  have k0i := lv_neT k0 (a := 0) (by decide)
  have k1i := lv_neT k1 (a := 1) (by decide)
  have k2i := lv_neT k2 (a := 2) (by decide)
  have k3i := lv_neT k3 (a := 3) (by decide)
  have k4i := lv_neT k4 (a := 4) (by decide)
  have k5i := lv_neT k5 (a := 5) (by decide)
  have k6i := lv_neT k6 (a := 6) (by decide)
  refine lv_tableOut (tgt := 101) hx hb dX9_count_3 (by omega) (by decide) ?_
  refine lv_bipush (v := (-2)) hx hb dX9_count_101 (by decide) ?_
  obtain rfl := Option.some.inj hm
  exact xret_i C hw hS dX9_count_103
theorem dX9_isSheet_0 : decode cX9_isSheet 0 = .ok (.iload_n 0, 1) := by decide +kernel
theorem dX9_isSheet_1 : decode cX9_isSheet 1 = .ok (.i2l, 1) := by decide +kernel
theorem dX9_isSheet_2 : decode cX9_isSheet 2 = .ok (.lconst 0, 1) := by decide +kernel
theorem dX9_isSheet_3 : decode cX9_isSheet 3 = .ok (.ldc2_w 136, 3) := by decide +kernel
theorem dX9_isSheet_6 : decode cX9_isSheet 6 = .ok (.invokestatic 132, 3) := by decide +kernel
theorem dX9_isSheet_9 : decode cX9_isSheet 9 = .ok (.ireturn, 1) := by decide +kernel
def fX9_isSheet (a1 : Int32) : Option (Bool) := Option.bind (fX9_in (a1.toInt64) 0 3) fun v1 => some v1
abbrev rmX9_isSheet : Room := { frames := 1, cells := 0, slots := 0, locals := 25 }
set_option maxHeartbeats 4000000 in
set_option maxRecDepth 100000 in
theorem kX9_isSheet {l : Launch} {G : xG} {β N : Nat} {x : MS} {a1 : Int32} {r : Bool} (hm : fX9_isSheet a1 = some r) : Met l yX9_isSheet (.code yX9_isSheet cX9_isSheet 1 (some .boolean) :: GT) rmX9_isSheet (PcW [.int a1] (MW β G N x) (KK G)) (QcW (AM β) (some (.int (bI r))) (MW β G N x)) 0 0 (AM β) := by
  unfold fX9_isSheet at hm
  refine xpro (own := RX9) (by decide +kernel) rfl (Nat.le_of_ble_eq_true rfl) ?_
  intro p e s m args below meth c C hw ls hl
  have hx := C.1
  have hb := C.2.1
  have ho := C.2.2.2.1
  have hts := C.2.2.2.2.1
  have hS : va_S (AM β) s.heap s.heap [] := va_S.rf
  have hl : lv_has ls 1 [(0, .int a1)] := hl
  have hRf : 1 ≤ rmX9_isSheet.frames := Nat.le_refl _
  have hRl : 25 ≤ rmX9_isSheet.locals := Nat.le_refl _
  have hcs : 0 ≤ rmX9_isSheet.cells ∧ 0 ≤ rmX9_isSheet.slots := ⟨Nat.le_refl _, Nat.le_refl _⟩
  refine lv_iload_n hx hb dX9_isSheet_0 rfl (lv_at hl 0 rfl) ?_
  refine lv_i2l hx hb dX9_isSheet_1 rfl ?_
  refine lv_lconst (v := 0) hx hb dX9_isSheet_2 (by decide) ?_
  refine lv_ldc2 (v := 3) hx hb ho (hts (.constantLong RX9 136 3) (tg 1117 (by decide +kernel) rfl)) dX9_isSheet_3 ?_
  obtain ⟨v1, h2, hm⟩ := bind_e hm
  refine sX9_132 C h2 hw hS hl.1 (Nat.le_of_ble_eq_true rfl) (Nat.le_trans (Nat.le_of_ble_eq_true rfl) hRf) (Nat.le_trans (Nat.le_of_ble_eq_true rfl) hRl) hcs dX9_isSheet_6 (fun H locs hw hS => ?_)
  obtain rfl := Option.some.inj hm
  exact xret_z C (bI_nar _) hw hS dX9_isSheet_9
theorem dX9_sheet_0 : decode cX9_sheet 0 = .ok (.iload_n 1, 1) := by decide +kernel
theorem dX9_sheet_1 : decode cX9_sheet 1 = .ok (.invokestatic 444, 3) := by decide +kernel
theorem dX9_sheet_4 : decode cX9_sheet 4 = .ok (.ifCond .eq 27, 3) := by decide +kernel
theorem dX9_sheet_7 : decode cX9_sheet 7 = .ok (.iload_n 2, 1) := by decide +kernel
theorem dX9_sheet_8 : decode cX9_sheet 8 = .ok (.i2l, 1) := by decide +kernel
theorem dX9_sheet_9 : decode cX9_sheet 9 = .ok (.ldc2_w 257, 3) := by decide +kernel
theorem dX9_sheet_12 : decode cX9_sheet 12 = .ok (.ldc2_w 150, 3) := by decide +kernel
theorem dX9_sheet_15 : decode cX9_sheet 15 = .ok (.invokestatic 132, 3) := by decide +kernel
theorem dX9_sheet_18 : decode cX9_sheet 18 = .ok (.ifCond .eq 13, 3) := by decide +kernel
theorem dX9_sheet_21 : decode cX9_sheet 21 = .ok (.iload_n 2, 1) := by decide +kernel
theorem dX9_sheet_22 : decode cX9_sheet 22 = .ok (.ifCond .lt 12, 3) := by decide +kernel
theorem dX9_sheet_25 : decode cX9_sheet 25 = .ok (.iload_n 3, 1) := by decide +kernel
theorem dX9_sheet_26 : decode cX9_sheet 26 = .ok (.bipush 40, 2) := by decide +kernel
theorem dX9_sheet_28 : decode cX9_sheet 28 = .ok (.if_icmp .le 6, 3) := by decide +kernel
theorem dX9_sheet_31 : decode cX9_sheet 31 = .ok (.bipush (-2), 2) := by decide +kernel
theorem dX9_sheet_33 : decode cX9_sheet 33 = .ok (.ireturn, 1) := by decide +kernel
theorem dX9_sheet_34 : decode cX9_sheet 34 = .ok (.iload_n 2, 1) := by decide +kernel
theorem dX9_sheet_35 : decode cX9_sheet 35 = .ok (.ifCond .lt 10, 3) := by decide +kernel
theorem dX9_sheet_38 : decode cX9_sheet 38 = .ok (.iload_n 3, 1) := by decide +kernel
theorem dX9_sheet_39 : decode cX9_sheet 39 = .ok (.ifCond .ge 6, 3) := by decide +kernel
theorem dX9_sheet_42 : decode cX9_sheet 42 = .ok (.bipush (-14), 2) := by decide +kernel
theorem dX9_sheet_44 : decode cX9_sheet 44 = .ok (.ireturn, 1) := by decide +kernel
theorem dX9_sheet_45 : decode cX9_sheet 45 = .ok (.aload_n 0, 1) := by decide +kernel
theorem dX9_sheet_46 : decode cX9_sheet 46 = .ok (.getfield 90, 3) := by decide +kernel
theorem dX9_sheet_49 : decode cX9_sheet 49 = .ok (.iload_n 1, 1) := by decide +kernel
theorem dX9_sheet_50 : decode cX9_sheet 50 = .ok (.iload_n 2, 1) := by decide +kernel
theorem dX9_sheet_51 : decode cX9_sheet 51 = .ok (.ifCond .lt 7, 3) := by decide +kernel
theorem dX9_sheet_54 : decode cX9_sheet 54 = .ok (.iconst 1, 1) := by decide +kernel
theorem dX9_sheet_55 : decode cX9_sheet 55 = .ok (.goto 4, 3) := by decide +kernel
theorem dX9_sheet_58 : decode cX9_sheet 58 = .ok (.iconst 0, 1) := by decide +kernel
theorem dX9_sheet_59 : decode cX9_sheet 59 = .ok (.bastore, 1) := by decide +kernel
theorem dX9_sheet_60 : decode cX9_sheet 60 = .ok (.aload_n 0, 1) := by decide +kernel
theorem dX9_sheet_61 : decode cX9_sheet 61 = .ok (.getfield 94, 3) := by decide +kernel
theorem dX9_sheet_64 : decode cX9_sheet 64 = .ok (.iload_n 1, 1) := by decide +kernel
theorem dX9_sheet_65 : decode cX9_sheet 65 = .ok (.iload_n 2, 1) := by decide +kernel
theorem dX9_sheet_66 : decode cX9_sheet 66 = .ok (.iastore, 1) := by decide +kernel
theorem dX9_sheet_67 : decode cX9_sheet 67 = .ok (.aload_n 0, 1) := by decide +kernel
theorem dX9_sheet_68 : decode cX9_sheet 68 = .ok (.getfield 97, 3) := by decide +kernel
theorem dX9_sheet_71 : decode cX9_sheet 71 = .ok (.iload_n 1, 1) := by decide +kernel
theorem dX9_sheet_72 : decode cX9_sheet 72 = .ok (.iload_n 3, 1) := by decide +kernel
theorem dX9_sheet_73 : decode cX9_sheet 73 = .ok (.iastore, 1) := by decide +kernel
theorem dX9_sheet_74 : decode cX9_sheet 74 = .ok (.iconst 0, 1) := by decide +kernel
theorem dX9_sheet_75 : decode cX9_sheet 75 = .ok (.istore 4, 2) := by decide +kernel
theorem dX9_sheet_77 : decode cX9_sheet 77 = .ok (.iload 4, 2) := by decide +kernel
theorem dX9_sheet_79 : decode cX9_sheet 79 = .ok (.iload_n 3, 1) := by decide +kernel
theorem dX9_sheet_80 : decode cX9_sheet 80 = .ok (.if_icmp .ge 26, 3) := by decide +kernel
theorem dX9_sheet_83 : decode cX9_sheet 83 = .ok (.iload_n 2, 1) := by decide +kernel
theorem dX9_sheet_84 : decode cX9_sheet 84 = .ok (.ifCond .lt 22, 3) := by decide +kernel
theorem dX9_sheet_87 : decode cX9_sheet 87 = .ok (.aload_n 0, 1) := by decide +kernel
theorem dX9_sheet_88 : decode cX9_sheet 88 = .ok (.getfield 100, 3) := by decide +kernel
theorem dX9_sheet_91 : decode cX9_sheet 91 = .ok (.bipush 40, 2) := by decide +kernel
theorem dX9_sheet_93 : decode cX9_sheet 93 = .ok (.iload_n 1, 1) := by decide +kernel
theorem dX9_sheet_94 : decode cX9_sheet 94 = .ok (.imul, 1) := by decide +kernel
theorem dX9_sheet_95 : decode cX9_sheet 95 = .ok (.iload 4, 2) := by decide +kernel
theorem dX9_sheet_97 : decode cX9_sheet 97 = .ok (.iadd, 1) := by decide +kernel
theorem dX9_sheet_98 : decode cX9_sheet 98 = .ok (.iconst 0, 1) := by decide +kernel
theorem dX9_sheet_99 : decode cX9_sheet 99 = .ok (.iastore, 1) := by decide +kernel
theorem dX9_sheet_100 : decode cX9_sheet 100 = .ok (.iinc 4 1, 3) := by decide +kernel
theorem dX9_sheet_103 : decode cX9_sheet 103 = .ok (.goto (-26), 3) := by decide +kernel
theorem dX9_sheet_106 : decode cX9_sheet 106 = .ok (.iconst 1, 1) := by decide +kernel
theorem dX9_sheet_107 : decode cX9_sheet 107 = .ok (.ireturn, 1) := by decide +kernel
theorem sX9_444 {p : Program} {l : Launch} {e : Env} {R : Room} {s : State} {m : MethodId} {args : Array Value} {below : List Frame} {meth : Method} {c : Code} {H : Heap} {locs : List Loc} {cells slots : Nat} {Q : State → Prop} {cc : ByteArray} {pc nL : Nat} {ls : Array Slot} {rest : List Value} {ret : Option FieldType} {G : xG} {β N : Nat} {x : MS} {a1 : Int32} {r : Bool} (C : Cx p s m args meth c RX9 cc nL ret (KK G)) (h : fX9_isSheet a1 = some r) (hw : MW β G N x H) (hS : va_S (AM β) s.heap H locs) (hsz : ls.size = nL) (hW : (rest.map fun v => v.category).sum ≤ 8) (hR : 2 ≤ R.frames) (hR2 : 45 ≤ R.locals) (hcs : cells ≤ R.cells ∧ slots ≤ R.slots) (hd : decode cc pc = .ok (.invokestatic 444, 3)) (kk : ∀ (H1 : Heap) (locs1 : List Loc), MW β G N x H1 → va_S (AM β) s.heap H1 locs1 → W p l e R s m args below meth c H1 locs1 cells slots Q (F0 m (pc + 3) ls (.int (bI r) :: rest))) : W p l e R s m args below meth c H locs cells slots Q (F0 m pc ls (.int a1 :: rest)) :=
  xcallS C (As := [.int a1]) (rest := rest) (nA := 1) (kX9_isSheet h) (tg 1414 (by decide +kernel) rfl) (tg 1415 (by decide +kernel) rfl) (tg 14 (by decide +kernel) rfl) (tg 1416 (by decide +kernel) rfl) ⟨by decide +kernel, by decide +kernel, by decide +kernel⟩ rfl rfl ⟨hR, hR2⟩ hw hS (fun _ q => q) rfl rfl hsz hW hd hcs (fun H1 locs1 hw hz hk hS => kk H1 locs1 hw hS)
theorem gX9_90 {p : Program} {l : Launch} {e : Env} {R : Room} {s : State} {m : MethodId} {args : Array Value} {below : List Frame} {meth : Method} {c : Code} {H : Heap} {locs : List Loc} {cells slots : Nat} {Q : State → Prop} {cc : ByteArray} {pc nL : Nat} {ls : Array Slot} {rest : List Value} {ret : Option FieldType} {G : xG} {β N : Nat} {x : MS} (C : Cx p s m args meth c RX9 cc nL ret (KK G)) (hw : MW β G N x H) (hd : decode cc pc = .ok (.getfield 90, 3)) (kk : W p l e R s m args below meth c H locs cells slots Q (F0 m (pc + 3) ls (.ref (β + 26) :: rest))) : W p l e R s m args below meth c H locs cells slots Q (F0 m pc ls (.ref β :: rest)) :=
  va_get C.1 C.2.1 C.2.2.2.2.1 iwX9 C.2.2.2.1 C.K.1 (xP1 (hw.2 0 (by decide))) 0 rfl rfl 53 (by decide) (C.2.2.2.2.1 (.fieldLink RX9 90 RX9 "isThere" "[Z") (tg 969 (by decide +kernel) rfl)) (fun _ h9 => h9) rfl hd kk
theorem asM_26 {p : Program} {l : Launch} {e : Env} {R : Room} {s : State} {m : MethodId} {args : Array Value} {below : List Frame} {meth : Method} {c : Code} {H : Heap} {locs : List Loc} {cells slots : Nat} {Q : State → Prop} {cc : ByteArray} {pc nL : Nat} {ls : Array Slot} {rest : List Value} {ret : Option FieldType} {G : xG} {β N : Nat} {x : MS} {own : String} {i : Int32} {v : Int32} (C : Cx p s m args meth c own cc nL ret (KK G)) (hw : MW β G N x H) (hS : va_S (AM β) s.heap H locs) (hin : ib i 4) (hd : decode cc pc = .ok (.bastore, 1)) (kk : ∀ (H1 : Heap) (locs1 : List Loc), MW β G N (msA x 26 i.toNatClampNeg (vp_nar .boolean v)) H1 → va_S (AM β) s.heap H1 locs1 → W p l e R s m args below meth c H1 locs1 cells slots Q (F0 m (pc + 1) ls (rest))) : W p l e R s m args below meth c H locs cells slots Q (F0 m pc ls (.int v :: .int i :: .ref (β + 26) :: rest)) :=
  x_zast C.1 C.2.1 C.K.1 hS 3 (hw.2 26 (by decide)) (AM.in (by decide)) rfl hin hd (fun H1 locs1 hat ho hS => kk H1 locs1 (hw.setA 26 _ _ hat ho) hS)
theorem gX9_94 {p : Program} {l : Launch} {e : Env} {R : Room} {s : State} {m : MethodId} {args : Array Value} {below : List Frame} {meth : Method} {c : Code} {H : Heap} {locs : List Loc} {cells slots : Nat} {Q : State → Prop} {cc : ByteArray} {pc nL : Nat} {ls : Array Slot} {rest : List Value} {ret : Option FieldType} {G : xG} {β N : Nat} {x : MS} (C : Cx p s m args meth c RX9 cc nL ret (KK G)) (hw : MW β G N x H) (hd : decode cc pc = .ok (.getfield 94, 3)) (kk : W p l e R s m args below meth c H locs cells slots Q (F0 m (pc + 3) ls (.ref (β + 27) :: rest))) : W p l e R s m args below meth c H locs cells slots Q (F0 m pc ls (.ref β :: rest)) :=
  va_get C.1 C.2.1 C.2.2.2.2.1 iwX9 C.2.2.2.1 C.K.1 (xP1 (hw.2 0 (by decide))) 0 rfl rfl 54 (by decide) (C.2.2.2.2.1 (.fieldLink RX9 94 RX9 "sorts" "[I") (tg 970 (by decide +kernel) rfl)) (fun _ h9 => h9) rfl hd kk
theorem asM_27 {p : Program} {l : Launch} {e : Env} {R : Room} {s : State} {m : MethodId} {args : Array Value} {below : List Frame} {meth : Method} {c : Code} {H : Heap} {locs : List Loc} {cells slots : Nat} {Q : State → Prop} {cc : ByteArray} {pc nL : Nat} {ls : Array Slot} {rest : List Value} {ret : Option FieldType} {G : xG} {β N : Nat} {x : MS} {own : String} {i : Int32} {v : Int32} (C : Cx p s m args meth c own cc nL ret (KK G)) (hw : MW β G N x H) (hS : va_S (AM β) s.heap H locs) (hin : ib i 4) (hd : decode cc pc = .ok (.iastore, 1)) (kk : ∀ (H1 : Heap) (locs1 : List Loc), MW β G N (msA x 27 i.toNatClampNeg v) H1 → va_S (AM β) s.heap H1 locs1 → W p l e R s m args below meth c H1 locs1 cells slots Q (F0 m (pc + 1) ls (rest))) : W p l e R s m args below meth c H locs cells slots Q (F0 m pc ls (.int v :: .int i :: .ref (β + 27) :: rest)) :=
  x_iast C.1 C.2.1 C.K.1 hS 0 (hw.2 27 (by decide)) (AM.in (by decide)) rfl hin hd (fun H1 locs1 hat ho hS => kk H1 locs1 (hw.setA 27 _ _ hat ho) hS)
theorem gX9_97 {p : Program} {l : Launch} {e : Env} {R : Room} {s : State} {m : MethodId} {args : Array Value} {below : List Frame} {meth : Method} {c : Code} {H : Heap} {locs : List Loc} {cells slots : Nat} {Q : State → Prop} {cc : ByteArray} {pc nL : Nat} {ls : Array Slot} {rest : List Value} {ret : Option FieldType} {G : xG} {β N : Nat} {x : MS} (C : Cx p s m args meth c RX9 cc nL ret (KK G)) (hw : MW β G N x H) (hd : decode cc pc = .ok (.getfield 97, 3)) (kk : W p l e R s m args below meth c H locs cells slots Q (F0 m (pc + 3) ls (.ref (β + 28) :: rest))) : W p l e R s m args below meth c H locs cells slots Q (F0 m pc ls (.ref β :: rest)) :=
  va_get C.1 C.2.1 C.2.2.2.2.1 iwX9 C.2.2.2.1 C.K.1 (xP1 (hw.2 0 (by decide))) 0 rfl rfl 55 (by decide) (C.2.2.2.2.1 (.fieldLink RX9 97 RX9 "sheetSize" "[I") (tg 971 (by decide +kernel) rfl)) (fun _ h9 => h9) rfl hd kk
theorem asM_28 {p : Program} {l : Launch} {e : Env} {R : Room} {s : State} {m : MethodId} {args : Array Value} {below : List Frame} {meth : Method} {c : Code} {H : Heap} {locs : List Loc} {cells slots : Nat} {Q : State → Prop} {cc : ByteArray} {pc nL : Nat} {ls : Array Slot} {rest : List Value} {ret : Option FieldType} {G : xG} {β N : Nat} {x : MS} {own : String} {i : Int32} {v : Int32} (C : Cx p s m args meth c own cc nL ret (KK G)) (hw : MW β G N x H) (hS : va_S (AM β) s.heap H locs) (hin : ib i 4) (hd : decode cc pc = .ok (.iastore, 1)) (kk : ∀ (H1 : Heap) (locs1 : List Loc), MW β G N (msA x 28 i.toNatClampNeg v) H1 → va_S (AM β) s.heap H1 locs1 → W p l e R s m args below meth c H1 locs1 cells slots Q (F0 m (pc + 1) ls (rest))) : W p l e R s m args below meth c H locs cells slots Q (F0 m pc ls (.int v :: .int i :: .ref (β + 28) :: rest)) :=
  x_iast C.1 C.2.1 C.K.1 hS 0 (hw.2 28 (by decide)) (AM.in (by decide)) rfl hin hd (fun H1 locs1 hat ho hS => kk H1 locs1 (hw.setA 28 _ _ hat ho) hS)
theorem gX9_100 {p : Program} {l : Launch} {e : Env} {R : Room} {s : State} {m : MethodId} {args : Array Value} {below : List Frame} {meth : Method} {c : Code} {H : Heap} {locs : List Loc} {cells slots : Nat} {Q : State → Prop} {cc : ByteArray} {pc nL : Nat} {ls : Array Slot} {rest : List Value} {ret : Option FieldType} {G : xG} {β N : Nat} {x : MS} (C : Cx p s m args meth c RX9 cc nL ret (KK G)) (hw : MW β G N x H) (hd : decode cc pc = .ok (.getfield 100, 3)) (kk : W p l e R s m args below meth c H locs cells slots Q (F0 m (pc + 3) ls (.ref (β + 29) :: rest))) : W p l e R s m args below meth c H locs cells slots Q (F0 m pc ls (.ref β :: rest)) :=
  va_get C.1 C.2.1 C.2.2.2.2.1 iwX9 C.2.2.2.1 C.K.1 (xP1 (hw.2 0 (by decide))) 0 rfl rfl 56 (by decide) (C.2.2.2.2.1 (.fieldLink RX9 100 RX9 "items" "[I") (tg 972 (by decide +kernel) rfl)) (fun _ h9 => h9) rfl hd kk
theorem asM_29 {p : Program} {l : Launch} {e : Env} {R : Room} {s : State} {m : MethodId} {args : Array Value} {below : List Frame} {meth : Method} {c : Code} {H : Heap} {locs : List Loc} {cells slots : Nat} {Q : State → Prop} {cc : ByteArray} {pc nL : Nat} {ls : Array Slot} {rest : List Value} {ret : Option FieldType} {G : xG} {β N : Nat} {x : MS} {own : String} {i : Int32} {v : Int32} (C : Cx p s m args meth c own cc nL ret (KK G)) (hw : MW β G N x H) (hS : va_S (AM β) s.heap H locs) (hin : ib i 160) (hd : decode cc pc = .ok (.iastore, 1)) (kk : ∀ (H1 : Heap) (locs1 : List Loc), MW β G N (msA x 29 i.toNatClampNeg v) H1 → va_S (AM β) s.heap H1 locs1 → W p l e R s m args below meth c H1 locs1 cells slots Q (F0 m (pc + 1) ls (rest))) : W p l e R s m args below meth c H locs cells slots Q (F0 m pc ls (.int v :: .int i :: .ref (β + 29) :: rest)) :=
  x_iast C.1 C.2.1 C.K.1 hS 0 (hw.2 29 (by decide)) (AM.in (by decide)) rfl hin hd (fun H1 locs1 hat ho hS => kk H1 locs1 (hw.setA 29 _ _ hat ho) hS)
def BX9_sheet_77 (q1 : Int32) (q2 : Int32) (q3 : Int32) (lp : Int32 → MS → Option (MS)) (u4 : Int32) (x : MS) : Option (MS) := if q3 ≤ u4 then some x else if q2 < 0 then some x else if ib ((40 * q1) + u4) 160 then lt (msA x 29 ((40 * q1) + u4).toNatClampNeg 0) fun x13 => lt (u4 + 1) fun v14 => lp v14 x13 else none
def LX9_sheet_77 (q1 : Int32) (q2 : Int32) (q3 : Int32) : Nat → Int32 → MS → Option (MS)
  | 0, _, _ => none
  | n + 1, u4, x => BX9_sheet_77 q1 q2 q3 (LX9_sheet_77 q1 q2 q3 n) u4 x
def fX9_sheet (x : MS) (a1 : Int32) (a2 : Int32) (a3 : Int32) : Option (Int32 × MS) := Option.bind (fX9_isSheet a1) fun v1 => if v1 = true then Option.bind (fX9_in (a2.toInt64) (-1) 2) fun v3 => if v3 = true then if a2 < 0 then if a2 < 0 then Option.bind (if a2 < 0 then some false else some true) fun v5 => if ib a1 4 then lt (msA x 26 a1.toNatClampNeg (vp_nar .boolean (bI v5))) fun x7 => if ib a1 4 then lt (msA x7 27 a1.toNatClampNeg a2) fun x9 => if ib a1 4 then lt (msA x9 28 a1.toNatClampNeg a3) fun x11 => Option.bind (LX9_sheet_77 a1 a2 a3 NF 0 x11) fun x15 => some (1, x15) else none else none else none else if 0 ≤ a3 then Option.bind (if a2 < 0 then some false else some true) fun v16 => if ib a1 4 then lt (msA x 26 a1.toNatClampNeg (vp_nar .boolean (bI v16))) fun x18 => if ib a1 4 then lt (msA x18 27 a1.toNatClampNeg a2) fun x20 => if ib a1 4 then lt (msA x20 28 a1.toNatClampNeg a3) fun x22 => Option.bind (LX9_sheet_77 a1 a2 a3 NF 0 x22) fun x26 => some (1, x26) else none else none else none else some ((-14), x) else if a3 ≤ 40 then if a2 < 0 then Option.bind (if a2 < 0 then some false else some true) fun v27 => if ib a1 4 then lt (msA x 26 a1.toNatClampNeg (vp_nar .boolean (bI v27))) fun x29 => if ib a1 4 then lt (msA x29 27 a1.toNatClampNeg a2) fun x31 => if ib a1 4 then lt (msA x31 28 a1.toNatClampNeg a3) fun x33 => Option.bind (LX9_sheet_77 a1 a2 a3 NF 0 x33) fun x37 => some (1, x37) else none else none else none else if 0 ≤ a3 then Option.bind (if a2 < 0 then some false else some true) fun v38 => if ib a1 4 then lt (msA x 26 a1.toNatClampNeg (vp_nar .boolean (bI v38))) fun x40 => if ib a1 4 then lt (msA x40 27 a1.toNatClampNeg a2) fun x42 => if ib a1 4 then lt (msA x42 28 a1.toNatClampNeg a3) fun x44 => Option.bind (LX9_sheet_77 a1 a2 a3 NF 0 x44) fun x48 => some (1, x48) else none else none else none else some ((-14), x) else some ((-2), x) else some ((-2), x) else some ((-2), x)
set_option maxHeartbeats 4000000 in
set_option maxRecDepth 100000 in
theorem lX9_sheet_77 {p : Program} {l : Launch} {e : Env} {R : Room} {s : State} {m : MethodId} {args : Array Value} {below : List Frame} {meth : Method} {c : Code} {cells slots : Nat} {Q : State → Prop} {G : xG} {β N : Nat} (C : Cx p s m args meth c RX9 cX9_sheet 5 (some .int) (KK G)) (hRf : 2 ≤ R.frames) (hRl : 45 ≤ R.locals) (hcs : cells ≤ R.cells ∧ slots ≤ R.slots) (q1 : Int32) (q2 : Int32) (q3 : Int32) : ∀ (n : Nat) (u4 : Int32) (x : MS) (J : MS) (H : Heap) (locs : List Loc) (ls : Array Slot), LX9_sheet_77 q1 q2 q3 n u4 x = some J → MW β G N x H → va_S (AM β) s.heap H locs → lv_has ls 5 [(0, .ref β), (1, .int q1), (2, .int q2), (3, .int q3), (4, .int u4)] → (∀ (x1 : MS), J = x1 → ∀ (H : Heap) (locs : List Loc) (ls : Array Slot), MW β G N x1 H → va_S (AM β) s.heap H locs → lv_has ls 5 [] → W p l e R s m args below meth c H locs cells slots Q (F0 m 106 ls [])) → W p l e R s m args below meth c H locs cells slots Q (F0 m 77 ls []) := by
  have hx := C.1
  have hb := C.2.1
  have ho := C.2.2.2.1
  have hts := C.2.2.2.2.1
  intro n
  induction n with
  | zero =>
    intro u4 x J H locs ls hm
    exact absurd hm (by simp [LX9_sheet_77])
  | succ n ih =>
    intro u4 x J H locs ls hm hw hS hl ke
    replace hm : BX9_sheet_77 q1 q2 q3 (LX9_sheet_77 q1 q2 q3 n) u4 x = some J := hm
    unfold BX9_sheet_77 at hm
    refine lv_iload hx hb dX9_sheet_77 (lv_at hl 4 rfl) ?_
    refine lv_iload_n hx hb dX9_sheet_79 rfl (lv_at hl 3 rfl) ?_
    refine lv_icmp_ge (tgt := 106) hx hb dX9_sheet_80 (by decide) (fun cc => ?_) (fun cc => ?_)
    · replace hm := ite_p cc hm
      exact ke _ (Option.some.inj hm).symm _ _ _ hw hS (lv_sub hl [] rfl)
    · replace hm := ite_n cc hm
      refine lv_iload_n hx hb dX9_sheet_83 rfl (lv_at hl 2 rfl) ?_
      refine lv_if_lt (tgt := 106) hx hb dX9_sheet_84 (by decide) (fun cc => ?_) (fun cc => ?_)
      · replace hm := ite_p cc hm
        exact ke _ (Option.some.inj hm).symm _ _ _ hw hS (lv_sub hl [] rfl)
      · replace hm := ite_n cc hm
        refine lv_aload_n hx hb dX9_sheet_87 rfl (lv_at hl 0 rfl) ?_
        refine gX9_100 C hw dX9_sheet_88 ?_
        refine lv_bipush (v := 40) hx hb dX9_sheet_91 (by decide) ?_
        refine lv_iload_n hx hb dX9_sheet_93 rfl (lv_at hl 1 rfl) ?_
        refine lv_imul hx hb dX9_sheet_94 ?_
        refine lv_iload hx hb dX9_sheet_95 (lv_at hl 4 rfl) ?_
        refine lv_iadd hx hb dX9_sheet_97 ?_
        refine lv_iconst (v := 0) hx hb dX9_sheet_98 (by decide) ?_
        obtain ⟨h12, hm⟩ := chk_e hm
        refine asM_29 C hw hS h12 dX9_sheet_99 (fun H locs hw hS => ?_)
        obtain ⟨x13, ev, hm⟩ := lt_e hm
        rw [← ev] at hw
        clear ev
        obtain ⟨v14, ev, hm⟩ := lt_e hm
        refine lv_iinc (v := v14) (lv' := [(4, .int v14), (0, .ref β), (1, .int q1), (2, .int q2), (3, .int q3)]) hx hb dX9_sheet_100 hl (k := 4) rfl (by rw [ev]; rfl) (by decide) rfl (fun ls hl => ?_)
        clear ev
        refine lv_goto (tgt := 77) hx hb dX9_sheet_103 (by decide) ?_
        exact ih _ _ _ _ _ _ hm hw hS (lv_sub hl [1, 2, 3, 4, 0] rfl) ke
abbrev rmX9_sheet : Room := { frames := 2, cells := 0, slots := 0, locals := 45 }
set_option maxHeartbeats 4000000 in
set_option maxRecDepth 100000 in
theorem kX9_sheet {l : Launch} {G : xG} {β N : Nat} {x x' : MS} {a1 : Int32} {a2 : Int32} {a3 : Int32} {r : Int32} (hm : fX9_sheet x a1 a2 a3 = some (r, x')) : Met l yX9_sheet (.code yX9_sheet cX9_sheet 5 (some .int) :: GT) rmX9_sheet (PcW [.ref β, .int a1, .int a2, .int a3] (MW β G N x) (KK G)) (QcW (AM β) (some (.int r)) (MW β G N x')) 0 0 (AM β) := by
  unfold fX9_sheet at hm
  refine xpro (own := RX9) (by decide +kernel) rfl (Nat.le_of_ble_eq_true rfl) ?_
  intro p e s m args below meth c C hw ls hl
  have hx := C.1
  have hb := C.2.1
  have ho := C.2.2.2.1
  have hts := C.2.2.2.2.1
  have hS : va_S (AM β) s.heap s.heap [] := va_S.rf
  have hl : lv_has ls 5 [(0, .ref β), (1, .int a1), (2, .int a2), (3, .int a3)] := hl
  have hRf : 2 ≤ rmX9_sheet.frames := Nat.le_refl _
  have hRl : 45 ≤ rmX9_sheet.locals := Nat.le_refl _
  have hcs : 0 ≤ rmX9_sheet.cells ∧ 0 ≤ rmX9_sheet.slots := ⟨Nat.le_refl _, Nat.le_refl _⟩
  refine lv_iload_n hx hb dX9_sheet_0 rfl (lv_at hl 1 rfl) ?_
  obtain ⟨v1, h2, hm⟩ := bind_e hm
  refine sX9_444 C h2 hw hS hl.1 (Nat.le_of_ble_eq_true rfl) (Nat.le_trans (Nat.le_of_ble_eq_true rfl) hRf) (Nat.le_trans (Nat.le_of_ble_eq_true rfl) hRl) hcs dX9_sheet_1 (fun H locs hw hS => ?_)
  refine x_ifeqB hx hb dX9_sheet_4 (tgt := 31) (by decide) (fun cc => ?_) (fun cc => ?_)
  · replace hm := ite_n cc hm
    refine lv_bipush (v := (-2)) hx hb dX9_sheet_31 (by decide) ?_
    obtain ⟨rfl, rfl⟩ := inj2 hm
    exact xret_i C hw hS dX9_sheet_33
  · replace hm := ite_p cc hm
    refine lv_iload_n hx hb dX9_sheet_7 rfl (lv_at hl 2 rfl) ?_
    refine lv_i2l hx hb dX9_sheet_8 rfl ?_
    refine lv_ldc2 (v := (-1)) hx hb ho (hts (.constantLong RX9 257 (-1)) (tg 1164 (by decide +kernel) rfl)) dX9_sheet_9 ?_
    refine lv_ldc2 (v := 2) hx hb ho (hts (.constantLong RX9 150 2) (tg 1109 (by decide +kernel) rfl)) dX9_sheet_12 ?_
    obtain ⟨v3, h4, hm⟩ := bind_e hm
    refine sX9_132 C h4 hw hS hl.1 (Nat.le_of_ble_eq_true rfl) (Nat.le_trans (Nat.le_of_ble_eq_true rfl) hRf) (Nat.le_trans (Nat.le_of_ble_eq_true rfl) hRl) hcs dX9_sheet_15 (fun H locs hw hS => ?_)
    refine x_ifeqB hx hb dX9_sheet_18 (tgt := 31) (by decide) (fun cc => ?_) (fun cc => ?_)
    · replace hm := ite_n cc hm
      refine lv_bipush (v := (-2)) hx hb dX9_sheet_31 (by decide) ?_
      obtain ⟨rfl, rfl⟩ := inj2 hm
      exact xret_i C hw hS dX9_sheet_33
    · replace hm := ite_p cc hm
      refine lv_iload_n hx hb dX9_sheet_21 rfl (lv_at hl 2 rfl) ?_
      refine lv_if_lt (tgt := 34) hx hb dX9_sheet_22 (by decide) (fun cc => ?_) (fun cc => ?_)
      · replace hm := ite_p cc hm
        refine lv_iload_n hx hb dX9_sheet_34 rfl (lv_at hl 2 rfl) ?_
        refine lv_if_lt (tgt := 45) hx hb dX9_sheet_35 (by decide) (fun cc => ?_) (fun cc => ?_)
        · replace hm := ite_p cc hm
          refine lv_aload_n hx hb dX9_sheet_45 rfl (lv_at hl 0 rfl) ?_
          refine gX9_90 C hw dX9_sheet_46 ?_
          refine lv_iload_n hx hb dX9_sheet_49 rfl (lv_at hl 1 rfl) ?_
          refine lv_iload_n hx hb dX9_sheet_50 rfl (lv_at hl 2 rfl) ?_
          obtain ⟨v5, hj, hm⟩ := bind_e hm
          have kk : ∀ (H : Heap) (locs : List Loc) (ls : Array Slot), MW β G N x H → va_S (AM β) s.heap H locs → lv_has ls 5 [(0, .ref β), (1, .int a1), (2, .int a2), (3, .int a3)] → W p l e rmX9_sheet s m args below meth c H locs 0 0 (MQ below (QcW (AM β) (some (.int r)) (MW β G N x')) args s 0 0 (AM β)) (F0 m 59 ls [.int (bI v5), .int a1, .ref (β + 26)]) := by
            intro H locs ls hw hS hl
            obtain ⟨h6, hm⟩ := chk_e hm
            refine asM_26 C hw hS h6 dX9_sheet_59 (fun H locs hw hS => ?_)
            obtain ⟨x7, ev, hm⟩ := lt_e hm
            rw [← ev] at hw
            clear ev
            refine lv_aload_n hx hb dX9_sheet_60 rfl (lv_at hl 0 rfl) ?_
            refine gX9_94 C hw dX9_sheet_61 ?_
            refine lv_iload_n hx hb dX9_sheet_64 rfl (lv_at hl 1 rfl) ?_
            refine lv_iload_n hx hb dX9_sheet_65 rfl (lv_at hl 2 rfl) ?_
            obtain ⟨h8, hm⟩ := chk_e hm
            refine asM_27 C hw hS h8 dX9_sheet_66 (fun H locs hw hS => ?_)
            obtain ⟨x9, ev, hm⟩ := lt_e hm
            rw [← ev] at hw
            clear ev
            refine lv_aload_n hx hb dX9_sheet_67 rfl (lv_at hl 0 rfl) ?_
            refine gX9_97 C hw dX9_sheet_68 ?_
            refine lv_iload_n hx hb dX9_sheet_71 rfl (lv_at hl 1 rfl) ?_
            refine lv_iload_n hx hb dX9_sheet_72 rfl (lv_at hl 3 rfl) ?_
            obtain ⟨h10, hm⟩ := chk_e hm
            refine asM_28 C hw hS h10 dX9_sheet_73 (fun H locs hw hS => ?_)
            obtain ⟨x11, ev, hm⟩ := lt_e hm
            rw [← ev] at hw
            clear ev
            refine lv_iconst (v := 0) hx hb dX9_sheet_74 (by decide) ?_
            refine lv_istore (lv' := [(4, .int 0), (0, .ref β), (1, .int a1), (2, .int a2), (3, .int a3)]) hx hb dX9_sheet_75 hl (by decide) rfl (fun ls hl => ?_)
            obtain ⟨x15, hj, hm⟩ := bind_e hm
            refine lX9_sheet_77 C hRf hRl hcs a1 a2 a3 NF _ _ _ _ _ _ hj hw hS (lv_sub hl [1, 2, 3, 4, 0] rfl) (fun x15_ e0 H locs ls hw hS hl => ?_)
            cases e0
            refine lv_iconst (v := 1) hx hb dX9_sheet_106 (by decide) ?_
            obtain ⟨rfl, rfl⟩ := inj2 hm
            exact xret_i C hw hS dX9_sheet_107
          clear hm
          replace hm := hj
          clear hj
          refine lv_if_lt (tgt := 58) hx hb dX9_sheet_51 (by decide) (fun cc => ?_) (fun cc => ?_)
          · replace hm := ite_p cc hm
            refine lv_iconst (v := 0) hx hb dX9_sheet_58 (by decide) ?_
            obtain rfl := Option.some.inj hm
            exact kk _ _ _ hw hS (lv_sub hl [0, 1, 2, 3] rfl)
          · replace hm := ite_n cc hm
            refine lv_iconst (v := 1) hx hb dX9_sheet_54 (by decide) ?_
            refine lv_goto (tgt := 59) hx hb dX9_sheet_55 (by decide) ?_
            obtain rfl := Option.some.inj hm
            exact kk _ _ _ hw hS (lv_sub hl [0, 1, 2, 3] rfl)
        · replace hm := ite_n cc hm
          refine lv_iload_n hx hb dX9_sheet_38 rfl (lv_at hl 3 rfl) ?_
          refine lv_if_ge (tgt := 45) hx hb dX9_sheet_39 (by decide) (fun cc => ?_) (fun cc => ?_)
          · replace hm := ite_p cc hm
            refine lv_aload_n hx hb dX9_sheet_45 rfl (lv_at hl 0 rfl) ?_
            refine gX9_90 C hw dX9_sheet_46 ?_
            refine lv_iload_n hx hb dX9_sheet_49 rfl (lv_at hl 1 rfl) ?_
            refine lv_iload_n hx hb dX9_sheet_50 rfl (lv_at hl 2 rfl) ?_
            obtain ⟨v16, hj, hm⟩ := bind_e hm
            have kk : ∀ (H : Heap) (locs : List Loc) (ls : Array Slot), MW β G N x H → va_S (AM β) s.heap H locs → lv_has ls 5 [(0, .ref β), (1, .int a1), (2, .int a2), (3, .int a3)] → W p l e rmX9_sheet s m args below meth c H locs 0 0 (MQ below (QcW (AM β) (some (.int r)) (MW β G N x')) args s 0 0 (AM β)) (F0 m 59 ls [.int (bI v16), .int a1, .ref (β + 26)]) := by
              intro H locs ls hw hS hl
              obtain ⟨h17, hm⟩ := chk_e hm
              refine asM_26 C hw hS h17 dX9_sheet_59 (fun H locs hw hS => ?_)
              obtain ⟨x18, ev, hm⟩ := lt_e hm
              rw [← ev] at hw
              clear ev
              refine lv_aload_n hx hb dX9_sheet_60 rfl (lv_at hl 0 rfl) ?_
              refine gX9_94 C hw dX9_sheet_61 ?_
              refine lv_iload_n hx hb dX9_sheet_64 rfl (lv_at hl 1 rfl) ?_
              refine lv_iload_n hx hb dX9_sheet_65 rfl (lv_at hl 2 rfl) ?_
              obtain ⟨h19, hm⟩ := chk_e hm
              refine asM_27 C hw hS h19 dX9_sheet_66 (fun H locs hw hS => ?_)
              obtain ⟨x20, ev, hm⟩ := lt_e hm
              rw [← ev] at hw
              clear ev
              refine lv_aload_n hx hb dX9_sheet_67 rfl (lv_at hl 0 rfl) ?_
              refine gX9_97 C hw dX9_sheet_68 ?_
              refine lv_iload_n hx hb dX9_sheet_71 rfl (lv_at hl 1 rfl) ?_
              refine lv_iload_n hx hb dX9_sheet_72 rfl (lv_at hl 3 rfl) ?_
              obtain ⟨h21, hm⟩ := chk_e hm
              refine asM_28 C hw hS h21 dX9_sheet_73 (fun H locs hw hS => ?_)
              obtain ⟨x22, ev, hm⟩ := lt_e hm
              rw [← ev] at hw
              clear ev
              refine lv_iconst (v := 0) hx hb dX9_sheet_74 (by decide) ?_
              refine lv_istore (lv' := [(4, .int 0), (0, .ref β), (1, .int a1), (2, .int a2), (3, .int a3)]) hx hb dX9_sheet_75 hl (by decide) rfl (fun ls hl => ?_)
              obtain ⟨x26, hj, hm⟩ := bind_e hm
              refine lX9_sheet_77 C hRf hRl hcs a1 a2 a3 NF _ _ _ _ _ _ hj hw hS (lv_sub hl [1, 2, 3, 4, 0] rfl) (fun x26_ e0 H locs ls hw hS hl => ?_)
              cases e0
              refine lv_iconst (v := 1) hx hb dX9_sheet_106 (by decide) ?_
              obtain ⟨rfl, rfl⟩ := inj2 hm
              exact xret_i C hw hS dX9_sheet_107
            clear hm
            replace hm := hj
            clear hj
            refine lv_if_lt (tgt := 58) hx hb dX9_sheet_51 (by decide) (fun cc => ?_) (fun cc => ?_)
            · replace hm := ite_p cc hm
              refine lv_iconst (v := 0) hx hb dX9_sheet_58 (by decide) ?_
              obtain rfl := Option.some.inj hm
              exact kk _ _ _ hw hS (lv_sub hl [0, 1, 2, 3] rfl)
            · replace hm := ite_n cc hm
              refine lv_iconst (v := 1) hx hb dX9_sheet_54 (by decide) ?_
              refine lv_goto (tgt := 59) hx hb dX9_sheet_55 (by decide) ?_
              obtain rfl := Option.some.inj hm
              exact kk _ _ _ hw hS (lv_sub hl [0, 1, 2, 3] rfl)
          · replace hm := ite_n cc hm
            refine lv_bipush (v := (-14)) hx hb dX9_sheet_42 (by decide) ?_
            obtain ⟨rfl, rfl⟩ := inj2 hm
            exact xret_i C hw hS dX9_sheet_44
      · replace hm := ite_n cc hm
        refine lv_iload_n hx hb dX9_sheet_25 rfl (lv_at hl 3 rfl) ?_
        refine lv_bipush (v := 40) hx hb dX9_sheet_26 (by decide) ?_
        refine lv_icmp_le (tgt := 34) hx hb dX9_sheet_28 (by decide) (fun cc => ?_) (fun cc => ?_)
        · replace hm := ite_p cc hm
          refine lv_iload_n hx hb dX9_sheet_34 rfl (lv_at hl 2 rfl) ?_
          refine lv_if_lt (tgt := 45) hx hb dX9_sheet_35 (by decide) (fun cc => ?_) (fun cc => ?_)
          · replace hm := ite_p cc hm
            refine lv_aload_n hx hb dX9_sheet_45 rfl (lv_at hl 0 rfl) ?_
            refine gX9_90 C hw dX9_sheet_46 ?_
            refine lv_iload_n hx hb dX9_sheet_49 rfl (lv_at hl 1 rfl) ?_
            refine lv_iload_n hx hb dX9_sheet_50 rfl (lv_at hl 2 rfl) ?_
            obtain ⟨v27, hj, hm⟩ := bind_e hm
            have kk : ∀ (H : Heap) (locs : List Loc) (ls : Array Slot), MW β G N x H → va_S (AM β) s.heap H locs → lv_has ls 5 [(0, .ref β), (1, .int a1), (2, .int a2), (3, .int a3)] → W p l e rmX9_sheet s m args below meth c H locs 0 0 (MQ below (QcW (AM β) (some (.int r)) (MW β G N x')) args s 0 0 (AM β)) (F0 m 59 ls [.int (bI v27), .int a1, .ref (β + 26)]) := by
              intro H locs ls hw hS hl
              obtain ⟨h28, hm⟩ := chk_e hm
              refine asM_26 C hw hS h28 dX9_sheet_59 (fun H locs hw hS => ?_)
              obtain ⟨x29, ev, hm⟩ := lt_e hm
              rw [← ev] at hw
              clear ev
              refine lv_aload_n hx hb dX9_sheet_60 rfl (lv_at hl 0 rfl) ?_
              refine gX9_94 C hw dX9_sheet_61 ?_
              refine lv_iload_n hx hb dX9_sheet_64 rfl (lv_at hl 1 rfl) ?_
              refine lv_iload_n hx hb dX9_sheet_65 rfl (lv_at hl 2 rfl) ?_
              obtain ⟨h30, hm⟩ := chk_e hm
              refine asM_27 C hw hS h30 dX9_sheet_66 (fun H locs hw hS => ?_)
              obtain ⟨x31, ev, hm⟩ := lt_e hm
              rw [← ev] at hw
              clear ev
              refine lv_aload_n hx hb dX9_sheet_67 rfl (lv_at hl 0 rfl) ?_
              refine gX9_97 C hw dX9_sheet_68 ?_
              refine lv_iload_n hx hb dX9_sheet_71 rfl (lv_at hl 1 rfl) ?_
              refine lv_iload_n hx hb dX9_sheet_72 rfl (lv_at hl 3 rfl) ?_
              obtain ⟨h32, hm⟩ := chk_e hm
              refine asM_28 C hw hS h32 dX9_sheet_73 (fun H locs hw hS => ?_)
              obtain ⟨x33, ev, hm⟩ := lt_e hm
              rw [← ev] at hw
              clear ev
              refine lv_iconst (v := 0) hx hb dX9_sheet_74 (by decide) ?_
              refine lv_istore (lv' := [(4, .int 0), (0, .ref β), (1, .int a1), (2, .int a2), (3, .int a3)]) hx hb dX9_sheet_75 hl (by decide) rfl (fun ls hl => ?_)
              obtain ⟨x37, hj, hm⟩ := bind_e hm
              refine lX9_sheet_77 C hRf hRl hcs a1 a2 a3 NF _ _ _ _ _ _ hj hw hS (lv_sub hl [1, 2, 3, 4, 0] rfl) (fun x37_ e0 H locs ls hw hS hl => ?_)
              cases e0
              refine lv_iconst (v := 1) hx hb dX9_sheet_106 (by decide) ?_
              obtain ⟨rfl, rfl⟩ := inj2 hm
              exact xret_i C hw hS dX9_sheet_107
            clear hm
            replace hm := hj
            clear hj
            refine lv_if_lt (tgt := 58) hx hb dX9_sheet_51 (by decide) (fun cc => ?_) (fun cc => ?_)
            · replace hm := ite_p cc hm
              refine lv_iconst (v := 0) hx hb dX9_sheet_58 (by decide) ?_
              obtain rfl := Option.some.inj hm
              exact kk _ _ _ hw hS (lv_sub hl [0, 1, 2, 3] rfl)
            · replace hm := ite_n cc hm
              refine lv_iconst (v := 1) hx hb dX9_sheet_54 (by decide) ?_
              refine lv_goto (tgt := 59) hx hb dX9_sheet_55 (by decide) ?_
              obtain rfl := Option.some.inj hm
              exact kk _ _ _ hw hS (lv_sub hl [0, 1, 2, 3] rfl)
          · replace hm := ite_n cc hm
            refine lv_iload_n hx hb dX9_sheet_38 rfl (lv_at hl 3 rfl) ?_
            refine lv_if_ge (tgt := 45) hx hb dX9_sheet_39 (by decide) (fun cc => ?_) (fun cc => ?_)
            · replace hm := ite_p cc hm
              refine lv_aload_n hx hb dX9_sheet_45 rfl (lv_at hl 0 rfl) ?_
              refine gX9_90 C hw dX9_sheet_46 ?_
              refine lv_iload_n hx hb dX9_sheet_49 rfl (lv_at hl 1 rfl) ?_
              refine lv_iload_n hx hb dX9_sheet_50 rfl (lv_at hl 2 rfl) ?_
              obtain ⟨v38, hj, hm⟩ := bind_e hm
              have kk : ∀ (H : Heap) (locs : List Loc) (ls : Array Slot), MW β G N x H → va_S (AM β) s.heap H locs → lv_has ls 5 [(0, .ref β), (1, .int a1), (2, .int a2), (3, .int a3)] → W p l e rmX9_sheet s m args below meth c H locs 0 0 (MQ below (QcW (AM β) (some (.int r)) (MW β G N x')) args s 0 0 (AM β)) (F0 m 59 ls [.int (bI v38), .int a1, .ref (β + 26)]) := by
                intro H locs ls hw hS hl
                obtain ⟨h39, hm⟩ := chk_e hm
                refine asM_26 C hw hS h39 dX9_sheet_59 (fun H locs hw hS => ?_)
                obtain ⟨x40, ev, hm⟩ := lt_e hm
                rw [← ev] at hw
                clear ev
                refine lv_aload_n hx hb dX9_sheet_60 rfl (lv_at hl 0 rfl) ?_
                refine gX9_94 C hw dX9_sheet_61 ?_
                refine lv_iload_n hx hb dX9_sheet_64 rfl (lv_at hl 1 rfl) ?_
                refine lv_iload_n hx hb dX9_sheet_65 rfl (lv_at hl 2 rfl) ?_
                obtain ⟨h41, hm⟩ := chk_e hm
                refine asM_27 C hw hS h41 dX9_sheet_66 (fun H locs hw hS => ?_)
                obtain ⟨x42, ev, hm⟩ := lt_e hm
                rw [← ev] at hw
                clear ev
                refine lv_aload_n hx hb dX9_sheet_67 rfl (lv_at hl 0 rfl) ?_
                refine gX9_97 C hw dX9_sheet_68 ?_
                refine lv_iload_n hx hb dX9_sheet_71 rfl (lv_at hl 1 rfl) ?_
                refine lv_iload_n hx hb dX9_sheet_72 rfl (lv_at hl 3 rfl) ?_
                obtain ⟨h43, hm⟩ := chk_e hm
                refine asM_28 C hw hS h43 dX9_sheet_73 (fun H locs hw hS => ?_)
                obtain ⟨x44, ev, hm⟩ := lt_e hm
                rw [← ev] at hw
                clear ev
                refine lv_iconst (v := 0) hx hb dX9_sheet_74 (by decide) ?_
                refine lv_istore (lv' := [(4, .int 0), (0, .ref β), (1, .int a1), (2, .int a2), (3, .int a3)]) hx hb dX9_sheet_75 hl (by decide) rfl (fun ls hl => ?_)
                obtain ⟨x48, hj, hm⟩ := bind_e hm
                refine lX9_sheet_77 C hRf hRl hcs a1 a2 a3 NF _ _ _ _ _ _ hj hw hS (lv_sub hl [1, 2, 3, 4, 0] rfl) (fun x48_ e0 H locs ls hw hS hl => ?_)
                cases e0
                refine lv_iconst (v := 1) hx hb dX9_sheet_106 (by decide) ?_
                obtain ⟨rfl, rfl⟩ := inj2 hm
                exact xret_i C hw hS dX9_sheet_107
              clear hm
              replace hm := hj
              clear hj
              refine lv_if_lt (tgt := 58) hx hb dX9_sheet_51 (by decide) (fun cc => ?_) (fun cc => ?_)
              · replace hm := ite_p cc hm
                refine lv_iconst (v := 0) hx hb dX9_sheet_58 (by decide) ?_
                obtain rfl := Option.some.inj hm
                exact kk _ _ _ hw hS (lv_sub hl [0, 1, 2, 3] rfl)
              · replace hm := ite_n cc hm
                refine lv_iconst (v := 1) hx hb dX9_sheet_54 (by decide) ?_
                refine lv_goto (tgt := 59) hx hb dX9_sheet_55 (by decide) ?_
                obtain rfl := Option.some.inj hm
                exact kk _ _ _ hw hS (lv_sub hl [0, 1, 2, 3] rfl)
            · replace hm := ite_n cc hm
              refine lv_bipush (v := (-14)) hx hb dX9_sheet_42 (by decide) ?_
              obtain ⟨rfl, rfl⟩ := inj2 hm
              exact xret_i C hw hS dX9_sheet_44
        · replace hm := ite_n cc hm
          refine lv_bipush (v := (-2)) hx hb dX9_sheet_31 (by decide) ?_
          obtain ⟨rfl, rfl⟩ := inj2 hm
          exact xret_i C hw hS dX9_sheet_33
