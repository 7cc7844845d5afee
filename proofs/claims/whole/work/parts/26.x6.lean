theorem dX8_season_0 : decode cX8_season 0 = .ok (.aload_n 0, 1) := by decide +kernel
theorem dX8_season_1 : decode cX8_season 1 = .ok (.iload_n 1, 1) := by decide +kernel
theorem dX8_season_2 : decode cX8_season 2 = .ok (.invokevirtual 187, 3) := by decide +kernel
theorem dX8_season_5 : decode cX8_season 5 = .ok (.ifCond .eq 53, 3) := by decide +kernel
theorem dX8_season_8 : decode cX8_season 8 = .ok (.iload_n 2, 1) := by decide +kernel
theorem dX8_season_9 : decode cX8_season 9 = .ok (.invokestatic 190, 3) := by decide +kernel
theorem dX8_season_12 : decode cX8_season 12 = .ok (.ifCond .eq 46, 3) := by decide +kernel
theorem dX8_season_15 : decode cX8_season 15 = .ok (.iload_n 2, 1) := by decide +kernel
theorem dX8_season_16 : decode cX8_season 16 = .ok (.bipush 100, 2) := by decide +kernel
theorem dX8_season_18 : decode cX8_season 18 = .ok (.irem, 1) := by decide +kernel
theorem dX8_season_19 : decode cX8_season 19 = .ok (.iconst 1, 1) := by decide +kernel
theorem dX8_season_20 : decode cX8_season 20 = .ok (.bipush 12, 2) := by decide +kernel
theorem dX8_season_22 : decode cX8_season 22 = .ok (.invokestatic 138, 3) := by decide +kernel
theorem dX8_season_25 : decode cX8_season 25 = .ok (.ifCond .eq 33, 3) := by decide +kernel
theorem dX8_season_28 : decode cX8_season 28 = .ok (.iload_n 3, 1) := by decide +kernel
theorem dX8_season_29 : decode cX8_season 29 = .ok (.iconst 0, 1) := by decide +kernel
theorem dX8_season_30 : decode cX8_season 30 = .ok (.ldc_w 295, 3) := by decide +kernel
theorem dX8_season_33 : decode cX8_season 33 = .ok (.invokestatic 138, 3) := by decide +kernel
theorem dX8_season_36 : decode cX8_season 36 = .ok (.ifCond .eq 22, 3) := by decide +kernel
theorem dX8_season_39 : decode cX8_season 39 = .ok (.aload_n 0, 1) := by decide +kernel
theorem dX8_season_40 : decode cX8_season 40 = .ok (.iload 4, 2) := by decide +kernel
theorem dX8_season_42 : decode cX8_season 42 = .ok (.invokevirtual 154, 3) := by decide +kernel
theorem dX8_season_45 : decode cX8_season 45 = .ok (.ifCond .eq 13, 3) := by decide +kernel
theorem dX8_season_48 : decode cX8_season 48 = .ok (.iload 5, 2) := by decide +kernel
theorem dX8_season_50 : decode cX8_season 50 = .ok (.iconst 0, 1) := by decide +kernel
theorem dX8_season_51 : decode cX8_season 51 = .ok (.iconst 1, 1) := by decide +kernel
theorem dX8_season_52 : decode cX8_season 52 = .ok (.invokestatic 138, 3) := by decide +kernel
theorem dX8_season_55 : decode cX8_season 55 = .ok (.ifCond .ne 6, 3) := by decide +kernel
theorem dX8_season_58 : decode cX8_season 58 = .ok (.bipush (-2), 2) := by decide +kernel
theorem dX8_season_60 : decode cX8_season 60 = .ok (.ireturn, 1) := by decide +kernel
theorem dX8_season_61 : decode cX8_season 61 = .ok (.aload_n 0, 1) := by decide +kernel
theorem dX8_season_62 : decode cX8_season 62 = .ok (.invokevirtual 296, 3) := by decide +kernel
theorem dX8_season_65 : decode cX8_season 65 = .ok (.aload_n 0, 1) := by decide +kernel
theorem dX8_season_66 : decode cX8_season 66 = .ok (.getfield 92, 3) := by decide +kernel
theorem dX8_season_69 : decode cX8_season 69 = .ok (.iconst 0, 1) := by decide +kernel
theorem dX8_season_70 : decode cX8_season 70 = .ok (.invokestatic 98, 3) := by decide +kernel
theorem dX8_season_73 : decode cX8_season 73 = .ok (.iload_n 3, 1) := by decide +kernel
theorem dX8_season_74 : decode cX8_season 74 = .ok (.iconst 1, 1) := by decide +kernel
theorem dX8_season_75 : decode cX8_season 75 = .ok (.iadd, 1) := by decide +kernel
theorem dX8_season_76 : decode cX8_season 76 = .ok (.i2l, 1) := by decide +kernel
theorem dX8_season_77 : decode cX8_season 77 = .ok (.lstore 6, 2) := by decide +kernel
theorem dX8_season_79 : decode cX8_season 79 = .ok (.iconst 0, 1) := by decide +kernel
theorem dX8_season_80 : decode cX8_season 80 = .ok (.istore 8, 2) := by decide +kernel
theorem dX8_season_82 : decode cX8_season 82 = .ok (.iload 8, 2) := by decide +kernel
theorem dX8_season_84 : decode cX8_season 84 = .ok (.iload_n 2, 1) := by decide +kernel
theorem dX8_season_85 : decode cX8_season 85 = .ok (.bipush 100, 2) := by decide +kernel
theorem dX8_season_87 : decode cX8_season 87 = .ok (.irem, 1) := by decide +kernel
theorem dX8_season_88 : decode cX8_season 88 = .ok (.if_icmp .ge 33, 3) := by decide +kernel
theorem dX8_season_91 : decode cX8_season 91 = .ok (.aload_n 0, 1) := by decide +kernel
theorem dX8_season_92 : decode cX8_season 92 = .ok (.iload_n 1, 1) := by decide +kernel
theorem dX8_season_93 : decode cX8_season 93 = .ok (.iload_n 2, 1) := by decide +kernel
theorem dX8_season_94 : decode cX8_season 94 = .ok (.bipush 100, 2) := by decide +kernel
theorem dX8_season_96 : decode cX8_season 96 = .ok (.idiv, 1) := by decide +kernel
theorem dX8_season_97 : decode cX8_season 97 = .ok (.iload 8, 2) := by decide +kernel
theorem dX8_season_99 : decode cX8_season 99 = .ok (.lload 6, 2) := by decide +kernel
theorem dX8_season_101 : decode cX8_season 101 = .ok (.invokevirtual 299, 3) := by decide +kernel
theorem dX8_season_104 : decode cX8_season 104 = .ok (.lstore 6, 2) := by decide +kernel
theorem dX8_season_106 : decode cX8_season 106 = .ok (.aload_n 0, 1) := by decide +kernel
theorem dX8_season_107 : decode cX8_season 107 = .ok (.iload_n 1, 1) := by decide +kernel
theorem dX8_season_108 : decode cX8_season 108 = .ok (.iload_n 2, 1) := by decide +kernel
theorem dX8_season_109 : decode cX8_season 109 = .ok (.bipush 100, 2) := by decide +kernel
theorem dX8_season_111 : decode cX8_season 111 = .ok (.idiv, 1) := by decide +kernel
theorem dX8_season_112 : decode cX8_season 112 = .ok (.invokevirtual 303, 3) := by decide +kernel
theorem dX8_season_115 : decode cX8_season 115 = .ok (.iinc 8 1, 3) := by decide +kernel
theorem dX8_season_118 : decode cX8_season 118 = .ok (.goto (-36), 3) := by decide +kernel
theorem dX8_season_121 : decode cX8_season 121 = .ok (.iload 5, 2) := by decide +kernel
theorem dX8_season_123 : decode cX8_season 123 = .ok (.ifCond .ne 13, 3) := by decide +kernel
theorem dX8_season_126 : decode cX8_season 126 = .ok (.aload_n 0, 1) := by decide +kernel
theorem dX8_season_127 : decode cX8_season 127 = .ok (.getfield 92, 3) := by decide +kernel
theorem dX8_season_130 : decode cX8_season 130 = .ok (.iload 4, 2) := by decide +kernel
theorem dX8_season_132 : decode cX8_season 132 = .ok (.iaload, 1) := by decide +kernel
theorem dX8_season_133 : decode cX8_season 133 = .ok (.goto 10, 3) := by decide +kernel
theorem dX8_season_136 : decode cX8_season 136 = .ok (.aload_n 0, 1) := by decide +kernel
theorem dX8_season_137 : decode cX8_season 137 = .ok (.getfield 89, 3) := by decide +kernel
theorem dX8_season_140 : decode cX8_season 140 = .ok (.iload 4, 2) := by decide +kernel
theorem dX8_season_142 : decode cX8_season 142 = .ok (.iaload, 1) := by decide +kernel
theorem dX8_season_143 : decode cX8_season 143 = .ok (.ireturn, 1) := by decide +kernel
theorem flX8_98_25 {p : Program} {l : Launch} {e : Env} {R : Room} {s : State} {m : MethodId} {args : Array Value} {below : List Frame} {meth : Method} {c : Code} {H : Heap} {locs : List Loc} {cells slots : Nat} {Q : State → Prop} {cc : ByteArray} {pc nL : Nat} {ls : Array Slot} {rest : List Value} {ret : Option FieldType}  {G : xG} {β : Nat} {D : Nat → Prop} {x : XS} {v : Int32} (C : Cx p s m args meth c RX8 cc nL ret (KK G)) (hw : CW β D G x H) (hS : va_S D s.heap H locs) (hsz : ls.size = nL) (hW : (rest.map fun v => v.category).sum ≤ 8) (hR : 1 ≤ R.frames) (hR2 : 23 ≤ R.locals) (hcs : cells ≤ R.cells ∧ slots ≤ R.slots) (hd : decode cc pc = .ok (.invokestatic 98, 3)) (kk : ∀ (H1 : Heap) (locs1 : List Loc), CW β D G (xsF x 25 (fun _ => v)) H1 → va_S D s.heap H1 locs1 → W p l e R s m args below meth c H1 locs1 cells slots Q (F0 m (pc + 3) ls (rest))) : W p l e R s m args below meth c H locs cells slots Q (F0 m pc ls (.int v :: .ref (β + 25) :: rest)) :=
  xcallS C (As := [.ref (β + 25), .int v]) (rest := rest) (nA := 2) (kfill (n := 10) (f := x.2.1 25) (N := H.size) (by decide)) (tg 156 (by decide +kernel) rfl) (tg 157 (by decide +kernel) rfl) (tg 6 (by decide +kernel) rfl) (tg 158 (by decide +kernel) rfl) ⟨by decide +kernel, by decide +kernel, by decide +kernel⟩ rfl rfl ⟨hR, hR2⟩ ⟨rfl, hw.2.2.1 25 (by decide)⟩ hS (fun q (hq : q = _) => hq ▸ hw.2.1 25 (by decide)) rfl rfl hsz hW hd hcs (fun H1 locs1 hp hz hk hS => kk H1 locs1 (hw.setF 25 _ hp.2 (off_of hp.1 hk)) hS)
theorem sX8_299 {p : Program} {l : Launch} {e : Env} {R : Room} {s : State} {m : MethodId} {args : Array Value} {below : List Frame} {meth : Method} {c : Code} {H : Heap} {locs : List Loc} {cells slots : Nat} {Q : State → Prop} {cc : ByteArray} {pc nL : Nat} {ls : Array Slot} {rest : List Value} {ret : Option FieldType}  {G : xG} {β : Nat} {D : Nat → Prop} {x x' : XS} {a1 : Int32} {a2 : Int32} {a3 : Int32} {a4 : Int64} {r : Int64} (C : Cx p s m args meth c RX8 cc nL ret (KK G)) (h : fX8_drawRuns x a1 a2 a3 a4 = some (r, x')) (hw : CW β D G x H) (hS : va_S D s.heap H locs) (hsz : ls.size = nL) (hW : (rest.map fun v => v.category).sum ≤ 8) (hR : 5 ≤ R.frames) (hR2 : 119 ≤ R.locals) (hcs : cells ≤ R.cells ∧ slots ≤ R.slots) (hd : decode cc pc = .ok (.invokevirtual 299, 3)) (kk : ∀ (H1 : Heap) (locs1 : List Loc), CW β D G x' H1 → va_S D s.heap H1 locs1 → W p l e R s m args below meth c H1 locs1 cells slots Q (F0 m (pc + 3) ls (.long r :: rest))) : W p l e R s m args below meth c H locs cells slots Q (F0 m pc ls (.long a4 :: .int a3 :: .int a2 :: .int a1 :: .ref β :: rest)) := by
  exact xcallV C (As := [.int a1, .int a2, .int a3, .long a4]) (rest := rest) (nA := 4) (ci := 8) (kX8_drawRuns h) (tg 808 (by decide +kernel) rfl) (tg 810 (by decide +kernel) rfl) (sg (List.mem_of_getElem? (i := 50) (by decide +kernel)) rfl) (tg 1 (by decide +kernel) rfl) (tg 811 (by decide +kernel) rfl) ⟨rfl, by decide +kernel, by decide +kernel, by decide +kernel⟩ rfl rfl rfl ⟨hR, hR2⟩ (hw.2.2.1 0 (by decide)) hw hS (fun _ q => q) rfl rfl hsz hW hd hcs (fun H1 locs1 hw hz hk hS => kk H1 locs1 hw hS)
theorem sX8_303 {p : Program} {l : Launch} {e : Env} {R : Room} {s : State} {m : MethodId} {args : Array Value} {below : List Frame} {meth : Method} {c : Code} {H : Heap} {locs : List Loc} {cells slots : Nat} {Q : State → Prop} {cc : ByteArray} {pc nL : Nat} {ls : Array Slot} {rest : List Value} {ret : Option FieldType}  {G : xG} {β : Nat} {D : Nat → Prop} {x x' : XS} {a1 : Int32} {a2 : Int32} (C : Cx p s m args meth c RX8 cc nL ret (KK G)) (h : fX8_settleRuns x a1 a2 = some x') (hw : CW β D G x H) (hS : va_S D s.heap H locs) (hsz : ls.size = nL) (hW : (rest.map fun v => v.category).sum ≤ 8) (hR : 6 ≤ R.frames) (hR2 : 146 ≤ R.locals) (hcs : cells ≤ R.cells ∧ slots ≤ R.slots) (hd : decode cc pc = .ok (.invokevirtual 303, 3)) (kk : ∀ (H1 : Heap) (locs1 : List Loc), CW β D G x' H1 → va_S D s.heap H1 locs1 → W p l e R s m args below meth c H1 locs1 cells slots Q (F0 m (pc + 3) ls (rest))) : W p l e R s m args below meth c H locs cells slots Q (F0 m pc ls (.int a2 :: .int a1 :: .ref β :: rest)) := by
  exact xcallV C (As := [.int a1, .int a2]) (rest := rest) (nA := 2) (ci := 8) (kX8_settleRuns h) (tg 814 (by decide +kernel) rfl) (tg 816 (by decide +kernel) rfl) (sg (List.mem_of_getElem? (i := 51) (by decide +kernel)) rfl) (tg 1 (by decide +kernel) rfl) (tg 817 (by decide +kernel) rfl) ⟨rfl, by decide +kernel, by decide +kernel, by decide +kernel⟩ rfl rfl rfl ⟨hR, hR2⟩ (hw.2.2.1 0 (by decide)) hw hS (fun _ q => q) rfl rfl hsz hW hd hcs (fun H1 locs1 hw hz hk hS => kk H1 locs1 hw hS)
def BX8_season_82 (q1 : Int32) (q2 : Int32) (q4 : Int32) (q5 : Int32) (lp : Int64 → Int32 → XS → Option (XS)) (u6 : Int64) (u8 : Int32) (x : XS) : Option (XS) := if (irm q2 100) ≤ u8 then some x else bind2 (fX8_drawRuns x q1 (q2 / 100) u8 u6) fun v17 x18 => Option.bind (fX8_settleRuns x18 q1 (q2 / 100)) fun x20 => lt (u8 + 1) fun v22 => lp v17 v22 x20
def LX8_season_82 (q1 : Int32) (q2 : Int32) (q4 : Int32) (q5 : Int32) : Nat → Int64 → Int32 → XS → Option (XS)
  | 0, _, _, _ => none
  | n + 1, u6, u8, x => BX8_season_82 q1 q2 q4 q5 (LX8_season_82 q1 q2 q4 q5 n) u6 u8 x
def fX8_season (x : XS) (a1 : Int32) (a2 : Int32) (a3 : Int32) (a4 : Int32) (a5 : Int32) : Option (Int32 × XS) := Option.bind (fX8_isField x a1) fun v1 => if v1 = true then Option.bind (fX8_isWhen a2) fun v3 => if v3 = true then Option.bind (fX8_isWithin (irm a2 100) 1 12) fun v5 => if v5 = true then Option.bind (fX8_isWithin a3 0 99999) fun v7 => if v7 = true then Option.bind (fX8_isHorse x a4) fun v9 => if v9 = true then Option.bind (fX8_isWithin a5 0 1) fun v11 => if v11 = true then Option.bind (fX8_takeLeads x) fun x13 => lt (xsF x13 25 (fun _ => 0)) fun x15 => lt ((a3 + 1).toInt64) fun v16 => Option.bind (LX8_season_82 a1 a2 a4 a5 NF v16 0 x15) fun x23 => if a5 = 0 then if ib a4 10 then some (x23.2.1 25 a4.toNatClampNeg, x23) else none else if ib a4 10 then some (x23.2.1 24 a4.toNatClampNeg, x23) else none else some ((-2), x) else some ((-2), x) else some ((-2), x) else some ((-2), x) else some ((-2), x) else some ((-2), x)
set_option maxHeartbeats 4000000 in
set_option maxRecDepth 100000 in
theorem lX8_season_82 {p : Program} {l : Launch} {e : Env} {R : Room} {s : State} {m : MethodId} {args : Array Value} {below : List Frame} {meth : Method} {c : Code} {cells slots : Nat} {Q : State → Prop} {G : xG} {β : Nat} {D : Nat → Prop} (C : Cx p s m args meth c RX8 cX8_season 9 (some .int) (KK G)) (hRf : 6 ≤ R.frames) (hRl : 146 ≤ R.locals) (hcs : cells ≤ R.cells ∧ slots ≤ R.slots) (hf : Fz D G s.heap) (q1 : Int32) (q2 : Int32) (q4 : Int32) (q5 : Int32) : ∀ (n : Nat) (u6 : Int64) (u8 : Int32) (x : XS) (J : XS) (H : Heap) (locs : List Loc) (ls : Array Slot), LX8_season_82 q1 q2 q4 q5 n u6 u8 x = some J → CW β D G x H → va_S D s.heap H locs → lv_has ls 9 [(0, .ref β), (1, .int q1), (2, .int q2), (4, .int q4), (5, .int q5), (6, .long u6), (8, .int u8)] → (∀ (x1 : XS), J = x1 → ∀ (H : Heap) (locs : List Loc) (ls : Array Slot), CW β D G x1 H → va_S D s.heap H locs → lv_has ls 9 [(0, .ref β), (4, .int q4), (5, .int q5)] → W p l e R s m args below meth c H locs cells slots Q (F0 m 121 ls [])) → W p l e R s m args below meth c H locs cells slots Q (F0 m 82 ls []) := by
  have hx := C.1
  have hb := C.2.1
  have ho := C.2.2.2.1
  have hts := C.2.2.2.2.1
  intro n
  induction n with
  | zero =>
    intro u6 u8 x J H locs ls hm
    exact absurd hm (by simp [LX8_season_82])
  | succ n ih =>
    intro u6 u8 x J H locs ls hm hw hS hl ke
    replace hm : BX8_season_82 q1 q2 q4 q5 (LX8_season_82 q1 q2 q4 q5 n) u6 u8 x = some J := hm
    unfold BX8_season_82 at hm
    refine lv_iload hx hb dX8_season_82 (lv_at hl 6 rfl) ?_
    refine lv_iload_n hx hb dX8_season_84 rfl (lv_at hl 2 rfl) ?_
    refine lv_bipush (v := 100) hx hb dX8_season_85 (by decide) ?_
    refine lv_irem hx hb dX8_season_87 (by decide) ?_
    refine lv_icmp_ge (tgt := 121) hx hb dX8_season_88 (by decide) (fun cc => ?_) (fun cc => ?_)
    · replace hm := ite_p cc hm
      exact ke _ (Option.some.inj hm).symm _ _ _ hw hS (lv_sub hl [0, 3, 4] rfl)
    · replace hm := ite_n cc hm
      refine lv_aload_n hx hb dX8_season_91 rfl (lv_at hl 0 rfl) ?_
      refine lv_iload_n hx hb dX8_season_92 rfl (lv_at hl 1 rfl) ?_
      refine lv_iload_n hx hb dX8_season_93 rfl (lv_at hl 2 rfl) ?_
      refine lv_bipush (v := 100) hx hb dX8_season_94 (by decide) ?_
      refine lv_idiv hx hb dX8_season_96 (by decide) ?_
      refine lv_iload hx hb dX8_season_97 (lv_at hl 6 rfl) ?_
      refine lv_lload hx hb dX8_season_99 (lv_at hl 5 rfl) ?_
      obtain ⟨v17, x18, h19, hm⟩ := bind2_e hm
      refine sX8_299 C h19 hw hS hl.1 (Nat.le_of_ble_eq_true rfl) (Nat.le_trans (Nat.le_of_ble_eq_true rfl) hRf) (Nat.le_trans (Nat.le_of_ble_eq_true rfl) hRl) hcs dX8_season_101 (fun H locs hw hS => ?_)
      refine lv_lstore (lv' := [(6, .long v17), (0, .ref β), (1, .int q1), (2, .int q2), (4, .int q4), (5, .int q5), (8, .int u8)]) hx hb dX8_season_104 hl (by decide) rfl (fun ls hl => ?_)
      refine lv_aload_n hx hb dX8_season_106 rfl (lv_at hl 1 rfl) ?_
      refine lv_iload_n hx hb dX8_season_107 rfl (lv_at hl 2 rfl) ?_
      refine lv_iload_n hx hb dX8_season_108 rfl (lv_at hl 3 rfl) ?_
      refine lv_bipush (v := 100) hx hb dX8_season_109 (by decide) ?_
      refine lv_idiv hx hb dX8_season_111 (by decide) ?_
      obtain ⟨x20, h21, hm⟩ := bind_e hm
      refine sX8_303 C h21 hw hS hl.1 (Nat.le_of_ble_eq_true rfl) (Nat.le_trans (Nat.le_of_ble_eq_true rfl) hRf) (Nat.le_trans (Nat.le_of_ble_eq_true rfl) hRl) hcs dX8_season_112 (fun H locs hw hS => ?_)
      obtain ⟨v22, ev, hm⟩ := lt_e hm
      refine lv_iinc (v := v22) (lv' := [(8, .int v22), (6, .long v17), (0, .ref β), (1, .int q1), (2, .int q2), (4, .int q4), (5, .int q5)]) hx hb dX8_season_115 hl (k := 6) rfl (by rw [ev]; rfl) (by decide) rfl (fun ls hl => ?_)
      clear ev
      refine lv_goto (tgt := 82) hx hb dX8_season_118 (by decide) ?_
      exact ih _ _ _ _ _ _ _ hm hw hS (lv_sub hl [2, 3, 4, 5, 6, 1, 0] rfl) ke
abbrev rmX8_season : Room := { frames := 6, cells := 0, slots := 0, locals := 146 }
set_option maxHeartbeats 4000000 in
set_option maxRecDepth 100000 in
theorem kX8_season {l : Launch} {G : xG} {β : Nat} {D : Nat → Prop} {x x' : XS} {a1 : Int32} {a2 : Int32} {a3 : Int32} {a4 : Int32} {a5 : Int32} {r : Int32} (hm : fX8_season x a1 a2 a3 a4 a5 = some (r, x')) : Met l yX8_season (.code yX8_season cX8_season 9 (some .int) :: GT) rmX8_season (PcW [.ref β, .int a1, .int a2, .int a3, .int a4, .int a5] (CW β D G x) (KK G)) (QcW D (some (.int r)) (CW β D G x')) 0 0 D := by
  unfold fX8_season at hm
  refine xpro (own := RX8) (by decide +kernel) rfl (Nat.le_of_ble_eq_true rfl) ?_
  intro p e s m args below meth c C hw ls hl
  have hx := C.1
  have hb := C.2.1
  have ho := C.2.2.2.1
  have hts := C.2.2.2.2.1
  have hf : Fz D G s.heap := hw.2.2.2.2
  have hS : va_S D s.heap s.heap [] := va_S.rf
  have hl : lv_has ls 9 [(0, .ref β), (1, .int a1), (2, .int a2), (3, .int a3), (4, .int a4), (5, .int a5)] := hl
  have hRf : 6 ≤ rmX8_season.frames := Nat.le_refl _
  have hRl : 146 ≤ rmX8_season.locals := Nat.le_refl _
  have hcs : 0 ≤ rmX8_season.cells ∧ 0 ≤ rmX8_season.slots := ⟨Nat.le_refl _, Nat.le_refl _⟩
  refine lv_aload_n hx hb dX8_season_0 rfl (lv_at hl 0 rfl) ?_
  refine lv_iload_n hx hb dX8_season_1 rfl (lv_at hl 1 rfl) ?_
  obtain ⟨v1, h2, hm⟩ := bind_e hm
  refine sX8_187 C h2 hw hS hl.1 (Nat.le_of_ble_eq_true rfl) (Nat.le_trans (Nat.le_of_ble_eq_true rfl) hRf) (Nat.le_trans (Nat.le_of_ble_eq_true rfl) hRl) hcs dX8_season_2 (fun H locs hw hS => ?_)
  refine x_ifeqB hx hb dX8_season_5 (tgt := 58) (by decide) (fun cc => ?_) (fun cc => ?_)
  · replace hm := ite_n cc hm
    refine lv_bipush (v := (-2)) hx hb dX8_season_58 (by decide) ?_
    obtain ⟨rfl, rfl⟩ := inj2 hm
    exact xret_i C hw hS dX8_season_60
  · replace hm := ite_p cc hm
    refine lv_iload_n hx hb dX8_season_8 rfl (lv_at hl 2 rfl) ?_
    obtain ⟨v3, h4, hm⟩ := bind_e hm
    refine sX8_190 C h4 hw hS hl.1 (Nat.le_of_ble_eq_true rfl) (Nat.le_trans (Nat.le_of_ble_eq_true rfl) hRf) (Nat.le_trans (Nat.le_of_ble_eq_true rfl) hRl) hcs dX8_season_9 (fun H locs hw hS => ?_)
    refine x_ifeqB hx hb dX8_season_12 (tgt := 58) (by decide) (fun cc => ?_) (fun cc => ?_)
    · replace hm := ite_n cc hm
      refine lv_bipush (v := (-2)) hx hb dX8_season_58 (by decide) ?_
      obtain ⟨rfl, rfl⟩ := inj2 hm
      exact xret_i C hw hS dX8_season_60
    · replace hm := ite_p cc hm
      refine lv_iload_n hx hb dX8_season_15 rfl (lv_at hl 2 rfl) ?_
      refine lv_bipush (v := 100) hx hb dX8_season_16 (by decide) ?_
      refine lv_irem hx hb dX8_season_18 (by decide) ?_
      refine lv_iconst (v := 1) hx hb dX8_season_19 (by decide) ?_
      refine lv_bipush (v := 12) hx hb dX8_season_20 (by decide) ?_
      obtain ⟨v5, h6, hm⟩ := bind_e hm
      refine sX8_138 C h6 hw hS hl.1 (Nat.le_of_ble_eq_true rfl) (Nat.le_trans (Nat.le_of_ble_eq_true rfl) hRf) (Nat.le_trans (Nat.le_of_ble_eq_true rfl) hRl) hcs dX8_season_22 (fun H locs hw hS => ?_)
      refine x_ifeqB hx hb dX8_season_25 (tgt := 58) (by decide) (fun cc => ?_) (fun cc => ?_)
      · replace hm := ite_n cc hm
        refine lv_bipush (v := (-2)) hx hb dX8_season_58 (by decide) ?_
        obtain ⟨rfl, rfl⟩ := inj2 hm
        exact xret_i C hw hS dX8_season_60
      · replace hm := ite_p cc hm
        refine lv_iload_n hx hb dX8_season_28 rfl (lv_at hl 3 rfl) ?_
        refine lv_iconst (v := 0) hx hb dX8_season_29 (by decide) ?_
        refine lv_ldcw (v := 99999) hx hb ho (hts (.constant RX8 295 99999) (tg 807 (by decide +kernel) rfl)) dX8_season_30 ?_
        obtain ⟨v7, h8, hm⟩ := bind_e hm
        refine sX8_138 C h8 hw hS hl.1 (Nat.le_of_ble_eq_true rfl) (Nat.le_trans (Nat.le_of_ble_eq_true rfl) hRf) (Nat.le_trans (Nat.le_of_ble_eq_true rfl) hRl) hcs dX8_season_33 (fun H locs hw hS => ?_)
        refine x_ifeqB hx hb dX8_season_36 (tgt := 58) (by decide) (fun cc => ?_) (fun cc => ?_)
        · replace hm := ite_n cc hm
          refine lv_bipush (v := (-2)) hx hb dX8_season_58 (by decide) ?_
          obtain ⟨rfl, rfl⟩ := inj2 hm
          exact xret_i C hw hS dX8_season_60
        · replace hm := ite_p cc hm
          refine lv_aload_n hx hb dX8_season_39 rfl (lv_at hl 0 rfl) ?_
          refine lv_iload hx hb dX8_season_40 (lv_at hl 4 rfl) ?_
          obtain ⟨v9, h10, hm⟩ := bind_e hm
          refine sX8_154 C h10 hw hS hl.1 (Nat.le_of_ble_eq_true rfl) (Nat.le_trans (Nat.le_of_ble_eq_true rfl) hRf) (Nat.le_trans (Nat.le_of_ble_eq_true rfl) hRl) hcs dX8_season_42 (fun H locs hw hS => ?_)
          refine x_ifeqB hx hb dX8_season_45 (tgt := 58) (by decide) (fun cc => ?_) (fun cc => ?_)
          · replace hm := ite_n cc hm
            refine lv_bipush (v := (-2)) hx hb dX8_season_58 (by decide) ?_
            obtain ⟨rfl, rfl⟩ := inj2 hm
            exact xret_i C hw hS dX8_season_60
          · replace hm := ite_p cc hm
            refine lv_iload hx hb dX8_season_48 (lv_at hl 5 rfl) ?_
            refine lv_iconst (v := 0) hx hb dX8_season_50 (by decide) ?_
            refine lv_iconst (v := 1) hx hb dX8_season_51 (by decide) ?_
            obtain ⟨v11, h12, hm⟩ := bind_e hm
            refine sX8_138 C h12 hw hS hl.1 (Nat.le_of_ble_eq_true rfl) (Nat.le_trans (Nat.le_of_ble_eq_true rfl) hRf) (Nat.le_trans (Nat.le_of_ble_eq_true rfl) hRl) hcs dX8_season_52 (fun H locs hw hS => ?_)
            refine x_ifneB hx hb dX8_season_55 (tgt := 61) (by decide) (fun cc => ?_) (fun cc => ?_)
            · replace hm := ite_p cc hm
              refine lv_aload_n hx hb dX8_season_61 rfl (lv_at hl 0 rfl) ?_
              obtain ⟨x13, h14, hm⟩ := bind_e hm
              refine sX8_296 C h14 hw hS hl.1 (Nat.le_of_ble_eq_true rfl) (Nat.le_trans (Nat.le_of_ble_eq_true rfl) hRf) (Nat.le_trans (Nat.le_of_ble_eq_true rfl) hRl) hcs dX8_season_62 (fun H locs hw hS => ?_)
              refine lv_aload_n hx hb dX8_season_65 rfl (lv_at hl 0 rfl) ?_
              refine gX8_92 C hw dX8_season_66 ?_
              refine lv_iconst (v := 0) hx hb dX8_season_69 (by decide) ?_
              refine flX8_98_25 C hw hS hl.1 (Nat.le_of_ble_eq_true rfl) (Nat.le_trans (Nat.le_of_ble_eq_true rfl) hRf) (Nat.le_trans (Nat.le_of_ble_eq_true rfl) hRl) hcs dX8_season_70 (fun H locs hw hS => ?_)
              obtain ⟨x15, ev, hm⟩ := lt_e hm
              rw [← ev] at hw
              clear ev
              refine lv_iload_n hx hb dX8_season_73 rfl (lv_at hl 3 rfl) ?_
              refine lv_iconst (v := 1) hx hb dX8_season_74 (by decide) ?_
              refine lv_iadd hx hb dX8_season_75 ?_
              refine lv_i2l hx hb dX8_season_76 rfl ?_
              refine topJ hm (fun v16 hm => ?_)
              refine lv_lstore (lv' := [(6, .long v16), (0, .ref β), (1, .int a1), (2, .int a2), (3, .int a3), (4, .int a4), (5, .int a5)]) hx hb dX8_season_77 hl (by decide) rfl (fun ls hl => ?_)
              refine lv_iconst (v := 0) hx hb dX8_season_79 (by decide) ?_
              refine lv_istore (lv' := [(8, .int 0), (6, .long v16), (0, .ref β), (1, .int a1), (2, .int a2), (3, .int a3), (4, .int a4), (5, .int a5)]) hx hb dX8_season_80 hl (by decide) rfl (fun ls hl => ?_)
              obtain ⟨x23, hj, hm⟩ := bind_e hm
              refine lX8_season_82 C hRf hRl hcs hf a1 a2 a4 a5 NF _ _ _ _ _ _ _ hj hw hS (lv_sub hl [2, 3, 4, 6, 7, 1, 0] rfl) (fun x23_ e0 H locs ls hw hS hl => ?_)
              cases e0
              refine lv_iload hx hb dX8_season_121 (lv_at hl 2 rfl) ?_
              refine lv_if_ne (tgt := 136) hx hb dX8_season_123 (by decide) (fun cc => ?_) (fun cc => ?_)
              · replace hm := ite_n cc hm
                refine lv_aload_n hx hb dX8_season_136 rfl (lv_at hl 0 rfl) ?_
                refine gX8_89 C hw dX8_season_137 ?_
                refine lv_iload hx hb dX8_season_140 (lv_at hl 1 rfl) ?_
                obtain ⟨h24, hm⟩ := chk_e hm
                refine alX_24 C hw h24 dX8_season_142 ?_
                obtain ⟨rfl, rfl⟩ := inj2 hm
                exact xret_i C hw hS dX8_season_143
              · replace hm := ite_p cc hm
                refine lv_aload_n hx hb dX8_season_126 rfl (lv_at hl 0 rfl) ?_
                refine gX8_92 C hw dX8_season_127 ?_
                refine lv_iload hx hb dX8_season_130 (lv_at hl 1 rfl) ?_
                obtain ⟨h25, hm⟩ := chk_e hm
                refine alX_25 C hw h25 dX8_season_132 ?_
                refine lv_goto (tgt := 143) hx hb dX8_season_133 (by decide) ?_
                obtain ⟨rfl, rfl⟩ := inj2 hm
                exact xret_i C hw hS dX8_season_143
            · replace hm := ite_n cc hm
              refine lv_bipush (v := (-2)) hx hb dX8_season_58 (by decide) ?_
              obtain ⟨rfl, rfl⟩ := inj2 hm
              exact xret_i C hw hS dX8_season_60
theorem dX8_image_0 : decode cX8_image 0 = .ok (.aload_n 0, 1) := by decide +kernel
theorem dX8_image_1 : decode cX8_image 1 = .ok (.getfield 72, 3) := by decide +kernel
theorem dX8_image_4 : decode cX8_image 4 = .ok (.iconst 1, 1) := by decide +kernel
theorem dX8_image_5 : decode cX8_image 5 = .ok (.putfield 306, 3) := by decide +kernel
theorem dX8_image_8 : decode cX8_image 8 = .ok (.aload_n 0, 1) := by decide +kernel
theorem dX8_image_9 : decode cX8_image 9 = .ok (.getfield 72, 3) := by decide +kernel
theorem dX8_image_12 : decode cX8_image 12 = .ok (.aload_n 0, 1) := by decide +kernel
theorem dX8_image_13 : decode cX8_image 13 = .ok (.getfield 15, 3) := by decide +kernel
theorem dX8_image_16 : decode cX8_image 16 = .ok (.putfield 310, 3) := by decide +kernel
theorem dX8_image_19 : decode cX8_image 19 = .ok (.aload_n 0, 1) := by decide +kernel
theorem dX8_image_20 : decode cX8_image 20 = .ok (.getfield 72, 3) := by decide +kernel
theorem dX8_image_23 : decode cX8_image 23 = .ok (.aload_n 0, 1) := by decide +kernel
theorem dX8_image_24 : decode cX8_image 24 = .ok (.getfield 32, 3) := by decide +kernel
theorem dX8_image_27 : decode cX8_image 27 = .ok (.putfield 311, 3) := by decide +kernel
theorem dX8_image_30 : decode cX8_image 30 = .ok (.aload_n 0, 1) := by decide +kernel
theorem dX8_image_31 : decode cX8_image 31 = .ok (.getfield 72, 3) := by decide +kernel
theorem dX8_image_34 : decode cX8_image 34 = .ok (.aload_n 0, 1) := by decide +kernel
theorem dX8_image_35 : decode cX8_image 35 = .ok (.getfield 60, 3) := by decide +kernel
theorem dX8_image_38 : decode cX8_image 38 = .ok (.putfield 312, 3) := by decide +kernel
theorem dX8_image_41 : decode cX8_image 41 = .ok (.aload_n 0, 1) := by decide +kernel
theorem dX8_image_42 : decode cX8_image 42 = .ok (.getfield 72, 3) := by decide +kernel
theorem dX8_image_45 : decode cX8_image 45 = .ok (.aload_n 0, 1) := by decide +kernel
theorem dX8_image_46 : decode cX8_image 46 = .ok (.getfield 23, 3) := by decide +kernel
theorem dX8_image_49 : decode cX8_image 49 = .ok (.putfield 313, 3) := by decide +kernel
theorem dX8_image_52 : decode cX8_image 52 = .ok (.aload_n 0, 1) := by decide +kernel
theorem dX8_image_53 : decode cX8_image 53 = .ok (.getfield 19, 3) := by decide +kernel
theorem dX8_image_56 : decode cX8_image 56 = .ok (.iconst 0, 1) := by decide +kernel
theorem dX8_image_57 : decode cX8_image 57 = .ok (.aload_n 0, 1) := by decide +kernel
theorem dX8_image_58 : decode cX8_image 58 = .ok (.getfield 72, 3) := by decide +kernel
theorem dX8_image_61 : decode cX8_image 61 = .ok (.getfield 314, 3) := by decide +kernel
theorem dX8_image_64 : decode cX8_image 64 = .ok (.iconst 0, 1) := by decide +kernel
theorem dX8_image_65 : decode cX8_image 65 = .ok (.iconst 4, 1) := by decide +kernel
theorem dX8_image_66 : decode cX8_image 66 = .ok (.invokestatic 315, 3) := by decide +kernel
theorem dX8_image_69 : decode cX8_image 69 = .ok (.iconst 0, 1) := by decide +kernel
theorem dX8_image_70 : decode cX8_image 70 = .ok (.istore_n 1, 1) := by decide +kernel
theorem dX8_image_71 : decode cX8_image 71 = .ok (.iload_n 1, 1) := by decide +kernel
theorem dX8_image_72 : decode cX8_image 72 = .ok (.aload_n 0, 1) := by decide +kernel
theorem dX8_image_73 : decode cX8_image 73 = .ok (.getfield 15, 3) := by decide +kernel
theorem dX8_image_76 : decode cX8_image 76 = .ok (.if_icmp .ge 22, 3) := by decide +kernel
theorem dX8_image_79 : decode cX8_image 79 = .ok (.aload_n 0, 1) := by decide +kernel
theorem dX8_image_80 : decode cX8_image 80 = .ok (.getfield 72, 3) := by decide +kernel
theorem dX8_image_83 : decode cX8_image 83 = .ok (.iload_n 1, 1) := by decide +kernel
theorem dX8_image_84 : decode cX8_image 84 = .ok (.aload_n 0, 1) := by decide +kernel
theorem dX8_image_85 : decode cX8_image 85 = .ok (.iload_n 1, 1) := by decide +kernel
theorem dX8_image_86 : decode cX8_image 86 = .ok (.invokevirtual 134, 3) := by decide +kernel
theorem dX8_image_89 : decode cX8_image 89 = .ok (.invokevirtual 321, 3) := by decide +kernel
theorem dX8_image_92 : decode cX8_image 92 = .ok (.iinc 1 1, 3) := by decide +kernel
theorem dX8_image_95 : decode cX8_image 95 = .ok (.goto (-24), 3) := by decide +kernel
theorem dX8_image_98 : decode cX8_image 98 = .ok (.aload_n 0, 1) := by decide +kernel
theorem dX8_image_99 : decode cX8_image 99 = .ok (.getfield 32, 3) := by decide +kernel
theorem dX8_image_102 : decode cX8_image 102 = .ok (.ireturn, 1) := by decide +kernel
theorem gX8_72 {p : Program} {l : Launch} {e : Env} {R : Room} {s : State} {m : MethodId} {args : Array Value} {below : List Frame} {meth : Method} {c : Code} {H : Heap} {locs : List Loc} {cells slots : Nat} {Q : State → Prop} {cc : ByteArray} {pc nL : Nat} {ls : Array Slot} {rest : List Value} {ret : Option FieldType} {G : xG} {β : Nat} {D : Nat → Prop} {x : XS} (C : Cx p s m args meth c RX8 cc nL ret (KK G)) (hw : CW β D G x H) (hd : decode cc pc = .ok (.getfield 72, 3)) (kk : W p l e R s m args below meth c H locs cells slots Q (F0 m (pc + 3) ls (.ref (β + 11) :: rest))) : W p l e R s m args below meth c H locs cells slots Q (F0 m pc ls (.ref β :: rest)) :=
  va_get C.1 C.2.1 C.2.2.2.2.1 iwX8 C.2.2.2.1 C.K.1 (xP1 (hw.2.2.1 0 (by decide))) 0 rfl rfl 12 (by decide) (C.2.2.2.2.1 (.fieldLink RX8 72 RX8 "kept" "LAtThePost$Image;") (tg 359 (by decide +kernel) rfl)) (fun _ h9 => h9) rfl hd kk
theorem pX8_306 {p : Program} {l : Launch} {e : Env} {R : Room} {s : State} {m : MethodId} {args : Array Value} {below : List Frame} {meth : Method} {c : Code} {H : Heap} {locs : List Loc} {cells slots : Nat} {Q : State → Prop} {cc : ByteArray} {pc nL : Nat} {ls : Array Slot} {rest : List Value} {ret : Option FieldType} {G : xG} {β : Nat} {D : Nat → Prop} {x : XS} {b : Bool} (C : Cx p s m args meth c RX8 cc nL ret (KK G)) (hw : CW β D G x H) (hS : va_S D s.heap H locs) (hd : decode cc pc = .ok (.putfield 306, 3)) (kk : ∀ (H1 : Heap) (locs1 : List Loc), CW β D G (xsS x 11 0 (bI b)) H1 → va_S D s.heap H1 locs1 → W p l e R s m args below meth c H1 locs1 cells slots Q (F0 m (pc + 3) ls (rest))) : W p l e R s m args below meth c H locs cells slots Q (F0 m pc ls (.int (bI b) :: .ref (β + 11) :: rest)) :=
  x_putN C.1 C.2.1 C.2.2.2.2.1 iwX2 tyX2 tyX2_ok nmX2 C.2.2.2.1 C.K.1 hS (hw.2.2.1 11 (by decide)) (hw.2.1 11 (by decide)) rfl 0 (by decide) (va_Nw.use (w := .fieldLinkNest RX8 306 RX2 "isKept" "Z" "AtThePost") rfl (C.K.2.1 (RX8, 306, RX2, "isKept", "Z") (List.mem_of_getElem? (i := 4) rfl))) (fun _ h9 => h9) rfl (ty := .boolean) (by decide +kernel) (bI_nar b) (bI_fits b) (Nat.le_of_ble_eq_true rfl) hd (fun H1 locs1 hat ho hS => kk H1 locs1 (hw.setS 11 0 (bI b) hat ho) hS)
theorem pX8_310 {p : Program} {l : Launch} {e : Env} {R : Room} {s : State} {m : MethodId} {args : Array Value} {below : List Frame} {meth : Method} {c : Code} {H : Heap} {locs : List Loc} {cells slots : Nat} {Q : State → Prop} {cc : ByteArray} {pc nL : Nat} {ls : Array Slot} {rest : List Value} {ret : Option FieldType} {G : xG} {β : Nat} {D : Nat → Prop} {x : XS} {v : Int32} (C : Cx p s m args meth c RX8 cc nL ret (KK G)) (hw : CW β D G x H) (hS : va_S D s.heap H locs) (hd : decode cc pc = .ok (.putfield 310, 3)) (kk : ∀ (H1 : Heap) (locs1 : List Loc), CW β D G (xsS x 11 1 v) H1 → va_S D s.heap H1 locs1 → W p l e R s m args below meth c H1 locs1 cells slots Q (F0 m (pc + 3) ls (rest))) : W p l e R s m args below meth c H locs cells slots Q (F0 m pc ls (.int v :: .ref (β + 11) :: rest)) :=
  x_putN C.1 C.2.1 C.2.2.2.2.1 iwX2 tyX2 tyX2_ok nmX2 C.2.2.2.1 C.K.1 hS (hw.2.2.1 11 (by decide)) (hw.2.1 11 (by decide)) rfl 1 (by decide) (va_Nw.use (w := .fieldLinkNest RX8 310 RX2 "horseCount" "I" "AtThePost") rfl (C.K.2.1 (RX8, 310, RX2, "horseCount", "I") (List.mem_of_getElem? (i := 5) rfl))) (fun _ h9 => h9) rfl (ty := .int) (by decide +kernel) rfl rfl (Nat.le_of_ble_eq_true rfl) hd (fun H1 locs1 hat ho hS => kk H1 locs1 (hw.setS 11 1 v hat ho) hS)
theorem pX8_311 {p : Program} {l : Launch} {e : Env} {R : Room} {s : State} {m : MethodId} {args : Array Value} {below : List Frame} {meth : Method} {c : Code} {H : Heap} {locs : List Loc} {cells slots : Nat} {Q : State → Prop} {cc : ByteArray} {pc nL : Nat} {ls : Array Slot} {rest : List Value} {ret : Option FieldType} {G : xG} {β : Nat} {D : Nat → Prop} {x : XS} {v : Int32} (C : Cx p s m args meth c RX8 cc nL ret (KK G)) (hw : CW β D G x H) (hS : va_S D s.heap H locs) (hd : decode cc pc = .ok (.putfield 311, 3)) (kk : ∀ (H1 : Heap) (locs1 : List Loc), CW β D G (xsS x 11 2 v) H1 → va_S D s.heap H1 locs1 → W p l e R s m args below meth c H1 locs1 cells slots Q (F0 m (pc + 3) ls (rest))) : W p l e R s m args below meth c H locs cells slots Q (F0 m pc ls (.int v :: .ref (β + 11) :: rest)) :=
  x_putN C.1 C.2.1 C.2.2.2.2.1 iwX2 tyX2 tyX2_ok nmX2 C.2.2.2.1 C.K.1 hS (hw.2.2.1 11 (by decide)) (hw.2.1 11 (by decide)) rfl 2 (by decide) (va_Nw.use (w := .fieldLinkNest RX8 311 RX2 "raceCount" "I" "AtThePost") rfl (C.K.2.1 (RX8, 311, RX2, "raceCount", "I") (List.mem_of_getElem? (i := 6) rfl))) (fun _ h9 => h9) rfl (ty := .int) (by decide +kernel) rfl rfl (Nat.le_of_ble_eq_true rfl) hd (fun H1 locs1 hat ho hS => kk H1 locs1 (hw.setS 11 2 v hat ho) hS)
theorem pX8_312 {p : Program} {l : Launch} {e : Env} {R : Room} {s : State} {m : MethodId} {args : Array Value} {below : List Frame} {meth : Method} {c : Code} {H : Heap} {locs : List Loc} {cells slots : Nat} {Q : State → Prop} {cc : ByteArray} {pc nL : Nat} {ls : Array Slot} {rest : List Value} {ret : Option FieldType} {G : xG} {β : Nat} {D : Nat → Prop} {x : XS} {v : Int32} (C : Cx p s m args meth c RX8 cc nL ret (KK G)) (hw : CW β D G x H) (hS : va_S D s.heap H locs) (hd : decode cc pc = .ok (.putfield 312, 3)) (kk : ∀ (H1 : Heap) (locs1 : List Loc), CW β D G (xsS x 11 3 v) H1 → va_S D s.heap H1 locs1 → W p l e R s m args below meth c H1 locs1 cells slots Q (F0 m (pc + 3) ls (rest))) : W p l e R s m args below meth c H locs cells slots Q (F0 m pc ls (.int v :: .ref (β + 11) :: rest)) :=
  x_putN C.1 C.2.1 C.2.2.2.2.1 iwX2 tyX2 tyX2_ok nmX2 C.2.2.2.1 C.K.1 hS (hw.2.2.1 11 (by decide)) (hw.2.1 11 (by decide)) rfl 3 (by decide) (va_Nw.use (w := .fieldLinkNest RX8 312 RX2 "rule" "I" "AtThePost") rfl (C.K.2.1 (RX8, 312, RX2, "rule", "I") (List.mem_of_getElem? (i := 7) rfl))) (fun _ h9 => h9) rfl (ty := .int) (by decide +kernel) rfl rfl (Nat.le_of_ble_eq_true rfl) hd (fun H1 locs1 hat ho hS => kk H1 locs1 (hw.setS 11 3 v hat ho) hS)
theorem pX8_313 {p : Program} {l : Launch} {e : Env} {R : Room} {s : State} {m : MethodId} {args : Array Value} {below : List Frame} {meth : Method} {c : Code} {H : Heap} {locs : List Loc} {cells slots : Nat} {Q : State → Prop} {cc : ByteArray} {pc nL : Nat} {ls : Array Slot} {rest : List Value} {ret : Option FieldType} {G : xG} {β : Nat} {D : Nat → Prop} {x : XS} {v : Int32} (C : Cx p s m args meth c RX8 cc nL ret (KK G)) (hw : CW β D G x H) (hS : va_S D s.heap H locs) (hd : decode cc pc = .ok (.putfield 313, 3)) (kk : ∀ (H1 : Heap) (locs1 : List Loc), CW β D G (xsS x 11 4 v) H1 → va_S D s.heap H1 locs1 → W p l e R s m args below meth c H1 locs1 cells slots Q (F0 m (pc + 3) ls (rest))) : W p l e R s m args below meth c H locs cells slots Q (F0 m pc ls (.int v :: .ref (β + 11) :: rest)) :=
  x_putN C.1 C.2.1 C.2.2.2.2.1 iwX2 tyX2 tyX2_ok nmX2 C.2.2.2.1 C.K.1 hS (hw.2.2.1 11 (by decide)) (hw.2.1 11 (by decide)) rfl 4 (by decide) (va_Nw.use (w := .fieldLinkNest RX8 313 RX2 "spread" "I" "AtThePost") rfl (C.K.2.1 (RX8, 313, RX2, "spread", "I") (List.mem_of_getElem? (i := 8) rfl))) (fun _ h9 => h9) rfl (ty := .int) (by decide +kernel) rfl rfl (Nat.le_of_ble_eq_true rfl) hd (fun H1 locs1 hat ho hS => kk H1 locs1 (hw.setS 11 4 v hat ho) hS)
theorem gX8_314 {p : Program} {l : Launch} {e : Env} {R : Room} {s : State} {m : MethodId} {args : Array Value} {below : List Frame} {meth : Method} {c : Code} {H : Heap} {locs : List Loc} {cells slots : Nat} {Q : State → Prop} {cc : ByteArray} {pc nL : Nat} {ls : Array Slot} {rest : List Value} {ret : Option FieldType} {G : xG} {β : Nat} {D : Nat → Prop} {x : XS} (C : Cx p s m args meth c RX8 cc nL ret (KK G)) (hw : CW β D G x H) (hd : decode cc pc = .ok (.getfield 314, 3)) (kk : W p l e R s m args below meth c H locs cells slots Q (F0 m (pc + 3) ls (.ref (β + 12) :: rest))) : W p l e R s m args below meth c H locs cells slots Q (F0 m pc ls (.ref (β + 11) :: rest)) :=
  va_getN C.1 C.2.1 C.2.2.2.2.1 iwX2 C.2.2.2.1 C.K.1 (xP1 (hw.2.2.1 11 (by decide))) 0 rfl rfl 5 (by decide) (va_Nw.use (w := .fieldLinkNest RX8 314 RX2 "pounds" "[I" "AtThePost") rfl (C.K.2.1 (RX8, 314, RX2, "pounds", "[I") (List.mem_of_getElem? (i := 9) rfl))) (fun _ h9 => h9) rfl hd kk
theorem cpX8_315_212 {p : Program} {l : Launch} {e : Env} {R : Room} {s : State} {m : MethodId} {args : Array Value} {below : List Frame} {meth : Method} {c : Code} {H : Heap} {locs : List Loc} {cells slots : Nat} {Q : State → Prop} {cc : ByteArray} {pc nL : Nat} {ls : Array Slot} {rest : List Value} {ret : Option FieldType}  {G : xG} {β : Nat} {D : Nat → Prop} {x x' : XS} {sp dp n : Int32} (C : Cx p s m args meth c RX8 cc nL ret (KK G)) (h : cpF x 2 4 12 4 sp dp n = some x') (hw : CW β D G x H) (hS : va_S D s.heap H locs) (hsz : ls.size = nL) (hR : 1 ≤ R.frames) (hR2 : (rest.map fun v => v.category).sum + (nativeFrameWords "java/lang/System" "arraycopy" 5 + 11) ≤ R.locals) (hd : decode cc pc = .ok (.invokestatic 315, 3)) (kk : ∀ (H1 : Heap) (locs1 : List Loc), CW β D G x' H1 → va_S D s.heap H1 locs1 → W p l e R s m args below meth c H1 locs1 cells slots Q (F0 m (pc + 3) ls (rest))) : W p l e R s m args below meth c H locs cells slots Q (F0 m pc ls (.int n :: .int dp :: .ref (β + 12) :: .int sp :: .ref (β + 2) :: rest)) := by
  obtain ⟨h1, h2, h3, h4, h5, rfl⟩ := cpF_e h
  exact x_copyi C.1 C.2.1 (C.2.2.1.trans hsz.symm) C.2.2.2.1 (C.2.2.2.2.1 (.methodLink RX8 315 arraycopyName) (tg 826 (by decide +kernel) rfl)) (C.2.2.2.2.1 (.native arraycopyName) (tg 323 (by decide +kernel) rfl)) (C.2.2.2.2.1 (.static arraycopyName) (tg 322 (by decide +kernel) rfl)) (C.2.2.2.2.1 (.initialized "java/lang/System") (tg 13 (by decide +kernel) rfl)) C.K.1 hS 0 0 (hw.2.2.1 2 (by decide)) (hw.2.2.1 12 (by decide)) (hw.2.1 12 (by decide)) rfl rfl rfl h1 h2 h3 h4 h5 (fun _ _ => rfl) hR hR2 hd (fun H1 locs1 hat ho hS => kk H1 locs1 (hw.setF 12 _ hat ho) hS)
theorem sX8_321 {p : Program} {l : Launch} {e : Env} {R : Room} {s : State} {m : MethodId} {args : Array Value} {below : List Frame} {meth : Method} {c : Code} {H : Heap} {locs : List Loc} {cells slots : Nat} {Q : State → Prop} {cc : ByteArray} {pc nL : Nat} {ls : Array Slot} {rest : List Value} {ret : Option FieldType}  {G : xG} {β : Nat} {D : Nat → Prop} {x x' : XS} {a1 : Int32} {a2 : Option Nat} (C : Cx p s m args meth c RX8 cc nL ret (KK G)) (h : fX2_take x a1 a2 = some x') (hw : CW β D G x H) (hS : va_S D s.heap H locs) (hsz : ls.size = nL) (hW : (rest.map fun v => v.category).sum ≤ 8) (hR : 1 ≤ R.frames) (hR2 : 22 ≤ R.locals) (hcs : cells ≤ R.cells ∧ slots ≤ R.slots) (hd : decode cc pc = .ok (.invokevirtual 321, 3)) (kk : ∀ (H1 : Heap) (locs1 : List Loc), CW β D G x' H1 → va_S D s.heap H1 locs1 → W p l e R s m args below meth c H1 locs1 cells slots Q (F0 m (pc + 3) ls (rest))) : W p l e R s m args below meth c H locs cells slots Q (F0 m pc ls (va_rf a2 :: .int a1 :: .ref (β + 11) :: rest)) := by
  exact xcallV C (As := [.int a1, va_rf a2]) (rest := rest) (nA := 2) (ci := 2) (kX2_take h) (tg 827 (by decide +kernel) rfl) (tg 828 (by decide +kernel) rfl) (tg 829 (by decide +kernel) rfl) (tg 4 (by decide +kernel) rfl) (tg 830 (by decide +kernel) rfl) ⟨rfl, by decide +kernel, by decide +kernel, by decide +kernel⟩ rfl rfl rfl ⟨hR, hR2⟩ (hw.2.2.1 11 (by decide)) hw hS (fun _ q => q) rfl rfl hsz hW hd hcs (fun H1 locs1 hw hz hk hS => kk H1 locs1 hw hS)
def BX8_image_71 (lp : Int32 → XS → Option (XS)) (u1 : Int32) (x : XS) : Option (XS) := if (x.1 0 1) ≤ u1 then some x else Option.bind (fX8_horseAt x u1) fun v8 => Option.bind (fX2_take x u1 v8) fun x10 => lt (u1 + 1) fun v12 => lp v12 x10
def LX8_image_71 : Nat → Int32 → XS → Option (XS)
  | 0, _, _ => none
  | n + 1, u1, x => BX8_image_71 (LX8_image_71 n) u1 x
def fX8_image (x : XS) : Option (Int32 × XS) := lt (xsS x 11 0 (bI true)) fun x1 => lt (xsS x1 11 1 (x1.1 0 1)) fun x2 => lt (xsS x2 11 2 (x2.1 0 5)) fun x3 => lt (xsS x3 11 3 (x3.1 0 10)) fun x4 => lt (xsS x4 11 4 (x4.1 0 3)) fun x5 => Option.bind (cpF x5 2 4 12 4 0 0 4) fun x6 => Option.bind (LX8_image_71 NF 0 x6) fun x13 => some (x13.1 0 5, x13)
set_option maxHeartbeats 4000000 in
set_option maxRecDepth 100000 in
theorem lX8_image_71 {p : Program} {l : Launch} {e : Env} {R : Room} {s : State} {m : MethodId} {args : Array Value} {below : List Frame} {meth : Method} {c : Code} {cells slots : Nat} {Q : State → Prop} {G : xG} {β : Nat} {D : Nat → Prop} (C : Cx p s m args meth c RX8 cX8_image 2 (some .int) (KK G)) (hRf : 1 ≤ R.frames) (hRl : 40 ≤ R.locals) (hcs : cells ≤ R.cells ∧ slots ≤ R.slots) (hf : Fz D G s.heap) : ∀ (n : Nat) (u1 : Int32) (x : XS) (J : XS) (H : Heap) (locs : List Loc) (ls : Array Slot), LX8_image_71 n u1 x = some J → CW β D G x H → va_S D s.heap H locs → lv_has ls 2 [(0, .ref β), (1, .int u1)] → (∀ (x1 : XS), J = x1 → ∀ (H : Heap) (locs : List Loc) (ls : Array Slot), CW β D G x1 H → va_S D s.heap H locs → lv_has ls 2 [(0, .ref β)] → W p l e R s m args below meth c H locs cells slots Q (F0 m 98 ls [])) → W p l e R s m args below meth c H locs cells slots Q (F0 m 71 ls []) := by
  have hx := C.1
  have hb := C.2.1
  have ho := C.2.2.2.1
  have hts := C.2.2.2.2.1
  intro n
  induction n with
  | zero =>
    intro u1 x J H locs ls hm
    exact absurd hm (by simp [LX8_image_71])
  | succ n ih =>
    intro u1 x J H locs ls hm hw hS hl ke
    replace hm : BX8_image_71 (LX8_image_71 n) u1 x = some J := hm
    unfold BX8_image_71 at hm
    refine lv_iload_n hx hb dX8_image_71 rfl (lv_at hl 1 rfl) ?_
    refine lv_aload_n hx hb dX8_image_72 rfl (lv_at hl 0 rfl) ?_
    refine gX8_15 C hw dX8_image_73 ?_
    refine lv_icmp_ge (tgt := 98) hx hb dX8_image_76 (by decide) (fun cc => ?_) (fun cc => ?_)
    · replace hm := ite_p cc hm
      exact ke _ (Option.some.inj hm).symm _ _ _ hw hS (lv_sub hl [0] rfl)
    · replace hm := ite_n cc hm
      refine lv_aload_n hx hb dX8_image_79 rfl (lv_at hl 0 rfl) ?_
      refine gX8_72 C hw dX8_image_80 ?_
      refine lv_iload_n hx hb dX8_image_83 rfl (lv_at hl 1 rfl) ?_
      refine lv_aload_n hx hb dX8_image_84 rfl (lv_at hl 0 rfl) ?_
      refine lv_iload_n hx hb dX8_image_85 rfl (lv_at hl 1 rfl) ?_
      obtain ⟨v8, h9, hm⟩ := bind_e hm
      refine sX8_134 C h9 hw hS hl.1 (Nat.le_of_ble_eq_true rfl) (Nat.le_trans (Nat.le_of_ble_eq_true rfl) hRf) (Nat.le_trans (Nat.le_of_ble_eq_true rfl) hRl) hcs dX8_image_86 (fun H locs hw hS => ?_)
      obtain ⟨x10, h11, hm⟩ := bind_e hm
      refine sX8_321 (a1 := u1) (a2 := v8) C h11 hw hS hl.1 (Nat.le_of_ble_eq_true rfl) (Nat.le_trans (Nat.le_of_ble_eq_true rfl) hRf) (Nat.le_trans (Nat.le_of_ble_eq_true rfl) hRl) hcs dX8_image_89 (fun H locs hw hS => ?_)
      obtain ⟨v12, ev, hm⟩ := lt_e hm
      refine lv_iinc (v := v12) (lv' := [(1, .int v12), (0, .ref β)]) hx hb dX8_image_92 hl (k := 1) rfl (by rw [ev]; rfl) (by decide) rfl (fun ls hl => ?_)
      clear ev
      refine lv_goto (tgt := 71) hx hb dX8_image_95 (by decide) ?_
      exact ih _ _ _ _ _ _ hm hw hS (lv_sub hl [1, 0] rfl) ke
abbrev rmX8_image : Room := { frames := 1, cells := 0, slots := 0, locals := 40 }
set_option maxHeartbeats 4000000 in
set_option maxRecDepth 100000 in
theorem kX8_image {l : Launch} {G : xG} {β : Nat} {D : Nat → Prop} {x x' : XS} {r : Int32} (hm : fX8_image x = some (r, x')) : Met l yX8_image (.code yX8_image cX8_image 2 (some .int) :: GT) rmX8_image (PcW [.ref β] (CW β D G x) (KK G)) (QcW D (some (.int r)) (CW β D G x')) 0 0 D := by
  unfold fX8_image at hm
  refine xpro (own := RX8) (by decide +kernel) rfl (Nat.le_of_ble_eq_true rfl) ?_
  intro p e s m args below meth c C hw ls hl
  have hx := C.1
  have hb := C.2.1
  have ho := C.2.2.2.1
  have hts := C.2.2.2.2.1
  have hf : Fz D G s.heap := hw.2.2.2.2
  have hS : va_S D s.heap s.heap [] := va_S.rf
  have hl : lv_has ls 2 [(0, .ref β)] := hl
  have hRf : 1 ≤ rmX8_image.frames := Nat.le_refl _
  have hRl : 40 ≤ rmX8_image.locals := Nat.le_refl _
  have hcs : 0 ≤ rmX8_image.cells ∧ 0 ≤ rmX8_image.slots := ⟨Nat.le_refl _, Nat.le_refl _⟩
  refine lv_aload_n hx hb dX8_image_0 rfl (lv_at hl 0 rfl) ?_
  refine gX8_72 C hw dX8_image_1 ?_
  refine lv_iconst (v := 1) hx hb dX8_image_4 (by decide) ?_
  refine pX8_306 (b := true) C hw hS dX8_image_5 (fun H locs hw hS => ?_)
  obtain ⟨x1, ev, hm⟩ := lt_e hm
  rw [← ev] at hw
  clear ev
  refine lv_aload_n hx hb dX8_image_8 rfl (lv_at hl 0 rfl) ?_
  refine gX8_72 C hw dX8_image_9 ?_
  refine lv_aload_n hx hb dX8_image_12 rfl (lv_at hl 0 rfl) ?_
  refine gX8_15 C hw dX8_image_13 ?_
  refine pX8_310 C hw hS dX8_image_16 (fun H locs hw hS => ?_)
  obtain ⟨x2, ev, hm⟩ := lt_e hm
  rw [← ev] at hw
  clear ev
  refine lv_aload_n hx hb dX8_image_19 rfl (lv_at hl 0 rfl) ?_
  refine gX8_72 C hw dX8_image_20 ?_
  refine lv_aload_n hx hb dX8_image_23 rfl (lv_at hl 0 rfl) ?_
  refine gX8_32 C hw dX8_image_24 ?_
  refine pX8_311 C hw hS dX8_image_27 (fun H locs hw hS => ?_)
  obtain ⟨x3, ev, hm⟩ := lt_e hm
  rw [← ev] at hw
  clear ev
  refine lv_aload_n hx hb dX8_image_30 rfl (lv_at hl 0 rfl) ?_
  refine gX8_72 C hw dX8_image_31 ?_
  refine lv_aload_n hx hb dX8_image_34 rfl (lv_at hl 0 rfl) ?_
  refine gX8_60 C hw dX8_image_35 ?_
  refine pX8_312 C hw hS dX8_image_38 (fun H locs hw hS => ?_)
  obtain ⟨x4, ev, hm⟩ := lt_e hm
  rw [← ev] at hw
  clear ev
  refine lv_aload_n hx hb dX8_image_41 rfl (lv_at hl 0 rfl) ?_
  refine gX8_72 C hw dX8_image_42 ?_
  refine lv_aload_n hx hb dX8_image_45 rfl (lv_at hl 0 rfl) ?_
  refine gX8_23 C hw dX8_image_46 ?_
  refine pX8_313 C hw hS dX8_image_49 (fun H locs hw hS => ?_)
  obtain ⟨x5, ev, hm⟩ := lt_e hm
  rw [← ev] at hw
  clear ev
  refine lv_aload_n hx hb dX8_image_52 rfl (lv_at hl 0 rfl) ?_
  refine gX8_19 C hw dX8_image_53 ?_
  refine lv_iconst (v := 0) hx hb dX8_image_56 (by decide) ?_
  refine lv_aload_n hx hb dX8_image_57 rfl (lv_at hl 0 rfl) ?_
  refine gX8_72 C hw dX8_image_58 ?_
  refine gX8_314 C hw dX8_image_61 ?_
  refine lv_iconst (v := 0) hx hb dX8_image_64 (by decide) ?_
  refine lv_iconst (v := 4) hx hb dX8_image_65 (by decide) ?_
  obtain ⟨x6, h7, hm⟩ := bind_e hm
  refine cpX8_315_212 C h7 hw hS hl.1 (Nat.le_trans (Nat.le_of_ble_eq_true rfl) hRf) (Nat.le_trans (Nat.le_of_ble_eq_true rfl) hRl) dX8_image_66 (fun H locs hw hS => ?_)
  refine lv_iconst (v := 0) hx hb dX8_image_69 (by decide) ?_
  refine lv_istore_n (lv' := [(1, .int 0), (0, .ref β)]) hx hb dX8_image_70 rfl hl (by decide) rfl (fun ls hl => ?_)
  obtain ⟨x13, hj, hm⟩ := bind_e hm
  refine lX8_image_71 C hRf hRl hcs hf NF _ _ _ _ _ _ hj hw hS (lv_sub hl [1, 0] rfl) (fun x13_ e0 H locs ls hw hS hl => ?_)
  cases e0
  refine lv_aload_n hx hb dX8_image_98 rfl (lv_at hl 0 rfl) ?_
  refine gX8_32 C hw dX8_image_99 ?_
  obtain ⟨rfl, rfl⟩ := inj2 hm
  exact xret_i C hw hS dX8_image_102
theorem dX8_back_0 : decode cX8_back 0 = .ok (.aload_n 0, 1) := by decide +kernel
theorem dX8_back_1 : decode cX8_back 1 = .ok (.getfield 72, 3) := by decide +kernel
theorem dX8_back_4 : decode cX8_back 4 = .ok (.getfield 306, 3) := by decide +kernel
theorem dX8_back_7 : decode cX8_back 7 = .ok (.ifCond .ne 6, 3) := by decide +kernel
theorem dX8_back_10 : decode cX8_back 10 = .ok (.bipush (-3), 2) := by decide +kernel
theorem dX8_back_12 : decode cX8_back 12 = .ok (.ireturn, 1) := by decide +kernel
theorem dX8_back_13 : decode cX8_back 13 = .ok (.aload_n 0, 1) := by decide +kernel
theorem dX8_back_14 : decode cX8_back 14 = .ok (.aload_n 0, 1) := by decide +kernel
theorem dX8_back_15 : decode cX8_back 15 = .ok (.getfield 72, 3) := by decide +kernel
theorem dX8_back_18 : decode cX8_back 18 = .ok (.getfield 311, 3) := by decide +kernel
theorem dX8_back_21 : decode cX8_back 21 = .ok (.putfield 32, 3) := by decide +kernel
theorem dX8_back_24 : decode cX8_back 24 = .ok (.aload_n 0, 1) := by decide +kernel
theorem dX8_back_25 : decode cX8_back 25 = .ok (.aload_n 0, 1) := by decide +kernel
theorem dX8_back_26 : decode cX8_back 26 = .ok (.getfield 72, 3) := by decide +kernel
theorem dX8_back_29 : decode cX8_back 29 = .ok (.getfield 312, 3) := by decide +kernel
theorem dX8_back_32 : decode cX8_back 32 = .ok (.putfield 60, 3) := by decide +kernel
theorem dX8_back_35 : decode cX8_back 35 = .ok (.aload_n 0, 1) := by decide +kernel
theorem dX8_back_36 : decode cX8_back 36 = .ok (.aload_n 0, 1) := by decide +kernel
theorem dX8_back_37 : decode cX8_back 37 = .ok (.getfield 72, 3) := by decide +kernel
theorem dX8_back_40 : decode cX8_back 40 = .ok (.getfield 313, 3) := by decide +kernel
theorem dX8_back_43 : decode cX8_back 43 = .ok (.putfield 23, 3) := by decide +kernel
theorem dX8_back_46 : decode cX8_back 46 = .ok (.aload_n 0, 1) := by decide +kernel
theorem dX8_back_47 : decode cX8_back 47 = .ok (.getfield 72, 3) := by decide +kernel
theorem dX8_back_50 : decode cX8_back 50 = .ok (.getfield 314, 3) := by decide +kernel
theorem dX8_back_53 : decode cX8_back 53 = .ok (.iconst 0, 1) := by decide +kernel
theorem dX8_back_54 : decode cX8_back 54 = .ok (.aload_n 0, 1) := by decide +kernel
theorem dX8_back_55 : decode cX8_back 55 = .ok (.getfield 19, 3) := by decide +kernel
theorem dX8_back_58 : decode cX8_back 58 = .ok (.iconst 0, 1) := by decide +kernel
theorem dX8_back_59 : decode cX8_back 59 = .ok (.iconst 4, 1) := by decide +kernel
theorem dX8_back_60 : decode cX8_back 60 = .ok (.invokestatic 315, 3) := by decide +kernel
theorem dX8_back_63 : decode cX8_back 63 = .ok (.iconst 0, 1) := by decide +kernel
theorem dX8_back_64 : decode cX8_back 64 = .ok (.istore_n 1, 1) := by decide +kernel
theorem dX8_back_65 : decode cX8_back 65 = .ok (.iload_n 1, 1) := by decide +kernel
theorem dX8_back_66 : decode cX8_back 66 = .ok (.aload_n 0, 1) := by decide +kernel
theorem dX8_back_67 : decode cX8_back 67 = .ok (.getfield 72, 3) := by decide +kernel
theorem dX8_back_70 : decode cX8_back 70 = .ok (.getfield 310, 3) := by decide +kernel
theorem dX8_back_73 : decode cX8_back 73 = .ok (.if_icmp .ge 22, 3) := by decide +kernel
theorem dX8_back_76 : decode cX8_back 76 = .ok (.aload_n 0, 1) := by decide +kernel
theorem dX8_back_77 : decode cX8_back 77 = .ok (.getfield 72, 3) := by decide +kernel
theorem dX8_back_80 : decode cX8_back 80 = .ok (.iload_n 1, 1) := by decide +kernel
theorem dX8_back_81 : decode cX8_back 81 = .ok (.aload_n 0, 1) := by decide +kernel
theorem dX8_back_82 : decode cX8_back 82 = .ok (.iload_n 1, 1) := by decide +kernel
theorem dX8_back_83 : decode cX8_back 83 = .ok (.invokevirtual 134, 3) := by decide +kernel
theorem dX8_back_86 : decode cX8_back 86 = .ok (.invokevirtual 325, 3) := by decide +kernel
theorem dX8_back_89 : decode cX8_back 89 = .ok (.iinc 1 1, 3) := by decide +kernel
theorem dX8_back_92 : decode cX8_back 92 = .ok (.goto (-27), 3) := by decide +kernel
theorem dX8_back_95 : decode cX8_back 95 = .ok (.aload_n 0, 1) := by decide +kernel
theorem dX8_back_96 : decode cX8_back 96 = .ok (.getfield 32, 3) := by decide +kernel
theorem dX8_back_99 : decode cX8_back 99 = .ok (.ireturn, 1) := by decide +kernel
theorem gX8_306 {p : Program} {l : Launch} {e : Env} {R : Room} {s : State} {m : MethodId} {args : Array Value} {below : List Frame} {meth : Method} {c : Code} {H : Heap} {locs : List Loc} {cells slots : Nat} {Q : State → Prop} {cc : ByteArray} {pc nL : Nat} {ls : Array Slot} {rest : List Value} {ret : Option FieldType} {G : xG} {β : Nat} {D : Nat → Prop} {x : XS} (C : Cx p s m args meth c RX8 cc nL ret (KK G)) (hw : CW β D G x H) (hd : decode cc pc = .ok (.getfield 306, 3)) (kk : W p l e R s m args below meth c H locs cells slots Q (F0 m (pc + 3) ls (.int (x.1 11 0) :: rest))) : W p l e R s m args below meth c H locs cells slots Q (F0 m pc ls (.ref (β + 11) :: rest)) :=
  va_getN C.1 C.2.1 C.2.2.2.2.1 iwX2 C.2.2.2.1 C.K.1 (xP1 (hw.2.2.1 11 (by decide))) 0 rfl rfl 0 (by decide) (va_Nw.use (w := .fieldLinkNest RX8 306 RX2 "isKept" "Z" "AtThePost") rfl (C.K.2.1 (RX8, 306, RX2, "isKept", "Z") (List.mem_of_getElem? (i := 4) rfl))) (fun _ h9 => h9) rfl hd kk
theorem gX8_311 {p : Program} {l : Launch} {e : Env} {R : Room} {s : State} {m : MethodId} {args : Array Value} {below : List Frame} {meth : Method} {c : Code} {H : Heap} {locs : List Loc} {cells slots : Nat} {Q : State → Prop} {cc : ByteArray} {pc nL : Nat} {ls : Array Slot} {rest : List Value} {ret : Option FieldType} {G : xG} {β : Nat} {D : Nat → Prop} {x : XS} (C : Cx p s m args meth c RX8 cc nL ret (KK G)) (hw : CW β D G x H) (hd : decode cc pc = .ok (.getfield 311, 3)) (kk : W p l e R s m args below meth c H locs cells slots Q (F0 m (pc + 3) ls (.int (x.1 11 2) :: rest))) : W p l e R s m args below meth c H locs cells slots Q (F0 m pc ls (.ref (β + 11) :: rest)) :=
  va_getN C.1 C.2.1 C.2.2.2.2.1 iwX2 C.2.2.2.1 C.K.1 (xP1 (hw.2.2.1 11 (by decide))) 0 rfl rfl 2 (by decide) (va_Nw.use (w := .fieldLinkNest RX8 311 RX2 "raceCount" "I" "AtThePost") rfl (C.K.2.1 (RX8, 311, RX2, "raceCount", "I") (List.mem_of_getElem? (i := 6) rfl))) (fun _ h9 => h9) rfl hd kk
theorem pX8_32 {p : Program} {l : Launch} {e : Env} {R : Room} {s : State} {m : MethodId} {args : Array Value} {below : List Frame} {meth : Method} {c : Code} {H : Heap} {locs : List Loc} {cells slots : Nat} {Q : State → Prop} {cc : ByteArray} {pc nL : Nat} {ls : Array Slot} {rest : List Value} {ret : Option FieldType} {G : xG} {β : Nat} {D : Nat → Prop} {x : XS} {v : Int32} (C : Cx p s m args meth c RX8 cc nL ret (KK G)) (hw : CW β D G x H) (hS : va_S D s.heap H locs) (hd : decode cc pc = .ok (.putfield 32, 3)) (kk : ∀ (H1 : Heap) (locs1 : List Loc), CW β D G (xsS x 0 5 v) H1 → va_S D s.heap H1 locs1 → W p l e R s m args below meth c H1 locs1 cells slots Q (F0 m (pc + 3) ls (rest))) : W p l e R s m args below meth c H locs cells slots Q (F0 m pc ls (.int v :: .ref β :: rest)) :=
  x_put C.1 C.2.1 C.2.2.2.2.1 iwX8 tyX8 tyX8_ok nmX8 C.2.2.2.1 C.K.1 hS (hw.2.2.1 0 (by decide)) (hw.2.1 0 (by decide)) rfl 5 (by decide) (C.2.2.2.2.1 (.fieldLink RX8 32 RX8 "raceCount" "I") (tg 352 (by decide +kernel) rfl)) (fun _ h9 => h9) rfl (ty := .int) (by decide +kernel) rfl rfl (Nat.le_of_ble_eq_true rfl) hd (fun H1 locs1 hat ho hS => kk H1 locs1 (hw.setS 0 5 v hat ho) hS)
theorem gX8_312 {p : Program} {l : Launch} {e : Env} {R : Room} {s : State} {m : MethodId} {args : Array Value} {below : List Frame} {meth : Method} {c : Code} {H : Heap} {locs : List Loc} {cells slots : Nat} {Q : State → Prop} {cc : ByteArray} {pc nL : Nat} {ls : Array Slot} {rest : List Value} {ret : Option FieldType} {G : xG} {β : Nat} {D : Nat → Prop} {x : XS} (C : Cx p s m args meth c RX8 cc nL ret (KK G)) (hw : CW β D G x H) (hd : decode cc pc = .ok (.getfield 312, 3)) (kk : W p l e R s m args below meth c H locs cells slots Q (F0 m (pc + 3) ls (.int (x.1 11 3) :: rest))) : W p l e R s m args below meth c H locs cells slots Q (F0 m pc ls (.ref (β + 11) :: rest)) :=
  va_getN C.1 C.2.1 C.2.2.2.2.1 iwX2 C.2.2.2.1 C.K.1 (xP1 (hw.2.2.1 11 (by decide))) 0 rfl rfl 3 (by decide) (va_Nw.use (w := .fieldLinkNest RX8 312 RX2 "rule" "I" "AtThePost") rfl (C.K.2.1 (RX8, 312, RX2, "rule", "I") (List.mem_of_getElem? (i := 7) rfl))) (fun _ h9 => h9) rfl hd kk
theorem gX8_313 {p : Program} {l : Launch} {e : Env} {R : Room} {s : State} {m : MethodId} {args : Array Value} {below : List Frame} {meth : Method} {c : Code} {H : Heap} {locs : List Loc} {cells slots : Nat} {Q : State → Prop} {cc : ByteArray} {pc nL : Nat} {ls : Array Slot} {rest : List Value} {ret : Option FieldType} {G : xG} {β : Nat} {D : Nat → Prop} {x : XS} (C : Cx p s m args meth c RX8 cc nL ret (KK G)) (hw : CW β D G x H) (hd : decode cc pc = .ok (.getfield 313, 3)) (kk : W p l e R s m args below meth c H locs cells slots Q (F0 m (pc + 3) ls (.int (x.1 11 4) :: rest))) : W p l e R s m args below meth c H locs cells slots Q (F0 m pc ls (.ref (β + 11) :: rest)) :=
  va_getN C.1 C.2.1 C.2.2.2.2.1 iwX2 C.2.2.2.1 C.K.1 (xP1 (hw.2.2.1 11 (by decide))) 0 rfl rfl 4 (by decide) (va_Nw.use (w := .fieldLinkNest RX8 313 RX2 "spread" "I" "AtThePost") rfl (C.K.2.1 (RX8, 313, RX2, "spread", "I") (List.mem_of_getElem? (i := 8) rfl))) (fun _ h9 => h9) rfl hd kk
theorem cpX8_315_122 {p : Program} {l : Launch} {e : Env} {R : Room} {s : State} {m : MethodId} {args : Array Value} {below : List Frame} {meth : Method} {c : Code} {H : Heap} {locs : List Loc} {cells slots : Nat} {Q : State → Prop} {cc : ByteArray} {pc nL : Nat} {ls : Array Slot} {rest : List Value} {ret : Option FieldType}  {G : xG} {β : Nat} {D : Nat → Prop} {x x' : XS} {sp dp n : Int32} (C : Cx p s m args meth c RX8 cc nL ret (KK G)) (h : cpF x 12 4 2 4 sp dp n = some x') (hw : CW β D G x H) (hS : va_S D s.heap H locs) (hsz : ls.size = nL) (hR : 1 ≤ R.frames) (hR2 : (rest.map fun v => v.category).sum + (nativeFrameWords "java/lang/System" "arraycopy" 5 + 11) ≤ R.locals) (hd : decode cc pc = .ok (.invokestatic 315, 3)) (kk : ∀ (H1 : Heap) (locs1 : List Loc), CW β D G x' H1 → va_S D s.heap H1 locs1 → W p l e R s m args below meth c H1 locs1 cells slots Q (F0 m (pc + 3) ls (rest))) : W p l e R s m args below meth c H locs cells slots Q (F0 m pc ls (.int n :: .int dp :: .ref (β + 2) :: .int sp :: .ref (β + 12) :: rest)) := by
  obtain ⟨h1, h2, h3, h4, h5, rfl⟩ := cpF_e h
  exact x_copyi C.1 C.2.1 (C.2.2.1.trans hsz.symm) C.2.2.2.1 (C.2.2.2.2.1 (.methodLink RX8 315 arraycopyName) (tg 826 (by decide +kernel) rfl)) (C.2.2.2.2.1 (.native arraycopyName) (tg 323 (by decide +kernel) rfl)) (C.2.2.2.2.1 (.static arraycopyName) (tg 322 (by decide +kernel) rfl)) (C.2.2.2.2.1 (.initialized "java/lang/System") (tg 13 (by decide +kernel) rfl)) C.K.1 hS 0 0 (hw.2.2.1 12 (by decide)) (hw.2.2.1 2 (by decide)) (hw.2.1 2 (by decide)) rfl rfl rfl h1 h2 h3 h4 h5 (fun _ _ => rfl) hR hR2 hd (fun H1 locs1 hat ho hS => kk H1 locs1 (hw.setF 2 _ hat ho) hS)
theorem gX8_310 {p : Program} {l : Launch} {e : Env} {R : Room} {s : State} {m : MethodId} {args : Array Value} {below : List Frame} {meth : Method} {c : Code} {H : Heap} {locs : List Loc} {cells slots : Nat} {Q : State → Prop} {cc : ByteArray} {pc nL : Nat} {ls : Array Slot} {rest : List Value} {ret : Option FieldType} {G : xG} {β : Nat} {D : Nat → Prop} {x : XS} (C : Cx p s m args meth c RX8 cc nL ret (KK G)) (hw : CW β D G x H) (hd : decode cc pc = .ok (.getfield 310, 3)) (kk : W p l e R s m args below meth c H locs cells slots Q (F0 m (pc + 3) ls (.int (x.1 11 1) :: rest))) : W p l e R s m args below meth c H locs cells slots Q (F0 m pc ls (.ref (β + 11) :: rest)) :=
  va_getN C.1 C.2.1 C.2.2.2.2.1 iwX2 C.2.2.2.1 C.K.1 (xP1 (hw.2.2.1 11 (by decide))) 0 rfl rfl 1 (by decide) (va_Nw.use (w := .fieldLinkNest RX8 310 RX2 "horseCount" "I" "AtThePost") rfl (C.K.2.1 (RX8, 310, RX2, "horseCount", "I") (List.mem_of_getElem? (i := 5) rfl))) (fun _ h9 => h9) rfl hd kk
theorem sX8_325 {p : Program} {l : Launch} {e : Env} {R : Room} {s : State} {m : MethodId} {args : Array Value} {below : List Frame} {meth : Method} {c : Code} {H : Heap} {locs : List Loc} {cells slots : Nat} {Q : State → Prop} {cc : ByteArray} {pc nL : Nat} {ls : Array Slot} {rest : List Value} {ret : Option FieldType}  {G : xG} {β : Nat} {D : Nat → Prop} {x x' : XS} {a1 : Int32} {a2 : Option Nat} (C : Cx p s m args meth c RX8 cc nL ret (KK G)) (h : fX2_giveBack x a1 a2 = some x') (hw : CW β D G x H) (hS : va_S D s.heap H locs) (hsz : ls.size = nL) (hW : (rest.map fun v => v.category).sum ≤ 8) (hR : 1 ≤ R.frames) (hR2 : 22 ≤ R.locals) (hcs : cells ≤ R.cells ∧ slots ≤ R.slots) (hd : decode cc pc = .ok (.invokevirtual 325, 3)) (kk : ∀ (H1 : Heap) (locs1 : List Loc), CW β D G x' H1 → va_S D s.heap H1 locs1 → W p l e R s m args below meth c H1 locs1 cells slots Q (F0 m (pc + 3) ls (rest))) : W p l e R s m args below meth c H locs cells slots Q (F0 m pc ls (va_rf a2 :: .int a1 :: .ref (β + 11) :: rest)) := by
  exact xcallV C (As := [.int a1, va_rf a2]) (rest := rest) (nA := 2) (ci := 2) (kX2_giveBack h) (tg 835 (by decide +kernel) rfl) (tg 836 (by decide +kernel) rfl) (tg 837 (by decide +kernel) rfl) (tg 4 (by decide +kernel) rfl) (tg 838 (by decide +kernel) rfl) ⟨rfl, by decide +kernel, by decide +kernel, by decide +kernel⟩ rfl rfl rfl ⟨hR, hR2⟩ (hw.2.2.1 11 (by decide)) hw hS (fun _ q => q) rfl rfl hsz hW hd hcs (fun H1 locs1 hw hz hk hS => kk H1 locs1 hw hS)
def BX8_back_65 (lp : Int32 → XS → Option (XS)) (u1 : Int32) (x : XS) : Option (XS) := if (x.1 11 1) ≤ u1 then some x else Option.bind (fX8_horseAt x u1) fun v6 => Option.bind (fX2_giveBack x u1 v6) fun x8 => lt (u1 + 1) fun v10 => lp v10 x8
def LX8_back_65 : Nat → Int32 → XS → Option (XS)
  | 0, _, _ => none
  | n + 1, u1, x => BX8_back_65 (LX8_back_65 n) u1 x
def fX8_back (x : XS) : Option (Int32 × XS) := if (x.1 11 0) = 0 then some ((-3), x) else lt (xsS x 0 5 (x.1 11 2)) fun x1 => lt (xsS x1 0 10 (x1.1 11 3)) fun x2 => lt (xsS x2 0 3 (x2.1 11 4)) fun x3 => Option.bind (cpF x3 12 4 2 4 0 0 4) fun x4 => Option.bind (LX8_back_65 NF 0 x4) fun x11 => some (x11.1 0 5, x11)
set_option maxHeartbeats 4000000 in
set_option maxRecDepth 100000 in
theorem lX8_back_65 {p : Program} {l : Launch} {e : Env} {R : Room} {s : State} {m : MethodId} {args : Array Value} {below : List Frame} {meth : Method} {c : Code} {cells slots : Nat} {Q : State → Prop} {G : xG} {β : Nat} {D : Nat → Prop} (C : Cx p s m args meth c RX8 cX8_back 2 (some .int) (KK G)) (hRf : 1 ≤ R.frames) (hRl : 40 ≤ R.locals) (hcs : cells ≤ R.cells ∧ slots ≤ R.slots) (hf : Fz D G s.heap) : ∀ (n : Nat) (u1 : Int32) (x : XS) (J : XS) (H : Heap) (locs : List Loc) (ls : Array Slot), LX8_back_65 n u1 x = some J → CW β D G x H → va_S D s.heap H locs → lv_has ls 2 [(0, .ref β), (1, .int u1)] → (∀ (x1 : XS), J = x1 → ∀ (H : Heap) (locs : List Loc) (ls : Array Slot), CW β D G x1 H → va_S D s.heap H locs → lv_has ls 2 [(0, .ref β)] → W p l e R s m args below meth c H locs cells slots Q (F0 m 95 ls [])) → W p l e R s m args below meth c H locs cells slots Q (F0 m 65 ls []) := by
  have hx := C.1
  have hb := C.2.1
  have ho := C.2.2.2.1
  have hts := C.2.2.2.2.1
  intro n
  induction n with
  | zero =>
    intro u1 x J H locs ls hm
    exact absurd hm (by simp [LX8_back_65])
  | succ n ih =>
    intro u1 x J H locs ls hm hw hS hl ke
    replace hm : BX8_back_65 (LX8_back_65 n) u1 x = some J := hm
    unfold BX8_back_65 at hm
    refine lv_iload_n hx hb dX8_back_65 rfl (lv_at hl 1 rfl) ?_
    refine lv_aload_n hx hb dX8_back_66 rfl (lv_at hl 0 rfl) ?_
    refine gX8_72 C hw dX8_back_67 ?_
    refine gX8_310 C hw dX8_back_70 ?_
    refine lv_icmp_ge (tgt := 95) hx hb dX8_back_73 (by decide) (fun cc => ?_) (fun cc => ?_)
    · replace hm := ite_p cc hm
      exact ke _ (Option.some.inj hm).symm _ _ _ hw hS (lv_sub hl [0] rfl)
    · replace hm := ite_n cc hm
      refine lv_aload_n hx hb dX8_back_76 rfl (lv_at hl 0 rfl) ?_
      refine gX8_72 C hw dX8_back_77 ?_
      refine lv_iload_n hx hb dX8_back_80 rfl (lv_at hl 1 rfl) ?_
      refine lv_aload_n hx hb dX8_back_81 rfl (lv_at hl 0 rfl) ?_
      refine lv_iload_n hx hb dX8_back_82 rfl (lv_at hl 1 rfl) ?_
      obtain ⟨v6, h7, hm⟩ := bind_e hm
      refine sX8_134 C h7 hw hS hl.1 (Nat.le_of_ble_eq_true rfl) (Nat.le_trans (Nat.le_of_ble_eq_true rfl) hRf) (Nat.le_trans (Nat.le_of_ble_eq_true rfl) hRl) hcs dX8_back_83 (fun H locs hw hS => ?_)
      obtain ⟨x8, h9, hm⟩ := bind_e hm
      refine sX8_325 (a1 := u1) (a2 := v6) C h9 hw hS hl.1 (Nat.le_of_ble_eq_true rfl) (Nat.le_trans (Nat.le_of_ble_eq_true rfl) hRf) (Nat.le_trans (Nat.le_of_ble_eq_true rfl) hRl) hcs dX8_back_86 (fun H locs hw hS => ?_)
      obtain ⟨v10, ev, hm⟩ := lt_e hm
      refine lv_iinc (v := v10) (lv' := [(1, .int v10), (0, .ref β)]) hx hb dX8_back_89 hl (k := 1) rfl (by rw [ev]; rfl) (by decide) rfl (fun ls hl => ?_)
      clear ev
      refine lv_goto (tgt := 65) hx hb dX8_back_92 (by decide) ?_
      exact ih _ _ _ _ _ _ hm hw hS (lv_sub hl [1, 0] rfl) ke
abbrev rmX8_back : Room := { frames := 1, cells := 0, slots := 0, locals := 40 }
set_option maxHeartbeats 4000000 in
set_option maxRecDepth 100000 in
theorem kX8_back {l : Launch} {G : xG} {β : Nat} {D : Nat → Prop} {x x' : XS} {r : Int32} (hm : fX8_back x = some (r, x')) : Met l yX8_back (.code yX8_back cX8_back 2 (some .int) :: GT) rmX8_back (PcW [.ref β] (CW β D G x) (KK G)) (QcW D (some (.int r)) (CW β D G x')) 0 0 D := by
  unfold fX8_back at hm
  refine xpro (own := RX8) (by decide +kernel) rfl (Nat.le_of_ble_eq_true rfl) ?_
  intro p e s m args below meth c C hw ls hl
  have hx := C.1
  have hb := C.2.1
  have ho := C.2.2.2.1
  have hts := C.2.2.2.2.1
  have hf : Fz D G s.heap := hw.2.2.2.2
  have hS : va_S D s.heap s.heap [] := va_S.rf
  have hl : lv_has ls 2 [(0, .ref β)] := hl
  have hRf : 1 ≤ rmX8_back.frames := Nat.le_refl _
  have hRl : 40 ≤ rmX8_back.locals := Nat.le_refl _
  have hcs : 0 ≤ rmX8_back.cells ∧ 0 ≤ rmX8_back.slots := ⟨Nat.le_refl _, Nat.le_refl _⟩
  refine lv_aload_n hx hb dX8_back_0 rfl (lv_at hl 0 rfl) ?_
  refine gX8_72 C hw dX8_back_1 ?_
  refine gX8_306 C hw dX8_back_4 ?_
  refine lv_if_ne (tgt := 13) hx hb dX8_back_7 (by decide) (fun cc => ?_) (fun cc => ?_)
  · replace hm := ite_n cc hm
    refine lv_aload_n hx hb dX8_back_13 rfl (lv_at hl 0 rfl) ?_
    refine lv_aload_n hx hb dX8_back_14 rfl (lv_at hl 0 rfl) ?_
    refine gX8_72 C hw dX8_back_15 ?_
    refine gX8_311 C hw dX8_back_18 ?_
    refine pX8_32 C hw hS dX8_back_21 (fun H locs hw hS => ?_)
    obtain ⟨x1, ev, hm⟩ := lt_e hm
    rw [← ev] at hw
    clear ev
    refine lv_aload_n hx hb dX8_back_24 rfl (lv_at hl 0 rfl) ?_
    refine lv_aload_n hx hb dX8_back_25 rfl (lv_at hl 0 rfl) ?_
    refine gX8_72 C hw dX8_back_26 ?_
    refine gX8_312 C hw dX8_back_29 ?_
    refine pX8_60 C hw hS dX8_back_32 (fun H locs hw hS => ?_)
    obtain ⟨x2, ev, hm⟩ := lt_e hm
    rw [← ev] at hw
    clear ev
    refine lv_aload_n hx hb dX8_back_35 rfl (lv_at hl 0 rfl) ?_
    refine lv_aload_n hx hb dX8_back_36 rfl (lv_at hl 0 rfl) ?_
    refine gX8_72 C hw dX8_back_37 ?_
    refine gX8_313 C hw dX8_back_40 ?_
    refine pX8_23 C hw hS dX8_back_43 (fun H locs hw hS => ?_)
    obtain ⟨x3, ev, hm⟩ := lt_e hm
    rw [← ev] at hw
    clear ev
    refine lv_aload_n hx hb dX8_back_46 rfl (lv_at hl 0 rfl) ?_
    refine gX8_72 C hw dX8_back_47 ?_
    refine gX8_314 C hw dX8_back_50 ?_
    refine lv_iconst (v := 0) hx hb dX8_back_53 (by decide) ?_
    refine lv_aload_n hx hb dX8_back_54 rfl (lv_at hl 0 rfl) ?_
    refine gX8_19 C hw dX8_back_55 ?_
    refine lv_iconst (v := 0) hx hb dX8_back_58 (by decide) ?_
    refine lv_iconst (v := 4) hx hb dX8_back_59 (by decide) ?_
    obtain ⟨x4, h5, hm⟩ := bind_e hm
    refine cpX8_315_122 C h5 hw hS hl.1 (Nat.le_trans (Nat.le_of_ble_eq_true rfl) hRf) (Nat.le_trans (Nat.le_of_ble_eq_true rfl) hRl) dX8_back_60 (fun H locs hw hS => ?_)
    refine lv_iconst (v := 0) hx hb dX8_back_63 (by decide) ?_
    refine lv_istore_n (lv' := [(1, .int 0), (0, .ref β)]) hx hb dX8_back_64 rfl hl (by decide) rfl (fun ls hl => ?_)
    obtain ⟨x11, hj, hm⟩ := bind_e hm
    refine lX8_back_65 C hRf hRl hcs hf NF _ _ _ _ _ _ hj hw hS (lv_sub hl [1, 0] rfl) (fun x11_ e0 H locs ls hw hS hl => ?_)
    cases e0
    refine lv_aload_n hx hb dX8_back_95 rfl (lv_at hl 0 rfl) ?_
    refine gX8_32 C hw dX8_back_96 ?_
    obtain ⟨rfl, rfl⟩ := inj2 hm
    exact xret_i C hw hS dX8_back_99
  · replace hm := ite_p cc hm
    refine lv_bipush (v := (-3)) hx hb dX8_back_10 (by decide) ?_
    obtain ⟨rfl, rfl⟩ := inj2 hm
    exact xret_i C hw hS dX8_back_12
theorem dX8_sumOfLeads_0 : decode cX8_sumOfLeads 0 = .ok (.iconst 0, 1) := by decide +kernel
theorem dX8_sumOfLeads_1 : decode cX8_sumOfLeads 1 = .ok (.istore_n 1, 1) := by decide +kernel
theorem dX8_sumOfLeads_2 : decode cX8_sumOfLeads 2 = .ok (.iconst 0, 1) := by decide +kernel
theorem dX8_sumOfLeads_3 : decode cX8_sumOfLeads 3 = .ok (.istore_n 2, 1) := by decide +kernel
theorem dX8_sumOfLeads_4 : decode cX8_sumOfLeads 4 = .ok (.iload_n 2, 1) := by decide +kernel
theorem dX8_sumOfLeads_5 : decode cX8_sumOfLeads 5 = .ok (.aload_n 0, 1) := by decide +kernel
theorem dX8_sumOfLeads_6 : decode cX8_sumOfLeads 6 = .ok (.getfield 15, 3) := by decide +kernel
theorem dX8_sumOfLeads_9 : decode cX8_sumOfLeads 9 = .ok (.if_icmp .ge 17, 3) := by decide +kernel
theorem dX8_sumOfLeads_12 : decode cX8_sumOfLeads 12 = .ok (.iload_n 1, 1) := by decide +kernel
theorem dX8_sumOfLeads_13 : decode cX8_sumOfLeads 13 = .ok (.aload_n 0, 1) := by decide +kernel
theorem dX8_sumOfLeads_14 : decode cX8_sumOfLeads 14 = .ok (.iload_n 2, 1) := by decide +kernel
theorem dX8_sumOfLeads_15 : decode cX8_sumOfLeads 15 = .ok (.invokevirtual 258, 3) := by decide +kernel
theorem dX8_sumOfLeads_18 : decode cX8_sumOfLeads 18 = .ok (.iadd, 1) := by decide +kernel
theorem dX8_sumOfLeads_19 : decode cX8_sumOfLeads 19 = .ok (.istore_n 1, 1) := by decide +kernel
theorem dX8_sumOfLeads_20 : decode cX8_sumOfLeads 20 = .ok (.iinc 2 1, 3) := by decide +kernel
theorem dX8_sumOfLeads_23 : decode cX8_sumOfLeads 23 = .ok (.goto (-19), 3) := by decide +kernel
theorem dX8_sumOfLeads_26 : decode cX8_sumOfLeads 26 = .ok (.iload_n 1, 1) := by decide +kernel
theorem dX8_sumOfLeads_27 : decode cX8_sumOfLeads 27 = .ok (.ireturn, 1) := by decide +kernel
def BX8_sumOfLeads_4 (x : XS) (lp : Int32 → Int32 → Option (Int32)) (u1 : Int32) (u2 : Int32) : Option (Int32) := if (x.1 0 1) ≤ u2 then some u1 else Option.bind (fX8_leadOf x u2) fun v1 => lt (u1 + v1) fun v3 => lt (u2 + 1) fun v4 => lp v3 v4
def LX8_sumOfLeads_4 (x : XS) : Nat → Int32 → Int32 → Option (Int32)
  | 0, _, _ => none
  | n + 1, u1, u2 => BX8_sumOfLeads_4 x (LX8_sumOfLeads_4 x n) u1 u2
def fX8_sumOfLeads (x : XS) : Option (Int32) := Option.bind (LX8_sumOfLeads_4 x NF 0 0) fun v5 => some v5
set_option maxHeartbeats 4000000 in
set_option maxRecDepth 100000 in
theorem lX8_sumOfLeads_4 {p : Program} {l : Launch} {e : Env} {R : Room} {s : State} {m : MethodId} {args : Array Value} {below : List Frame} {meth : Method} {c : Code} {cells slots : Nat} {Q : State → Prop} {G : xG} {β : Nat} {D : Nat → Prop} (C : Cx p s m args meth c RX8 cX8_sumOfLeads 3 (some .int) (KK G)) (hRf : 2 ≤ R.frames) (hRl : 43 ≤ R.locals) (hcs : cells ≤ R.cells ∧ slots ≤ R.slots) (hf : Fz D G s.heap) (x : XS) : ∀ (n : Nat) (u1 : Int32) (u2 : Int32) (J : Int32) (H : Heap) (locs : List Loc) (ls : Array Slot), LX8_sumOfLeads_4 x n u1 u2 = some J → CW β D G x H → va_S D s.heap H locs → lv_has ls 3 [(0, .ref β), (1, .int u1), (2, .int u2)] → (∀ (w1 : Int32), J = w1 → ∀ (H : Heap) (locs : List Loc) (ls : Array Slot), CW β D G x H → va_S D s.heap H locs → lv_has ls 3 [(1, .int w1)] → W p l e R s m args below meth c H locs cells slots Q (F0 m 26 ls [])) → W p l e R s m args below meth c H locs cells slots Q (F0 m 4 ls []) := by
  have hx := C.1
  have hb := C.2.1
  have ho := C.2.2.2.1
  have hts := C.2.2.2.2.1
  intro n
  induction n with
  | zero =>
    intro u1 u2 J H locs ls hm
    exact absurd hm (by simp [LX8_sumOfLeads_4])
  | succ n ih =>
    intro u1 u2 J H locs ls hm hw hS hl ke
    replace hm : BX8_sumOfLeads_4 x (LX8_sumOfLeads_4 x n) u1 u2 = some J := hm
    unfold BX8_sumOfLeads_4 at hm
    refine lv_iload_n hx hb dX8_sumOfLeads_4 rfl (lv_at hl 2 rfl) ?_
    refine lv_aload_n hx hb dX8_sumOfLeads_5 rfl (lv_at hl 0 rfl) ?_
    refine gX8_15 C hw dX8_sumOfLeads_6 ?_
    refine lv_icmp_ge (tgt := 26) hx hb dX8_sumOfLeads_9 (by decide) (fun cc => ?_) (fun cc => ?_)
    · replace hm := ite_p cc hm
      exact ke _ (Option.some.inj hm).symm _ _ _ hw hS (lv_sub hl [1] rfl)
    · replace hm := ite_n cc hm
      refine lv_iload_n hx hb dX8_sumOfLeads_12 rfl (lv_at hl 1 rfl) ?_
      refine lv_aload_n hx hb dX8_sumOfLeads_13 rfl (lv_at hl 0 rfl) ?_
      refine lv_iload_n hx hb dX8_sumOfLeads_14 rfl (lv_at hl 2 rfl) ?_
      obtain ⟨v1, h2, hm⟩ := bind_e hm
      refine sX8_258 C h2 hw hS hl.1 (Nat.le_of_ble_eq_true rfl) (Nat.le_trans (Nat.le_of_ble_eq_true rfl) hRf) (Nat.le_trans (Nat.le_of_ble_eq_true rfl) hRl) hcs dX8_sumOfLeads_15 (fun H locs hw hS => ?_)
      refine lv_iadd hx hb dX8_sumOfLeads_18 ?_
      refine topI hm (fun v3 hm => ?_)
      refine lv_istore_n (lv' := [(1, .int v3), (0, .ref β), (2, .int u2)]) hx hb dX8_sumOfLeads_19 rfl hl (by decide) rfl (fun ls hl => ?_)
      obtain ⟨v4, ev, hm⟩ := lt_e hm
      refine lv_iinc (v := v4) (lv' := [(2, .int v4), (1, .int v3), (0, .ref β)]) hx hb dX8_sumOfLeads_20 hl (k := 2) rfl (by rw [ev]; rfl) (by decide) rfl (fun ls hl => ?_)
      clear ev
      refine lv_goto (tgt := 4) hx hb dX8_sumOfLeads_23 (by decide) ?_
      exact ih _ _ _ _ _ _ hm hw hS (lv_sub hl [2, 1, 0] rfl) ke
abbrev rmX8_sumOfLeads : Room := { frames := 2, cells := 0, slots := 0, locals := 43 }
set_option maxHeartbeats 4000000 in
set_option maxRecDepth 100000 in
theorem kX8_sumOfLeads {l : Launch} {G : xG} {β : Nat} {D : Nat → Prop} {x : XS} {r : Int32} (hm : fX8_sumOfLeads x = some r) : Met l yX8_sumOfLeads (.code yX8_sumOfLeads cX8_sumOfLeads 3 (some .int) :: GT) rmX8_sumOfLeads (PcW [.ref β] (CW β D G x) (KK G)) (QcW D (some (.int r)) (CW β D G x)) 0 0 D := by
  unfold fX8_sumOfLeads at hm
  refine xpro (own := RX8) (by decide +kernel) rfl (Nat.le_of_ble_eq_true rfl) ?_
  intro p e s m args below meth c C hw ls hl
  have hx := C.1
  have hb := C.2.1
  have ho := C.2.2.2.1
  have hts := C.2.2.2.2.1
  have hf : Fz D G s.heap := hw.2.2.2.2
  have hS : va_S D s.heap s.heap [] := va_S.rf
  have hl : lv_has ls 3 [(0, .ref β)] := hl
  have hRf : 2 ≤ rmX8_sumOfLeads.frames := Nat.le_refl _
  have hRl : 43 ≤ rmX8_sumOfLeads.locals := Nat.le_refl _
  have hcs : 0 ≤ rmX8_sumOfLeads.cells ∧ 0 ≤ rmX8_sumOfLeads.slots := ⟨Nat.le_refl _, Nat.le_refl _⟩
  refine lv_iconst (v := 0) hx hb dX8_sumOfLeads_0 (by decide) ?_
  refine lv_istore_n (lv' := [(1, .int 0), (0, .ref β)]) hx hb dX8_sumOfLeads_1 rfl hl (by decide) rfl (fun ls hl => ?_)
  refine lv_iconst (v := 0) hx hb dX8_sumOfLeads_2 (by decide) ?_
  refine lv_istore_n (lv' := [(2, .int 0), (1, .int 0), (0, .ref β)]) hx hb dX8_sumOfLeads_3 rfl hl (by decide) rfl (fun ls hl => ?_)
  obtain ⟨v5, hj, hm⟩ := bind_e hm
  refine lX8_sumOfLeads_4 C hRf hRl hcs hf x NF _ _ _ _ _ _ hj hw hS (lv_sub hl [2, 1, 0] rfl) (fun v5_ e0 H locs ls hw hS hl => ?_)
  cases e0
  refine lv_iload_n hx hb dX8_sumOfLeads_26 rfl (lv_at hl 0 rfl) ?_
  obtain rfl := Option.some.inj hm
  exact xret_i C hw hS dX8_sumOfLeads_27
theorem dX8_count_0 : decode cX8_count 0 = .ok (.iload_n 1, 1) := by decide +kernel
theorem dX8_count_1 : decode cX8_count 1 = .ok (.tableswitch 81 0 6 #[43, 48, 53, 58, 66, 71, 76], 43) := by decide +kernel
theorem dX8_count_44 : decode cX8_count 44 = .ok (.aload_n 0, 1) := by decide +kernel
theorem dX8_count_45 : decode cX8_count 45 = .ok (.getfield 15, 3) := by decide +kernel
theorem dX8_count_48 : decode cX8_count 48 = .ok (.ireturn, 1) := by decide +kernel
theorem dX8_count_49 : decode cX8_count 49 = .ok (.aload_n 0, 1) := by decide +kernel
theorem dX8_count_50 : decode cX8_count 50 = .ok (.getfield 32, 3) := by decide +kernel
theorem dX8_count_53 : decode cX8_count 53 = .ok (.ireturn, 1) := by decide +kernel
theorem dX8_count_54 : decode cX8_count 54 = .ok (.aload_n 0, 1) := by decide +kernel
theorem dX8_count_55 : decode cX8_count 55 = .ok (.getfield 57, 3) := by decide +kernel
theorem dX8_count_58 : decode cX8_count 58 = .ok (.ireturn, 1) := by decide +kernel
theorem dX8_count_59 : decode cX8_count 59 = .ok (.aload_n 0, 1) := by decide +kernel
theorem dX8_count_60 : decode cX8_count 60 = .ok (.getfield 38, 3) := by decide +kernel
theorem dX8_count_63 : decode cX8_count 63 = .ok (.getfield 233, 3) := by decide +kernel
theorem dX8_count_66 : decode cX8_count 66 = .ok (.ireturn, 1) := by decide +kernel
theorem dX8_count_67 : decode cX8_count 67 = .ok (.aload_n 0, 1) := by decide +kernel
theorem dX8_count_68 : decode cX8_count 68 = .ok (.getfield 60, 3) := by decide +kernel
theorem dX8_count_71 : decode cX8_count 71 = .ok (.ireturn, 1) := by decide +kernel
theorem dX8_count_72 : decode cX8_count 72 = .ok (.aload_n 0, 1) := by decide +kernel
theorem dX8_count_73 : decode cX8_count 73 = .ok (.getfield 23, 3) := by decide +kernel
theorem dX8_count_76 : decode cX8_count 76 = .ok (.ireturn, 1) := by decide +kernel
theorem dX8_count_77 : decode cX8_count 77 = .ok (.aload_n 0, 1) := by decide +kernel
theorem dX8_count_78 : decode cX8_count 78 = .ok (.invokevirtual 328, 3) := by decide +kernel
theorem dX8_count_81 : decode cX8_count 81 = .ok (.ireturn, 1) := by decide +kernel
theorem dX8_count_82 : decode cX8_count 82 = .ok (.bipush (-2), 2) := by decide +kernel
theorem dX8_count_84 : decode cX8_count 84 = .ok (.ireturn, 1) := by decide +kernel
theorem sX8_328 {p : Program} {l : Launch} {e : Env} {R : Room} {s : State} {m : MethodId} {args : Array Value} {below : List Frame} {meth : Method} {c : Code} {H : Heap} {locs : List Loc} {cells slots : Nat} {Q : State → Prop} {cc : ByteArray} {pc nL : Nat} {ls : Array Slot} {rest : List Value} {ret : Option FieldType}  {G : xG} {β : Nat} {D : Nat → Prop} {x : XS} {r : Int32} (C : Cx p s m args meth c RX8 cc nL ret (KK G)) (h : fX8_sumOfLeads x = some r) (hw : CW β D G x H) (hS : va_S D s.heap H locs) (hsz : ls.size = nL) (hW : (rest.map fun v => v.category).sum ≤ 8) (hR : 3 ≤ R.frames) (hR2 : 65 ≤ R.locals) (hcs : cells ≤ R.cells ∧ slots ≤ R.slots) (hd : decode cc pc = .ok (.invokevirtual 328, 3)) (kk : ∀ (H1 : Heap) (locs1 : List Loc), CW β D G x H1 → va_S D s.heap H1 locs1 → W p l e R s m args below meth c H1 locs1 cells slots Q (F0 m (pc + 3) ls (.int r :: rest))) : W p l e R s m args below meth c H locs cells slots Q (F0 m pc ls (.ref β :: rest)) := by
  exact xcallV C (As := []) (rest := rest) (nA := 0) (ci := 8) (kX8_sumOfLeads h) (tg 843 (by decide +kernel) rfl) (tg 845 (by decide +kernel) rfl) (sg (List.mem_of_getElem? (i := 53) (by decide +kernel)) rfl) (tg 1 (by decide +kernel) rfl) (tg 846 (by decide +kernel) rfl) ⟨rfl, by decide +kernel, by decide +kernel, by decide +kernel⟩ rfl rfl rfl ⟨hR, hR2⟩ (hw.2.2.1 0 (by decide)) hw hS (fun _ q => q) rfl rfl hsz hW hd hcs (fun H1 locs1 hw hz hk hS => kk H1 locs1 hw hS)
def fX8_count (x : XS) (a1 : Int32) : Option (Int32) := if a1 = 0 then some (x.1 0 1) else if a1 = 1 then some (x.1 0 5) else if a1 = 2 then some (x.1 0 9) else if a1 = 3 then some (x.1 4 1) else if a1 = 4 then some (x.1 0 10) else if a1 = 5 then some (x.1 0 3) else if a1 = 6 then Option.bind (fX8_sumOfLeads x) fun v1 => some v1 else some (-2)
abbrev rmX8_count : Room := { frames := 3, cells := 0, slots := 0, locals := 65 }
set_option maxHeartbeats 4000000 in
set_option maxRecDepth 100000 in
theorem kX8_count {l : Launch} {G : xG} {β : Nat} {D : Nat → Prop} {x : XS} {a1 : Int32} {r : Int32} (hm : fX8_count x a1 = some r) : Met l yX8_count (.code yX8_count cX8_count 2 (some .int) :: GT) rmX8_count (PcW [.ref β, .int a1] (CW β D G x) (KK G)) (QcW D (some (.int r)) (CW β D G x)) 0 0 D := by
  unfold fX8_count at hm
  refine xpro (own := RX8) (by decide +kernel) rfl (Nat.le_of_ble_eq_true rfl) ?_
  intro p e s m args below meth c C hw ls hl
  have hx := C.1
  have hb := C.2.1
  have ho := C.2.2.2.1
  have hts := C.2.2.2.2.1
  have hf : Fz D G s.heap := hw.2.2.2.2
  have hS : va_S D s.heap s.heap [] := va_S.rf
  have hl : lv_has ls 2 [(0, .ref β), (1, .int a1)] := hl
  have hRf : 3 ≤ rmX8_count.frames := Nat.le_refl _
  have hRl : 65 ≤ rmX8_count.locals := Nat.le_refl _
  have hcs : 0 ≤ rmX8_count.cells ∧ 0 ≤ rmX8_count.slots := ⟨Nat.le_refl _, Nat.le_refl _⟩
  refine lv_iload_n hx hb dX8_count_0 rfl (lv_at hl 1 rfl) ?_
  by_cases k0 : a1 = 0
  · replace hm := ite_p k0 hm
    refine lv_tableIn (tgt := 44) (off := 43) hx hb dX8_count_1 (by rw [k0]; decide) (by rw [k0]; decide) (by rw [k0]; rfl) (by decide) ?_
    refine lv_aload_n hx hb dX8_count_44 rfl (lv_at hl 0 rfl) ?_
    refine gX8_15 C hw dX8_count_45 ?_
    obtain rfl := Option.some.inj hm
    exact xret_i C hw hS dX8_count_48
  replace hm := ite_n k0 hm
  by_cases k1 : a1 = 1
  · replace hm := ite_p k1 hm
    refine lv_tableIn (tgt := 49) (off := 48) hx hb dX8_count_1 (by rw [k1]; decide) (by rw [k1]; decide) (by rw [k1]; rfl) (by decide) ?_
    refine lv_aload_n hx hb dX8_count_49 rfl (lv_at hl 0 rfl) ?_
    refine gX8_32 C hw dX8_count_50 ?_
    obtain rfl := Option.some.inj hm
    exact xret_i C hw hS dX8_count_53
  replace hm := ite_n k1 hm
  by_cases k2 : a1 = 2
  · replace hm := ite_p k2 hm
    refine lv_tableIn (tgt := 54) (off := 53) hx hb dX8_count_1 (by rw [k2]; decide) (by rw [k2]; decide) (by rw [k2]; rfl) (by decide) ?_
    refine lv_aload_n hx hb dX8_count_54 rfl (lv_at hl 0 rfl) ?_
    refine gX8_57 C hw dX8_count_55 ?_
    obtain rfl := Option.some.inj hm
    exact xret_i C hw hS dX8_count_58
  replace hm := ite_n k2 hm
  by_cases k3 : a1 = 3
  · replace hm := ite_p k3 hm
    refine lv_tableIn (tgt := 59) (off := 58) hx hb dX8_count_1 (by rw [k3]; decide) (by rw [k3]; decide) (by rw [k3]; rfl) (by decide) ?_
    refine lv_aload_n hx hb dX8_count_59 rfl (lv_at hl 0 rfl) ?_
    refine gX8_38 C hw dX8_count_60 ?_
    refine gX8_233 C hw dX8_count_63 ?_
    obtain rfl := Option.some.inj hm
    exact xret_i C hw hS dX8_count_66
  replace hm := ite_n k3 hm
  by_cases k4 : a1 = 4
  · replace hm := ite_p k4 hm
    refine lv_tableIn (tgt := 67) (off := 66) hx hb dX8_count_1 (by rw [k4]; decide) (by rw [k4]; decide) (by rw [k4]; rfl) (by decide) ?_
    refine lv_aload_n hx hb dX8_count_67 rfl (lv_at hl 0 rfl) ?_
    refine gX8_60 C hw dX8_count_68 ?_
    obtain rfl := Option.some.inj hm
    exact xret_i C hw hS dX8_count_71
  replace hm := ite_n k4 hm
  by_cases k5 : a1 = 5
  · replace hm := ite_p k5 hm
    refine lv_tableIn (tgt := 72) (off := 71) hx hb dX8_count_1 (by rw [k5]; decide) (by rw [k5]; decide) (by rw [k5]; rfl) (by decide) ?_
    refine lv_aload_n hx hb dX8_count_72 rfl (lv_at hl 0 rfl) ?_
    refine gX8_23 C hw dX8_count_73 ?_
    obtain rfl := Option.some.inj hm
    exact xret_i C hw hS dX8_count_76
  replace hm := ite_n k5 hm
  by_cases k6 : a1 = 6
  · replace hm := ite_p k6 hm
    refine lv_tableIn (tgt := 77) (off := 76) hx hb dX8_count_1 (by rw [k6]; decide) (by rw [k6]; decide) (by rw [k6]; rfl) (by decide) ?_
    refine lv_aload_n hx hb dX8_count_77 rfl (lv_at hl 0 rfl) ?_
    obtain ⟨v1, h2, hm⟩ := bind_e hm
    refine sX8_328 C h2 hw hS hl.1 (Nat.le_of_ble_eq_true rfl) (Nat.le_trans (Nat.le_of_ble_eq_true rfl) hRf) (Nat.le_trans (Nat.le_of_ble_eq_true rfl) hRl) hcs dX8_count_78 (fun H locs hw hS => ?_)
    obtain rfl := Option.some.inj hm
    exact xret_i C hw hS dX8_count_81
  replace hm := ite_n k6 hm
  have k0i := lv_neT k0 (a := 0) (by decide)
  have k1i := lv_neT k1 (a := 1) (by decide)
  have k2i := lv_neT k2 (a := 2) (by decide)
  have k3i := lv_neT k3 (a := 3) (by decide)
  have k4i := lv_neT k4 (a := 4) (by decide)
  have k5i := lv_neT k5 (a := 5) (by decide)
  have k6i := lv_neT k6 (a := 6) (by decide)
  refine lv_tableOut (tgt := 82) hx hb dX8_count_1 (by omega) (by decide) ?_
  refine lv_bipush (v := (-2)) hx hb dX8_count_82 (by decide) ?_
  obtain rfl := Option.some.inj hm
  exact xret_i C hw hS dX8_count_84
theorem dX8_isSheet_0 : decode cX8_isSheet 0 = .ok (.iload_n 0, 1) := by decide +kernel
theorem dX8_isSheet_1 : decode cX8_isSheet 1 = .ok (.iconst 0, 1) := by decide +kernel
theorem dX8_isSheet_2 : decode cX8_isSheet 2 = .ok (.iconst 3, 1) := by decide +kernel
theorem dX8_isSheet_3 : decode cX8_isSheet 3 = .ok (.invokestatic 138, 3) := by decide +kernel
theorem dX8_isSheet_6 : decode cX8_isSheet 6 = .ok (.ireturn, 1) := by decide +kernel
def fX8_isSheet (a1 : Int32) : Option (Bool) := Option.bind (fX8_isWithin a1 0 3) fun v1 => some v1
abbrev rmX8_isSheet : Room := { frames := 1, cells := 0, slots := 0, locals := 22 }
set_option maxHeartbeats 4000000 in
set_option maxRecDepth 100000 in
theorem kX8_isSheet {l : Launch} {G : xG} {β : Nat} {D : Nat → Prop} {x : XS} {a1 : Int32} {r : Bool} (hm : fX8_isSheet a1 = some r) : Met l yX8_isSheet (.code yX8_isSheet cX8_isSheet 1 (some .boolean) :: GT) rmX8_isSheet (PcW [.int a1] (CW β D G x) (KK G)) (QcW D (some (.int (bI r))) (CW β D G x)) 0 0 D := by
  unfold fX8_isSheet at hm
  refine xpro (own := RX8) (by decide +kernel) rfl (Nat.le_of_ble_eq_true rfl) ?_
  intro p e s m args below meth c C hw ls hl
  have hx := C.1
  have hb := C.2.1
  have ho := C.2.2.2.1
  have hts := C.2.2.2.2.1
  have hf : Fz D G s.heap := hw.2.2.2.2
  have hS : va_S D s.heap s.heap [] := va_S.rf
  have hl : lv_has ls 1 [(0, .int a1)] := hl
  have hRf : 1 ≤ rmX8_isSheet.frames := Nat.le_refl _
  have hRl : 22 ≤ rmX8_isSheet.locals := Nat.le_refl _
  have hcs : 0 ≤ rmX8_isSheet.cells ∧ 0 ≤ rmX8_isSheet.slots := ⟨Nat.le_refl _, Nat.le_refl _⟩
  refine lv_iload_n hx hb dX8_isSheet_0 rfl (lv_at hl 0 rfl) ?_
  refine lv_iconst (v := 0) hx hb dX8_isSheet_1 (by decide) ?_
  refine lv_iconst (v := 3) hx hb dX8_isSheet_2 (by decide) ?_
  obtain ⟨v1, h2, hm⟩ := bind_e hm
  refine sX8_138 C h2 hw hS hl.1 (Nat.le_of_ble_eq_true rfl) (Nat.le_trans (Nat.le_of_ble_eq_true rfl) hRf) (Nat.le_trans (Nat.le_of_ble_eq_true rfl) hRl) hcs dX8_isSheet_3 (fun H locs hw hS => ?_)
  obtain rfl := Option.some.inj hm
  exact xret_z C (bI_nar _) hw hS dX8_isSheet_6
theorem dX8_cell_0 : decode cX8_cell 0 = .ok (.iload_n 1, 1) := by decide +kernel
theorem dX8_cell_1 : decode cX8_cell 1 = .ok (.invokestatic 331, 3) := by decide +kernel
theorem dX8_cell_4 : decode cX8_cell 4 = .ok (.ifCond .ne 6, 3) := by decide +kernel
theorem dX8_cell_7 : decode cX8_cell 7 = .ok (.bipush (-2), 2) := by decide +kernel
theorem dX8_cell_9 : decode cX8_cell 9 = .ok (.ireturn, 1) := by decide +kernel
theorem dX8_cell_10 : decode cX8_cell 10 = .ok (.aload_n 0, 1) := by decide +kernel
theorem dX8_cell_11 : decode cX8_cell 11 = .ok (.getfield 65, 3) := by decide +kernel
theorem dX8_cell_14 : decode cX8_cell 14 = .ok (.iload_n 1, 1) := by decide +kernel
theorem dX8_cell_15 : decode cX8_cell 15 = .ok (.aaload, 1) := by decide +kernel
theorem dX8_cell_16 : decode cX8_cell 16 = .ok (.astore 4, 2) := by decide +kernel
theorem dX8_cell_18 : decode cX8_cell 18 = .ok (.aload 4, 2) := by decide +kernel
theorem dX8_cell_20 : decode cX8_cell 20 = .ok (.ifnonnull 6, 3) := by decide +kernel
theorem dX8_cell_23 : decode cX8_cell 23 = .ok (.bipush (-11), 2) := by decide +kernel
theorem dX8_cell_25 : decode cX8_cell 25 = .ok (.ireturn, 1) := by decide +kernel
theorem dX8_cell_26 : decode cX8_cell 26 = .ok (.iload_n 2, 1) := by decide +kernel
theorem dX8_cell_27 : decode cX8_cell 27 = .ok (.iconst 0, 1) := by decide +kernel
theorem dX8_cell_28 : decode cX8_cell 28 = .ok (.aload 4, 2) := by decide +kernel
theorem dX8_cell_30 : decode cX8_cell 30 = .ok (.getfield 336, 3) := by decide +kernel
theorem dX8_cell_33 : decode cX8_cell 33 = .ok (.arraylength, 1) := by decide +kernel
theorem dX8_cell_34 : decode cX8_cell 34 = .ok (.iconst 1, 1) := by decide +kernel
theorem dX8_cell_35 : decode cX8_cell 35 = .ok (.isub, 1) := by decide +kernel
theorem dX8_cell_36 : decode cX8_cell 36 = .ok (.invokestatic 138, 3) := by decide +kernel
theorem dX8_cell_39 : decode cX8_cell 39 = .ok (.ifCond .ne 6, 3) := by decide +kernel
theorem dX8_cell_42 : decode cX8_cell 42 = .ok (.bipush (-12), 2) := by decide +kernel
theorem dX8_cell_44 : decode cX8_cell 44 = .ok (.ireturn, 1) := by decide +kernel
theorem dX8_cell_45 : decode cX8_cell 45 = .ok (.aload 4, 2) := by decide +kernel
theorem dX8_cell_47 : decode cX8_cell 47 = .ok (.getfield 336, 3) := by decide +kernel
theorem dX8_cell_50 : decode cX8_cell 50 = .ok (.iload_n 2, 1) := by decide +kernel
theorem dX8_cell_51 : decode cX8_cell 51 = .ok (.aload 4, 2) := by decide +kernel
theorem dX8_cell_53 : decode cX8_cell 53 = .ok (.iload_n 3, 1) := by decide +kernel
theorem dX8_cell_54 : decode cX8_cell 54 = .ok (.invokevirtual 339, 3) := by decide +kernel
theorem dX8_cell_57 : decode cX8_cell 57 = .ok (.iastore, 1) := by decide +kernel
theorem dX8_cell_58 : decode cX8_cell 58 = .ok (.iconst 1, 1) := by decide +kernel
theorem dX8_cell_59 : decode cX8_cell 59 = .ok (.ireturn, 1) := by decide +kernel
theorem sX8_331 {p : Program} {l : Launch} {e : Env} {R : Room} {s : State} {m : MethodId} {args : Array Value} {below : List Frame} {meth : Method} {c : Code} {H : Heap} {locs : List Loc} {cells slots : Nat} {Q : State → Prop} {cc : ByteArray} {pc nL : Nat} {ls : Array Slot} {rest : List Value} {ret : Option FieldType}  {G : xG} {β : Nat} {D : Nat → Prop} {x : XS} {a1 : Int32} {r : Bool} (C : Cx p s m args meth c RX8 cc nL ret (KK G)) (h : fX8_isSheet a1 = some r) (hw : CW β D G x H) (hS : va_S D s.heap H locs) (hsz : ls.size = nL) (hW : (rest.map fun v => v.category).sum ≤ 8) (hR : 2 ≤ R.frames) (hR2 : 42 ≤ R.locals) (hcs : cells ≤ R.cells ∧ slots ≤ R.slots) (hd : decode cc pc = .ok (.invokestatic 331, 3)) (kk : ∀ (H1 : Heap) (locs1 : List Loc), CW β D G x H1 → va_S D s.heap H1 locs1 → W p l e R s m args below meth c H1 locs1 cells slots Q (F0 m (pc + 3) ls (.int (bI r) :: rest))) : W p l e R s m args below meth c H locs cells slots Q (F0 m pc ls (.int a1 :: rest)) := by
  exact xcallS C (As := [.int a1]) (rest := rest) (nA := 1) (kX8_isSheet h) (tg 851 (by decide +kernel) rfl) (tg 852 (by decide +kernel) rfl) (tg 1 (by decide +kernel) rfl) (tg 853 (by decide +kernel) rfl) ⟨by decide +kernel, by decide +kernel, by decide +kernel⟩ rfl rfl ⟨hR, hR2⟩ hw hS (fun _ q => q) rfl rfl hsz hW hd hcs (fun H1 locs1 hw hz hk hS => kk H1 locs1 hw hS)
theorem gX8_65 {p : Program} {l : Launch} {e : Env} {R : Room} {s : State} {m : MethodId} {args : Array Value} {below : List Frame} {meth : Method} {c : Code} {H : Heap} {locs : List Loc} {cells slots : Nat} {Q : State → Prop} {cc : ByteArray} {pc nL : Nat} {ls : Array Slot} {rest : List Value} {ret : Option FieldType} {G : xG} {β : Nat} {D : Nat → Prop} {x : XS} (C : Cx p s m args meth c RX8 cc nL ret (KK G)) (hw : CW β D G x H) (hd : decode cc pc = .ok (.getfield 65, 3)) (kk : W p l e R s m args below meth c H locs cells slots Q (F0 m (pc + 3) ls (.ref (β + 10) :: rest))) : W p l e R s m args below meth c H locs cells slots Q (F0 m pc ls (.ref β :: rest)) :=
  va_get C.1 C.2.1 C.2.2.2.2.1 iwX8 C.2.2.2.1 C.K.1 (xP1 (hw.2.2.1 0 (by decide))) 0 rfl rfl 11 (by decide) (C.2.2.2.2.1 (.fieldLink RX8 65 RX8 "sheets" "[LAtThePost$Sheet;") (tg 358 (by decide +kernel) rfl)) (fun _ h9 => h9) rfl hd kk
theorem alX_10 {p : Program} {l : Launch} {e : Env} {R : Room} {s : State} {m : MethodId} {args : Array Value} {below : List Frame} {meth : Method} {c : Code} {H : Heap} {locs : List Loc} {cells slots : Nat} {Q : State → Prop} {cc : ByteArray} {pc nL : Nat} {ls : Array Slot} {rest : List Value} {ret : Option FieldType} {G : xG} {β : Nat} {D : Nat → Prop} {x : XS} {own : String} {i : Int32} (C : Cx p s m args meth c own cc nL ret (KK G)) (hw : CW β D G x H) (hin : ib i 4) (hd : decode cc pc = .ok (.aaload, 1)) (kk : W p l e R s m args below meth c H locs cells slots Q (F0 m (pc + 1) ls (va_rf (x.2.2.1 10 i.toNatClampNeg) :: rest))) : W p l e R s m args below meth c H locs cells slots Q (F0 m pc ls (.int i :: .ref (β + 10) :: rest)) :=
  va_aldq (C := "AtThePost$Sheet") C.1 C.2.1 C.K.1 (xP1 (hw.2.2.1 10 (by decide))) 0 6 rfl rfl hin hd kk
theorem gdX8_336 {p : Program} {l : Launch} {e : Env} {R : Room} {s : State} {m : MethodId} {args : Array Value} {below : List Frame} {meth : Method} {c : Code} {H : Heap} {locs : List Loc} {cells slots : Nat} {Q : State → Prop} {cc : ByteArray} {pc nL : Nat} {ls : Array Slot} {rest : List Value} {ret : Option FieldType}  {G : xG} {β : Nat} {D : Nat → Prop} {x : XS} {a : Nat} {v : Nat} (C : Cx p s m args meth c RX8 cc nL ret (KK G)) (h : dP x a 5 1 = some v) (hw : CW β D G x H) (hd : decode cc pc = .ok (.getfield 336, 3)) (kk : W p l e R s m args below meth c H locs cells slots Q (F0 m (pc + 3) ls (.ref v :: rest))) : W p l e R s m args below meth c H locs cells slots Q (F0 m pc ls (.ref a :: rest)) := by
  obtain ⟨fs, h1, h2⟩ := dP_e h
  exact va_getN (ci := 5) (fs := fs) C.1 C.2.1 C.2.2.2.2.1 iwX5 C.2.2.2.1 C.K.1 (xP1 (hw.2.2.2.1 a _ h1).2.2.2) 0 rfl rfl 1 (by decide) (va_Nw.use (w := .fieldLinkNest RX8 336 RX5 "items" "[I" "AtThePost") rfl (C.K.2.1 (RX8, 336, RX5, "items", "[I") (List.mem_of_getElem? (i := 28) rfl))) (fun _ h9 => h9) h2 hd kk
theorem sX8_339 {p : Program} {l : Launch} {e : Env} {R : Room} {s : State} {m : MethodId} {args : Array Value} {below : List Frame} {meth : Method} {c : Code} {H : Heap} {locs : List Loc} {cells slots : Nat} {Q : State → Prop} {cc : ByteArray} {pc nL : Nat} {ls : Array Slot} {rest : List Value} {ret : Option FieldType}  {G : xG} {β : Nat} {D : Nat → Prop} {x : XS} {a0 : Nat} {a1 : Int32} {r : Int32} (C : Cx p s m args meth c RX8 cc nL ret (KK G)) (hk : dK x a0 5 = true) (h : fX5_narrowed x a0 a1 = some r) (hw : CW β D G x H) (hS : va_S D s.heap H locs) (hsz : ls.size = nL) (hW : (rest.map fun v => v.category).sum ≤ 8) (hR : 1 ≤ R.frames) (hR2 : 21 ≤ R.locals) (hcs : cells ≤ R.cells ∧ slots ≤ R.slots) (hd : decode cc pc = .ok (.invokevirtual 339, 3)) (kk : ∀ (H1 : Heap) (locs1 : List Loc), CW β D G x H1 → va_S D s.heap H1 locs1 → W p l e R s m args below meth c H1 locs1 cells slots Q (F0 m (pc + 3) ls (.int r :: rest))) : W p l e R s m args below meth c H locs cells slots Q (F0 m pc ls (.int a1 :: .ref a0 :: rest)) := by
  obtain ⟨fs0, hfs0⟩ := dK_e hk
  exact xcallV C (As := [.int a1]) (rest := rest) (nA := 1) (ci := 5) (kX5_narrowed h) (tg 873 (by decide +kernel) rfl) (tg 874 (by decide +kernel) rfl) (tg 875 (by decide +kernel) rfl) (tg 18 (by decide +kernel) rfl) (tg 876 (by decide +kernel) rfl) ⟨rfl, by decide +kernel, by decide +kernel, by decide +kernel⟩ rfl rfl rfl ⟨hR, hR2⟩ ((hw.2.2.2.1 a0 _ hfs0).2.2.2) hw hS (fun _ q => q) rfl rfl hsz hW hd hcs (fun H1 locs1 hw hz hk hS => kk H1 locs1 hw hS)
def fX8_cell (x : XS) (a1 : Int32) (a2 : Int32) (a3 : Int32) : Option (Int32 × XS) := Option.bind (fX8_isSheet a1) fun v1 => if v1 = true then if ib a1 4 then lt (x.2.2.1 10 a1.toNatClampNeg) fun e4 => oc e4 (some ((-11), x)) (fun p5 => Option.bind (dP x p5 5 1) fun v6 => Option.bind (dLen x v6) fun v8 => Option.bind (fX8_isWithin a2 0 (v8 - 1)) fun v10 => if v10 = true then Option.bind (dP x p5 5 1) fun v12 => if dK x p5 5 = true then Option.bind (fX5_narrowed x p5 a3) fun v15 => Option.bind (dAs x v12 a2 v15) fun x17 => some (1, x17) else none else some ((-12), x)) else none else some ((-2), x)
abbrev rmX8_cell : Room := { frames := 2, cells := 0, slots := 0, locals := 42 }
set_option maxHeartbeats 4000000 in
set_option maxRecDepth 100000 in
theorem kX8_cell {l : Launch} {G : xG} {β : Nat} {D : Nat → Prop} {x x' : XS} {a1 : Int32} {a2 : Int32} {a3 : Int32} {r : Int32} (hm : fX8_cell x a1 a2 a3 = some (r, x')) : Met l yX8_cell (.code yX8_cell cX8_cell 5 (some .int) :: GT) rmX8_cell (PcW [.ref β, .int a1, .int a2, .int a3] (CW β D G x) (KK G)) (QcW D (some (.int r)) (CW β D G x')) 0 0 D := by
  unfold fX8_cell at hm
  refine xpro (own := RX8) (by decide +kernel) rfl (Nat.le_of_ble_eq_true rfl) ?_
  intro p e s m args below meth c C hw ls hl
  have hx := C.1
  have hb := C.2.1
  have ho := C.2.2.2.1
  have hts := C.2.2.2.2.1
  have hf : Fz D G s.heap := hw.2.2.2.2
  have hS : va_S D s.heap s.heap [] := va_S.rf
  have hl : lv_has ls 5 [(0, .ref β), (1, .int a1), (2, .int a2), (3, .int a3)] := hl
  have hRf : 2 ≤ rmX8_cell.frames := Nat.le_refl _
  have hRl : 42 ≤ rmX8_cell.locals := Nat.le_refl _
  have hcs : 0 ≤ rmX8_cell.cells ∧ 0 ≤ rmX8_cell.slots := ⟨Nat.le_refl _, Nat.le_refl _⟩
  refine lv_iload_n hx hb dX8_cell_0 rfl (lv_at hl 1 rfl) ?_
  obtain ⟨v1, h2, hm⟩ := bind_e hm
  refine sX8_331 C h2 hw hS hl.1 (Nat.le_of_ble_eq_true rfl) (Nat.le_trans (Nat.le_of_ble_eq_true rfl) hRf) (Nat.le_trans (Nat.le_of_ble_eq_true rfl) hRl) hcs dX8_cell_1 (fun H locs hw hS => ?_)
  refine x_ifneB hx hb dX8_cell_4 (tgt := 10) (by decide) (fun cc => ?_) (fun cc => ?_)
  · replace hm := ite_p cc hm
    refine lv_aload_n hx hb dX8_cell_10 rfl (lv_at hl 0 rfl) ?_
    refine gX8_65 C hw dX8_cell_11 ?_
    refine lv_iload_n hx hb dX8_cell_14 rfl (lv_at hl 1 rfl) ?_
    obtain ⟨h3, hm⟩ := chk_e hm
    refine alX_10 C hw h3 dX8_cell_15 ?_
    refine topR hm (fun e4 hm => ?_)
    refine x_astoreq (lv' := [(4, va_rf e4), (0, .ref β), (1, .int a1), (2, .int a2), (3, .int a3)]) hx hb dX8_cell_16 hl (by decide) rfl (fun ls hl => ?_)
    refine x_aloadq hx hb dX8_cell_18 (lv_at hl 0 rfl) ?_
    rcases e4 with _ | p5
    · replace hm := oc_n hm
      refine lv_ifnonnullN hx hb dX8_cell_20 ?_
      refine lv_bipush (v := (-11)) hx hb dX8_cell_23 (by decide) ?_
      obtain ⟨rfl, rfl⟩ := inj2 hm
      exact xret_i C hw hS dX8_cell_25
    · replace hm := oc_s hm
      refine lv_ifnonnull (tgt := 26) hx hb dX8_cell_20 (by decide) ?_
      refine lv_iload_n hx hb dX8_cell_26 rfl (lv_at hl 3 rfl) ?_
      refine lv_iconst (v := 0) hx hb dX8_cell_27 (by decide) ?_
      refine lv_aload hx hb dX8_cell_28 (lv_at hl 0 rfl) ?_
      obtain ⟨v6, h7, hm⟩ := bind_e hm
      refine gdX8_336 C h7 hw dX8_cell_30 ?_
      obtain ⟨v8, h9, hm⟩ := bind_e hm
      refine x_dlen C h9 hw dX8_cell_33 ?_
      refine lv_iconst (v := 1) hx hb dX8_cell_34 (by decide) ?_
      refine lv_isub hx hb dX8_cell_35 ?_
      obtain ⟨v10, h11, hm⟩ := bind_e hm
      refine sX8_138 C h11 hw hS hl.1 (Nat.le_of_ble_eq_true rfl) (Nat.le_trans (Nat.le_of_ble_eq_true rfl) hRf) (Nat.le_trans (Nat.le_of_ble_eq_true rfl) hRl) hcs dX8_cell_36 (fun H locs hw hS => ?_)
      refine x_ifneB hx hb dX8_cell_39 (tgt := 45) (by decide) (fun cc => ?_) (fun cc => ?_)
      · replace hm := ite_p cc hm
        refine lv_aload hx hb dX8_cell_45 (lv_at hl 0 rfl) ?_
        obtain ⟨v12, h13, hm⟩ := bind_e hm
        refine gdX8_336 C h13 hw dX8_cell_47 ?_
        refine lv_iload_n hx hb dX8_cell_50 rfl (lv_at hl 3 rfl) ?_
        refine lv_aload hx hb dX8_cell_51 (lv_at hl 0 rfl) ?_
        refine lv_iload_n hx hb dX8_cell_53 rfl (lv_at hl 4 rfl) ?_
        obtain ⟨h14, hm⟩ := chk_e hm
        obtain ⟨v15, h16, hm⟩ := bind_e hm
        refine sX8_339 C h14 h16 hw hS hl.1 (Nat.le_of_ble_eq_true rfl) (Nat.le_trans (Nat.le_of_ble_eq_true rfl) hRf) (Nat.le_trans (Nat.le_of_ble_eq_true rfl) hRl) hcs dX8_cell_54 (fun H locs hw hS => ?_)
        obtain ⟨x17, h18, hm⟩ := bind_e hm
        refine x_dast C h18 hw hS dX8_cell_57 (fun H locs hw hS => ?_)
        refine lv_iconst (v := 1) hx hb dX8_cell_58 (by decide) ?_
        obtain ⟨rfl, rfl⟩ := inj2 hm
        exact xret_i C hw hS dX8_cell_59
      · replace hm := ite_n cc hm
        refine lv_bipush (v := (-12)) hx hb dX8_cell_42 (by decide) ?_
        obtain ⟨rfl, rfl⟩ := inj2 hm
        exact xret_i C hw hS dX8_cell_44
  · replace hm := ite_n cc hm
    refine lv_bipush (v := (-2)) hx hb dX8_cell_7 (by decide) ?_
    obtain ⟨rfl, rfl⟩ := inj2 hm
    exact xret_i C hw hS dX8_cell_9
theorem dX8_copy_0 : decode cX8_copy 0 = .ok (.iload_n 1, 1) := by decide +kernel
theorem dX8_copy_1 : decode cX8_copy 1 = .ok (.invokestatic 331, 3) := by decide +kernel
theorem dX8_copy_4 : decode cX8_copy 4 = .ok (.ifCond .eq 10, 3) := by decide +kernel
theorem dX8_copy_7 : decode cX8_copy 7 = .ok (.iload_n 3, 1) := by decide +kernel
theorem dX8_copy_8 : decode cX8_copy 8 = .ok (.invokestatic 331, 3) := by decide +kernel
theorem dX8_copy_11 : decode cX8_copy 11 = .ok (.ifCond .ne 6, 3) := by decide +kernel
theorem dX8_copy_14 : decode cX8_copy 14 = .ok (.bipush (-2), 2) := by decide +kernel
theorem dX8_copy_16 : decode cX8_copy 16 = .ok (.ireturn, 1) := by decide +kernel
theorem dX8_copy_17 : decode cX8_copy 17 = .ok (.aload_n 0, 1) := by decide +kernel
theorem dX8_copy_18 : decode cX8_copy 18 = .ok (.getfield 65, 3) := by decide +kernel
theorem dX8_copy_21 : decode cX8_copy 21 = .ok (.iload_n 1, 1) := by decide +kernel
theorem dX8_copy_22 : decode cX8_copy 22 = .ok (.aaload, 1) := by decide +kernel
theorem dX8_copy_23 : decode cX8_copy 23 = .ok (.astore 6, 2) := by decide +kernel
theorem dX8_copy_25 : decode cX8_copy 25 = .ok (.aload_n 0, 1) := by decide +kernel
theorem dX8_copy_26 : decode cX8_copy 26 = .ok (.getfield 65, 3) := by decide +kernel
theorem dX8_copy_29 : decode cX8_copy 29 = .ok (.iload_n 3, 1) := by decide +kernel
theorem dX8_copy_30 : decode cX8_copy 30 = .ok (.aaload, 1) := by decide +kernel
theorem dX8_copy_31 : decode cX8_copy 31 = .ok (.astore 7, 2) := by decide +kernel
theorem dX8_copy_33 : decode cX8_copy 33 = .ok (.aload 6, 2) := by decide +kernel
theorem dX8_copy_35 : decode cX8_copy 35 = .ok (.ifnull 8, 3) := by decide +kernel
theorem dX8_copy_38 : decode cX8_copy 38 = .ok (.aload 7, 2) := by decide +kernel
theorem dX8_copy_40 : decode cX8_copy 40 = .ok (.ifnonnull 6, 3) := by decide +kernel
theorem dX8_copy_43 : decode cX8_copy 43 = .ok (.bipush (-11), 2) := by decide +kernel
theorem dX8_copy_45 : decode cX8_copy 45 = .ok (.ireturn, 1) := by decide +kernel
theorem dX8_copy_46 : decode cX8_copy 46 = .ok (.aload 6, 2) := by decide +kernel
theorem dX8_copy_48 : decode cX8_copy 48 = .ok (.getfield 342, 3) := by decide +kernel
theorem dX8_copy_51 : decode cX8_copy 51 = .ok (.aload 7, 2) := by decide +kernel
theorem dX8_copy_53 : decode cX8_copy 53 = .ok (.getfield 342, 3) := by decide +kernel
theorem dX8_copy_56 : decode cX8_copy 56 = .ok (.if_icmp .eq 6, 3) := by decide +kernel
theorem dX8_copy_59 : decode cX8_copy 59 = .ok (.bipush (-13), 2) := by decide +kernel
theorem dX8_copy_61 : decode cX8_copy 61 = .ok (.ireturn, 1) := by decide +kernel
theorem dX8_copy_62 : decode cX8_copy 62 = .ok (.aload 6, 2) := by decide +kernel
theorem dX8_copy_64 : decode cX8_copy 64 = .ok (.iload_n 2, 1) := by decide +kernel
theorem dX8_copy_65 : decode cX8_copy 65 = .ok (.iload 5, 2) := by decide +kernel
theorem dX8_copy_67 : decode cX8_copy 67 = .ok (.invokevirtual 345, 3) := by decide +kernel
theorem dX8_copy_70 : decode cX8_copy 70 = .ok (.ifCond .eq 15, 3) := by decide +kernel
theorem dX8_copy_73 : decode cX8_copy 73 = .ok (.aload 7, 2) := by decide +kernel
theorem dX8_copy_75 : decode cX8_copy 75 = .ok (.iload 4, 2) := by decide +kernel
theorem dX8_copy_77 : decode cX8_copy 77 = .ok (.iload 5, 2) := by decide +kernel
theorem dX8_copy_79 : decode cX8_copy 79 = .ok (.invokevirtual 345, 3) := by decide +kernel
theorem dX8_copy_82 : decode cX8_copy 82 = .ok (.ifCond .ne 6, 3) := by decide +kernel
theorem dX8_copy_85 : decode cX8_copy 85 = .ok (.bipush (-12), 2) := by decide +kernel
theorem dX8_copy_87 : decode cX8_copy 87 = .ok (.ireturn, 1) := by decide +kernel
theorem dX8_copy_88 : decode cX8_copy 88 = .ok (.aload 6, 2) := by decide +kernel
theorem dX8_copy_90 : decode cX8_copy 90 = .ok (.getfield 336, 3) := by decide +kernel
theorem dX8_copy_93 : decode cX8_copy 93 = .ok (.iload_n 2, 1) := by decide +kernel
theorem dX8_copy_94 : decode cX8_copy 94 = .ok (.aload 7, 2) := by decide +kernel
theorem dX8_copy_96 : decode cX8_copy 96 = .ok (.getfield 336, 3) := by decide +kernel
theorem dX8_copy_99 : decode cX8_copy 99 = .ok (.iload 4, 2) := by decide +kernel
theorem dX8_copy_101 : decode cX8_copy 101 = .ok (.iload 5, 2) := by decide +kernel
theorem dX8_copy_103 : decode cX8_copy 103 = .ok (.invokestatic 315, 3) := by decide +kernel
theorem dX8_copy_106 : decode cX8_copy 106 = .ok (.iload 5, 2) := by decide +kernel
theorem dX8_copy_108 : decode cX8_copy 108 = .ok (.ireturn, 1) := by decide +kernel
theorem gdX8_342 {p : Program} {l : Launch} {e : Env} {R : Room} {s : State} {m : MethodId} {args : Array Value} {below : List Frame} {meth : Method} {c : Code} {H : Heap} {locs : List Loc} {cells slots : Nat} {Q : State → Prop} {cc : ByteArray} {pc nL : Nat} {ls : Array Slot} {rest : List Value} {ret : Option FieldType}  {G : xG} {β : Nat} {D : Nat → Prop} {x : XS} {a : Nat} {v : Int32} (C : Cx p s m args meth c RX8 cc nL ret (KK G)) (h : dI x a 5 0 = some v) (hw : CW β D G x H) (hd : decode cc pc = .ok (.getfield 342, 3)) (kk : W p l e R s m args below meth c H locs cells slots Q (F0 m (pc + 3) ls (.int v :: rest))) : W p l e R s m args below meth c H locs cells slots Q (F0 m pc ls (.ref a :: rest)) := by
  obtain ⟨fs, h1, h2⟩ := dI_e h
  exact va_getN (ci := 5) (fs := fs) C.1 C.2.1 C.2.2.2.2.1 iwX5 C.2.2.2.1 C.K.1 (xP1 (hw.2.2.2.1 a _ h1).2.2.2) 0 rfl rfl 0 (by decide) (va_Nw.use (w := .fieldLinkNest RX8 342 RX5 "sort" "I" "AtThePost") rfl (C.K.2.1 (RX8, 342, RX5, "sort", "I") (List.mem_of_getElem? (i := 27) rfl))) (fun _ h9 => h9) h2 hd kk
theorem sX8_345 {p : Program} {l : Launch} {e : Env} {R : Room} {s : State} {m : MethodId} {args : Array Value} {below : List Frame} {meth : Method} {c : Code} {H : Heap} {locs : List Loc} {cells slots : Nat} {Q : State → Prop} {cc : ByteArray} {pc nL : Nat} {ls : Array Slot} {rest : List Value} {ret : Option FieldType}  {G : xG} {β : Nat} {D : Nat → Prop} {x : XS} {a0 : Nat} {a1 : Int32} {a2 : Int32} {r : Bool} (C : Cx p s m args meth c RX8 cc nL ret (KK G)) (hk : dK x a0 5 = true) (h : fX5_hasStretch x a0 a1 a2 = some r) (hw : CW β D G x H) (hS : va_S D s.heap H locs) (hsz : ls.size = nL) (hW : (rest.map fun v => v.category).sum ≤ 8) (hR : 1 ≤ R.frames) (hR2 : 22 ≤ R.locals) (hcs : cells ≤ R.cells ∧ slots ≤ R.slots) (hd : decode cc pc = .ok (.invokevirtual 345, 3)) (kk : ∀ (H1 : Heap) (locs1 : List Loc), CW β D G x H1 → va_S D s.heap H1 locs1 → W p l e R s m args below meth c H1 locs1 cells slots Q (F0 m (pc + 3) ls (.int (bI r) :: rest))) : W p l e R s m args below meth c H locs cells slots Q (F0 m pc ls (.int a2 :: .int a1 :: .ref a0 :: rest)) := by
  obtain ⟨fs0, hfs0⟩ := dK_e hk
  exact xcallV C (As := [.int a1, .int a2]) (rest := rest) (nA := 2) (ci := 5) (kX5_hasStretch h) (tg 881 (by decide +kernel) rfl) (tg 882 (by decide +kernel) rfl) (tg 883 (by decide +kernel) rfl) (tg 18 (by decide +kernel) rfl) (tg 884 (by decide +kernel) rfl) ⟨rfl, by decide +kernel, by decide +kernel, by decide +kernel⟩ rfl rfl rfl ⟨hR, hR2⟩ ((hw.2.2.2.1 a0 _ hfs0).2.2.2) hw hS (fun _ q => q) rfl rfl hsz hW hd hcs (fun H1 locs1 hw hz hk hS => kk H1 locs1 hw hS)
theorem cpX8_315_DD {p : Program} {l : Launch} {e : Env} {R : Room} {s : State} {m : MethodId} {args : Array Value} {below : List Frame} {meth : Method} {c : Code} {H : Heap} {locs : List Loc} {cells slots : Nat} {Q : State → Prop} {cc : ByteArray} {pc nL : Nat} {ls : Array Slot} {rest : List Value} {ret : Option FieldType}  {G : xG} {β : Nat} {D : Nat → Prop} {x x' : XS} {a b : Nat} {sp dp n : Int32} (C : Cx p s m args meth c RX8 cc nL ret (KK G)) (h : cpDD x a b sp dp n = some x') (hw : CW β D G x H) (hS : va_S D s.heap H locs) (hsz : ls.size = nL) (hR : 1 ≤ R.frames) (hR2 : (rest.map fun v => v.category).sum + (nativeFrameWords "java/lang/System" "arraycopy" 5 + 11) ≤ R.locals) (hd : decode cc pc = .ok (.invokestatic 315, 3)) (kk : ∀ (H1 : Heap) (locs1 : List Loc), CW β D G x' H1 → va_S D s.heap H1 locs1 → W p l e R s m args below meth c H1 locs1 cells slots Q (F0 m (pc + 3) ls (rest))) : W p l e R s m args below meth c H locs cells slots Q (F0 m pc ls (.int n :: .int dp :: .ref b :: .int sp :: .ref a :: rest)) := by
  obtain ⟨n0, f, n1, g, hf, hg, h1, h2, h3, h4, h5, rfl⟩ := cpDD_e h
  exact x_copyi C.1 C.2.1 (C.2.2.1.trans hsz.symm) C.2.2.2.1 (C.2.2.2.2.1 (.methodLink RX8 315 arraycopyName) (tg 826 (by decide +kernel) rfl)) (C.2.2.2.2.1 (.native arraycopyName) (tg 323 (by decide +kernel) rfl)) (C.2.2.2.2.1 (.static arraycopyName) (tg 322 (by decide +kernel) rfl)) (C.2.2.2.2.1 (.initialized "java/lang/System") (tg 13 (by decide +kernel) rfl)) C.K.1 hS 0 0 (hw.2.2.2.1 a _ hf).2.2.2 (hw.2.2.2.1 b _ hg).2.2.2 (hw.2.2.2.1 b _ hg).1 rfl rfl rfl h1 h2 h3 h4 h5 (fun _ _ => rfl) hR hR2 hd (fun H1 locs1 hat ho hS => kk H1 locs1 (hw.setD hg hat ho) hS)
def fX8_copy (x : XS) (a1 : Int32) (a2 : Int32) (a3 : Int32) (a4 : Int32) (a5 : Int32) : Option (Int32 × XS) := Option.bind (fX8_isSheet a1) fun v1 => if v1 = true then Option.bind (fX8_isSheet a3) fun v3 => if v3 = true then if ib a1 4 then lt (x.2.2.1 10 a1.toNatClampNeg) fun e6 => if ib a3 4 then lt (x.2.2.1 10 a3.toNatClampNeg) fun e8 => oc e6 (some ((-11), x)) (fun p9 => oc e8 (some ((-11), x)) (fun p10 => Option.bind (dI x p9 5 0) fun v11 => Option.bind (dI x p10 5 0) fun v13 => if v11 = v13 then if dK x p9 5 = true then Option.bind (fX5_hasStretch x p9 a2 a5) fun v16 => if v16 = true then if dK x p10 5 = true then Option.bind (fX5_hasStretch x p10 a4 a5) fun v19 => if v19 = true then Option.bind (dP x p9 5 1) fun v21 => Option.bind (dP x p10 5 1) fun v23 => Option.bind (cpDD x v21 v23 a2 a4 a5) fun x25 => some (a5, x25) else some ((-12), x) else none else some ((-12), x) else none else some ((-13), x))) else none else none else some ((-2), x) else some ((-2), x)
abbrev rmX8_copy : Room := { frames := 2, cells := 0, slots := 0, locals := 42 }
set_option maxHeartbeats 4000000 in
set_option maxRecDepth 100000 in
theorem kX8_copy {l : Launch} {G : xG} {β : Nat} {D : Nat → Prop} {x x' : XS} {a1 : Int32} {a2 : Int32} {a3 : Int32} {a4 : Int32} {a5 : Int32} {r : Int32} (hm : fX8_copy x a1 a2 a3 a4 a5 = some (r, x')) : Met l yX8_copy (.code yX8_copy cX8_copy 8 (some .int) :: GT) rmX8_copy (PcW [.ref β, .int a1, .int a2, .int a3, .int a4, .int a5] (CW β D G x) (KK G)) (QcW D (some (.int r)) (CW β D G x')) 0 0 D := by
  unfold fX8_copy at hm
  refine xpro (own := RX8) (by decide +kernel) rfl (Nat.le_of_ble_eq_true rfl) ?_
  intro p e s m args below meth c C hw ls hl
  have hx := C.1
  have hb := C.2.1
  have ho := C.2.2.2.1
  have hts := C.2.2.2.2.1
  have hf : Fz D G s.heap := hw.2.2.2.2
  have hS : va_S D s.heap s.heap [] := va_S.rf
  have hl : lv_has ls 8 [(0, .ref β), (1, .int a1), (2, .int a2), (3, .int a3), (4, .int a4), (5, .int a5)] := hl
  have hRf : 2 ≤ rmX8_copy.frames := Nat.le_refl _
  have hRl : 42 ≤ rmX8_copy.locals := Nat.le_refl _
  have hcs : 0 ≤ rmX8_copy.cells ∧ 0 ≤ rmX8_copy.slots := ⟨Nat.le_refl _, Nat.le_refl _⟩
  refine lv_iload_n hx hb dX8_copy_0 rfl (lv_at hl 1 rfl) ?_
  obtain ⟨v1, h2, hm⟩ := bind_e hm
  refine sX8_331 C h2 hw hS hl.1 (Nat.le_of_ble_eq_true rfl) (Nat.le_trans (Nat.le_of_ble_eq_true rfl) hRf) (Nat.le_trans (Nat.le_of_ble_eq_true rfl) hRl) hcs dX8_copy_1 (fun H locs hw hS => ?_)
  refine x_ifeqB hx hb dX8_copy_4 (tgt := 14) (by decide) (fun cc => ?_) (fun cc => ?_)
  · replace hm := ite_n cc hm
    refine lv_bipush (v := (-2)) hx hb dX8_copy_14 (by decide) ?_
    obtain ⟨rfl, rfl⟩ := inj2 hm
    exact xret_i C hw hS dX8_copy_16
  · replace hm := ite_p cc hm
    refine lv_iload_n hx hb dX8_copy_7 rfl (lv_at hl 3 rfl) ?_
    obtain ⟨v3, h4, hm⟩ := bind_e hm
    refine sX8_331 C h4 hw hS hl.1 (Nat.le_of_ble_eq_true rfl) (Nat.le_trans (Nat.le_of_ble_eq_true rfl) hRf) (Nat.le_trans (Nat.le_of_ble_eq_true rfl) hRl) hcs dX8_copy_8 (fun H locs hw hS => ?_)
    refine x_ifneB hx hb dX8_copy_11 (tgt := 17) (by decide) (fun cc => ?_) (fun cc => ?_)
    · replace hm := ite_p cc hm
      refine lv_aload_n hx hb dX8_copy_17 rfl (lv_at hl 0 rfl) ?_
      refine gX8_65 C hw dX8_copy_18 ?_
      refine lv_iload_n hx hb dX8_copy_21 rfl (lv_at hl 1 rfl) ?_
      obtain ⟨h5, hm⟩ := chk_e hm
      refine alX_10 C hw h5 dX8_copy_22 ?_
      refine topR hm (fun e6 hm => ?_)
      refine x_astoreq (lv' := [(6, va_rf e6), (0, .ref β), (1, .int a1), (2, .int a2), (3, .int a3), (4, .int a4), (5, .int a5)]) hx hb dX8_copy_23 hl (by decide) rfl (fun ls hl => ?_)
      refine lv_aload_n hx hb dX8_copy_25 rfl (lv_at hl 1 rfl) ?_
      refine gX8_65 C hw dX8_copy_26 ?_
      refine lv_iload_n hx hb dX8_copy_29 rfl (lv_at hl 4 rfl) ?_
      obtain ⟨h7, hm⟩ := chk_e hm
      refine alX_10 C hw h7 dX8_copy_30 ?_
      refine topR hm (fun e8 hm => ?_)
      refine x_astoreq (lv' := [(7, va_rf e8), (6, va_rf e6), (0, .ref β), (1, .int a1), (2, .int a2), (3, .int a3), (4, .int a4), (5, .int a5)]) hx hb dX8_copy_31 hl (by decide) (by cases e6 <;> rfl) (fun ls hl => ?_)
      refine x_aloadq hx hb dX8_copy_33 (lv_at hl 1 rfl) ?_
      rcases e6 with _ | p9
      · replace hm := oc_n hm
        refine lv_ifnullN (tgt := 43) hx hb dX8_copy_35 (by decide) ?_
        refine lv_bipush (v := (-11)) hx hb dX8_copy_43 (by decide) ?_
        obtain ⟨rfl, rfl⟩ := inj2 hm
        exact xret_i C hw hS dX8_copy_45
      · replace hm := oc_s hm
        refine lv_ifnull hx hb dX8_copy_35 ?_
        refine x_aloadq hx hb dX8_copy_38 (lv_at hl 0 rfl) ?_
        rcases e8 with _ | p10
        · replace hm := oc_n hm
          refine lv_ifnonnullN hx hb dX8_copy_40 ?_
          refine lv_bipush (v := (-11)) hx hb dX8_copy_43 (by decide) ?_
          obtain ⟨rfl, rfl⟩ := inj2 hm
          exact xret_i C hw hS dX8_copy_45
        · replace hm := oc_s hm
          refine lv_ifnonnull (tgt := 46) hx hb dX8_copy_40 (by decide) ?_
          refine lv_aload hx hb dX8_copy_46 (lv_at hl 1 rfl) ?_
          obtain ⟨v11, h12, hm⟩ := bind_e hm
          refine gdX8_342 C h12 hw dX8_copy_48 ?_
          refine lv_aload hx hb dX8_copy_51 (lv_at hl 0 rfl) ?_
          obtain ⟨v13, h14, hm⟩ := bind_e hm
          refine gdX8_342 C h14 hw dX8_copy_53 ?_
          refine lv_icmp_eq (tgt := 62) hx hb dX8_copy_56 (by decide) (fun cc => ?_) (fun cc => ?_)
          · replace hm := ite_p cc hm
            refine lv_aload hx hb dX8_copy_62 (lv_at hl 1 rfl) ?_
            refine lv_iload_n hx hb dX8_copy_64 rfl (lv_at hl 4 rfl) ?_
            refine lv_iload hx hb dX8_copy_65 (lv_at hl 7 rfl) ?_
            obtain ⟨h15, hm⟩ := chk_e hm
            obtain ⟨v16, h17, hm⟩ := bind_e hm
            refine sX8_345 C h15 h17 hw hS hl.1 (Nat.le_of_ble_eq_true rfl) (Nat.le_trans (Nat.le_of_ble_eq_true rfl) hRf) (Nat.le_trans (Nat.le_of_ble_eq_true rfl) hRl) hcs dX8_copy_67 (fun H locs hw hS => ?_)
            refine x_ifeqB hx hb dX8_copy_70 (tgt := 85) (by decide) (fun cc => ?_) (fun cc => ?_)
            · replace hm := ite_n cc hm
              refine lv_bipush (v := (-12)) hx hb dX8_copy_85 (by decide) ?_
              obtain ⟨rfl, rfl⟩ := inj2 hm
              exact xret_i C hw hS dX8_copy_87
            · replace hm := ite_p cc hm
              refine lv_aload hx hb dX8_copy_73 (lv_at hl 0 rfl) ?_
              refine lv_iload hx hb dX8_copy_75 (lv_at hl 6 rfl) ?_
              refine lv_iload hx hb dX8_copy_77 (lv_at hl 7 rfl) ?_
              obtain ⟨h18, hm⟩ := chk_e hm
              obtain ⟨v19, h20, hm⟩ := bind_e hm
              refine sX8_345 C h18 h20 hw hS hl.1 (Nat.le_of_ble_eq_true rfl) (Nat.le_trans (Nat.le_of_ble_eq_true rfl) hRf) (Nat.le_trans (Nat.le_of_ble_eq_true rfl) hRl) hcs dX8_copy_79 (fun H locs hw hS => ?_)
              refine x_ifneB hx hb dX8_copy_82 (tgt := 88) (by decide) (fun cc => ?_) (fun cc => ?_)
              · replace hm := ite_p cc hm
                refine lv_aload hx hb dX8_copy_88 (lv_at hl 1 rfl) ?_
                obtain ⟨v21, h22, hm⟩ := bind_e hm
                refine gdX8_336 C h22 hw dX8_copy_90 ?_
                refine lv_iload_n hx hb dX8_copy_93 rfl (lv_at hl 4 rfl) ?_
                refine lv_aload hx hb dX8_copy_94 (lv_at hl 0 rfl) ?_
                obtain ⟨v23, h24, hm⟩ := bind_e hm
                refine gdX8_336 C h24 hw dX8_copy_96 ?_
                refine lv_iload hx hb dX8_copy_99 (lv_at hl 6 rfl) ?_
                refine lv_iload hx hb dX8_copy_101 (lv_at hl 7 rfl) ?_
                obtain ⟨x25, h26, hm⟩ := bind_e hm
                refine cpX8_315_DD C h26 hw hS hl.1 (Nat.le_trans (Nat.le_of_ble_eq_true rfl) hRf) (Nat.le_trans (Nat.le_of_ble_eq_true rfl) hRl) dX8_copy_103 (fun H locs hw hS => ?_)
                refine lv_iload hx hb dX8_copy_106 (lv_at hl 7 rfl) ?_
                obtain ⟨rfl, rfl⟩ := inj2 hm
                exact xret_i C hw hS dX8_copy_108
              · replace hm := ite_n cc hm
                refine lv_bipush (v := (-12)) hx hb dX8_copy_85 (by decide) ?_
                obtain ⟨rfl, rfl⟩ := inj2 hm
                exact xret_i C hw hS dX8_copy_87
          · replace hm := ite_n cc hm
            refine lv_bipush (v := (-13)) hx hb dX8_copy_59 (by decide) ?_
            obtain ⟨rfl, rfl⟩ := inj2 hm
            exact xret_i C hw hS dX8_copy_61
    · replace hm := ite_n cc hm
      refine lv_bipush (v := (-2)) hx hb dX8_copy_14 (by decide) ?_
      obtain ⟨rfl, rfl⟩ := inj2 hm
      exact xret_i C hw hS dX8_copy_16
theorem dX8_taken_0 : decode cX8_taken 0 = .ok (.iload_n 2, 1) := by decide +kernel
theorem dX8_taken_1 : decode cX8_taken 1 = .ok (.invokestatic 351, 3) := by decide +kernel
theorem dX8_taken_4 : decode cX8_taken 4 = .ok (.ifCond .ne 6, 3) := by decide +kernel
theorem dX8_taken_7 : decode cX8_taken 7 = .ok (.bipush (-2), 2) := by decide +kernel
theorem dX8_taken_9 : decode cX8_taken 9 = .ok (.ireturn, 1) := by decide +kernel
theorem dX8_taken_10 : decode cX8_taken 10 = .ok (.aload_n 0, 1) := by decide +kernel
theorem dX8_taken_11 : decode cX8_taken 11 = .ok (.iload_n 1, 1) := by decide +kernel
theorem dX8_taken_12 : decode cX8_taken 12 = .ok (.invokevirtual 134, 3) := by decide +kernel
theorem dX8_taken_15 : decode cX8_taken 15 = .ok (.astore_n 3, 1) := by decide +kernel
theorem dX8_taken_16 : decode cX8_taken 16 = .ok (.aload_n 3, 1) := by decide +kernel
theorem dX8_taken_17 : decode cX8_taken 17 = .ok (.ifnonnull 6, 3) := by decide +kernel
theorem dX8_taken_20 : decode cX8_taken 20 = .ok (.bipush (-11), 2) := by decide +kernel
theorem dX8_taken_22 : decode cX8_taken 22 = .ok (.ireturn, 1) := by decide +kernel
theorem dX8_taken_23 : decode cX8_taken 23 = .ok (.aload_n 3, 1) := by decide +kernel
theorem dX8_taken_24 : decode cX8_taken 24 = .ok (.iload_n 2, 1) := by decide +kernel
theorem dX8_taken_25 : decode cX8_taken 25 = .ok (.invokevirtual 354, 3) := by decide +kernel
theorem dX8_taken_28 : decode cX8_taken 28 = .ok (.ifCond .eq 10, 3) := by decide +kernel
theorem dX8_taken_31 : decode cX8_taken 31 = .ok (.aload_n 3, 1) := by decide +kernel
theorem dX8_taken_32 : decode cX8_taken 32 = .ok (.getfield 167, 3) := by decide +kernel
theorem dX8_taken_35 : decode cX8_taken 35 = .ok (.goto 5, 3) := by decide +kernel
theorem dX8_taken_38 : decode cX8_taken 38 = .ok (.bipush (-13), 2) := by decide +kernel
theorem dX8_taken_40 : decode cX8_taken 40 = .ok (.ireturn, 1) := by decide +kernel
theorem sX8_351 {p : Program} {l : Launch} {e : Env} {R : Room} {s : State} {m : MethodId} {args : Array Value} {below : List Frame} {meth : Method} {c : Code} {H : Heap} {locs : List Loc} {cells slots : Nat} {Q : State → Prop} {cc : ByteArray} {pc nL : Nat} {ls : Array Slot} {rest : List Value} {ret : Option FieldType}  {G : xG} {β : Nat} {D : Nat → Prop} {x : XS} {a1 : Int32} {r : Bool} (C : Cx p s m args meth c RX8 cc nL ret (KK G)) (h : fX1_isKind a1 = some r) (hw : CW β D G x H) (hS : va_S D s.heap H locs) (hsz : ls.size = nL) (hW : (rest.map fun v => v.category).sum ≤ 8) (hR : 1 ≤ R.frames) (hR2 : 20 ≤ R.locals) (hcs : cells ≤ R.cells ∧ slots ≤ R.slots) (hd : decode cc pc = .ok (.invokestatic 351, 3)) (kk : ∀ (H1 : Heap) (locs1 : List Loc), CW β D G x H1 → va_S D s.heap H1 locs1 → W p l e R s m args below meth c H1 locs1 cells slots Q (F0 m (pc + 3) ls (.int (bI r) :: rest))) : W p l e R s m args below meth c H locs cells slots Q (F0 m pc ls (.int a1 :: rest)) := by
  exact xcallS C (As := [.int a1]) (rest := rest) (nA := 1) (kX1_isKind h) (tg 412 (by decide +kernel) rfl) (tg 413 (by decide +kernel) rfl) (tg 15 (by decide +kernel) rfl) (tg 414 (by decide +kernel) rfl) ⟨by decide +kernel, by decide +kernel, by decide +kernel⟩ rfl rfl ⟨hR, hR2⟩ hw hS (fun _ q => q) rfl rfl hsz hW hd hcs (fun H1 locs1 hw hz hk hS => kk H1 locs1 hw hS)
theorem sX8_354 {p : Program} {l : Launch} {e : Env} {R : Room} {s : State} {m : MethodId} {args : Array Value} {below : List Frame} {meth : Method} {c : Code} {H : Heap} {locs : List Loc} {cells slots : Nat} {Q : State → Prop} {cc : ByteArray} {pc nL : Nat} {ls : Array Slot} {rest : List Value} {ret : Option FieldType}  {G : xG} {β : Nat} {D : Nat → Prop} {x : XS} {a0 : Nat} {a1 : Int32} {r : Bool} (C : Cx p s m args meth c RX8 cc nL ret (KK G)) (hk : dK x a0 1 = true) (h : fX1_isOfKind x a0 a1 = some r) (hw : CW β D G x H) (hS : va_S D s.heap H locs) (hsz : ls.size = nL) (hW : (rest.map fun v => v.category).sum ≤ 8) (hR : 2 ≤ R.frames) (hR2 : 43 ≤ R.locals) (hcs : cells ≤ R.cells ∧ slots ≤ R.slots) (hd : decode cc pc = .ok (.invokevirtual 354, 3)) (kk : ∀ (H1 : Heap) (locs1 : List Loc), CW β D G x H1 → va_S D s.heap H1 locs1 → W p l e R s m args below meth c H1 locs1 cells slots Q (F0 m (pc + 3) ls (.int (bI r) :: rest))) : W p l e R s m args below meth c H locs cells slots Q (F0 m pc ls (.int a1 :: .ref a0 :: rest)) := by
  obtain ⟨fs0, hfs0⟩ := dK_e hk
  exact xcallV C (As := [.int a1]) (rest := rest) (nA := 1) (ci := 1) (kX1_isOfKind h) (tg 894 (by decide +kernel) rfl) (tg 895 (by decide +kernel) rfl) (tg 896 (by decide +kernel) rfl) (tg 15 (by decide +kernel) rfl) (tg 897 (by decide +kernel) rfl) ⟨rfl, by decide +kernel, by decide +kernel, by decide +kernel⟩ rfl rfl rfl ⟨hR, hR2⟩ ((hw.2.2.2.1 a0 _ hfs0).2.2.2) hw hS (fun _ q => q) rfl rfl hsz hW hd hcs (fun H1 locs1 hw hz hk hS => kk H1 locs1 hw hS)
def fX8_taken (x : XS) (a1 : Int32) (a2 : Int32) : Option (Int32) := Option.bind (fX1_isKind a2) fun v1 => if v1 = true then Option.bind (fX8_horseAt x a1) fun v3 => oc v3 (some (-11)) (fun p5 => if dK x p5 1 = true then Option.bind (fX1_isOfKind x p5 a2) fun v7 => if v7 = true then Option.bind (dI x p5 1 1) fun v9 => some v9 else some (-13) else none) else some (-2)
abbrev rmX8_taken : Room := { frames := 2, cells := 0, slots := 0, locals := 43 }
set_option maxHeartbeats 4000000 in
set_option maxRecDepth 100000 in
theorem kX8_taken {l : Launch} {G : xG} {β : Nat} {D : Nat → Prop} {x : XS} {a1 : Int32} {a2 : Int32} {r : Int32} (hm : fX8_taken x a1 a2 = some r) : Met l yX8_taken (.code yX8_taken cX8_taken 4 (some .int) :: GT) rmX8_taken (PcW [.ref β, .int a1, .int a2] (CW β D G x) (KK G)) (QcW D (some (.int r)) (CW β D G x)) 0 0 D := by
  unfold fX8_taken at hm
  refine xpro (own := RX8) (by decide +kernel) rfl (Nat.le_of_ble_eq_true rfl) ?_
  intro p e s m args below meth c C hw ls hl
  have hx := C.1
  have hb := C.2.1
  have ho := C.2.2.2.1
  have hts := C.2.2.2.2.1
  have hf : Fz D G s.heap := hw.2.2.2.2
  have hS : va_S D s.heap s.heap [] := va_S.rf
  have hl : lv_has ls 4 [(0, .ref β), (1, .int a1), (2, .int a2)] := hl
  have hRf : 2 ≤ rmX8_taken.frames := Nat.le_refl _
  have hRl : 43 ≤ rmX8_taken.locals := Nat.le_refl _
  have hcs : 0 ≤ rmX8_taken.cells ∧ 0 ≤ rmX8_taken.slots := ⟨Nat.le_refl _, Nat.le_refl _⟩
  refine lv_iload_n hx hb dX8_taken_0 rfl (lv_at hl 2 rfl) ?_
  obtain ⟨v1, h2, hm⟩ := bind_e hm
  refine sX8_351 C h2 hw hS hl.1 (Nat.le_of_ble_eq_true rfl) (Nat.le_trans (Nat.le_of_ble_eq_true rfl) hRf) (Nat.le_trans (Nat.le_of_ble_eq_true rfl) hRl) hcs dX8_taken_1 (fun H locs hw hS => ?_)
  refine x_ifneB hx hb dX8_taken_4 (tgt := 10) (by decide) (fun cc => ?_) (fun cc => ?_)
  · replace hm := ite_p cc hm
    refine lv_aload_n hx hb dX8_taken_10 rfl (lv_at hl 0 rfl) ?_
    refine lv_iload_n hx hb dX8_taken_11 rfl (lv_at hl 1 rfl) ?_
    obtain ⟨v3, h4, hm⟩ := bind_e hm
    refine sX8_134 C h4 hw hS hl.1 (Nat.le_of_ble_eq_true rfl) (Nat.le_trans (Nat.le_of_ble_eq_true rfl) hRf) (Nat.le_trans (Nat.le_of_ble_eq_true rfl) hRl) hcs dX8_taken_12 (fun H locs hw hS => ?_)
    refine x_astore_nq (lv' := [(3, va_rf v3), (0, .ref β), (1, .int a1), (2, .int a2)]) hx hb dX8_taken_15 rfl hl (by decide) rfl (fun ls hl => ?_)
    refine x_aload_nq hx hb dX8_taken_16 rfl (lv_at hl 0 rfl) ?_
    rcases v3 with _ | p5
    · replace hm := oc_n hm
      refine lv_ifnonnullN hx hb dX8_taken_17 ?_
      refine lv_bipush (v := (-11)) hx hb dX8_taken_20 (by decide) ?_
      obtain rfl := Option.some.inj hm
      exact xret_i C hw hS dX8_taken_22
    · replace hm := oc_s hm
      refine lv_ifnonnull (tgt := 23) hx hb dX8_taken_17 (by decide) ?_
      refine lv_aload_n hx hb dX8_taken_23 rfl (lv_at hl 0 rfl) ?_
      refine lv_iload_n hx hb dX8_taken_24 rfl (lv_at hl 3 rfl) ?_
      obtain ⟨h6, hm⟩ := chk_e hm
      obtain ⟨v7, h8, hm⟩ := bind_e hm
      refine sX8_354 C h6 h8 hw hS hl.1 (Nat.le_of_ble_eq_true rfl) (Nat.le_trans (Nat.le_of_ble_eq_true rfl) hRf) (Nat.le_trans (Nat.le_of_ble_eq_true rfl) hRl) hcs dX8_taken_25 (fun H locs hw hS => ?_)
      refine x_ifeqB hx hb dX8_taken_28 (tgt := 38) (by decide) (fun cc => ?_) (fun cc => ?_)
      · replace hm := ite_n cc hm
        refine lv_bipush (v := (-13)) hx hb dX8_taken_38 (by decide) ?_
        obtain rfl := Option.some.inj hm
        exact xret_i C hw hS dX8_taken_40
      · replace hm := ite_p cc hm
        refine lv_aload_n hx hb dX8_taken_31 rfl (lv_at hl 0 rfl) ?_
        obtain ⟨v9, h10, hm⟩ := bind_e hm
        refine gdX8_167 C h10 hw dX8_taken_32 ?_
        refine lv_goto (tgt := 40) hx hb dX8_taken_35 (by decide) ?_
        obtain rfl := Option.some.inj hm
        exact xret_i C hw hS dX8_taken_40
  · replace hm := ite_n cc hm
    refine lv_bipush (v := (-2)) hx hb dX8_taken_7 (by decide) ?_
    obtain rfl := Option.some.inj hm
    exact xret_i C hw hS dX8_taken_9
theorem dX8_isHorseToBe_0 : decode cX8_isHorseToBe 0 = .ok (.iload_n 0, 1) := by decide +kernel
theorem dX8_isHorseToBe_1 : decode cX8_isHorseToBe 1 = .ok (.invokestatic 351, 3) := by decide +kernel
theorem dX8_isHorseToBe_4 : decode cX8_isHorseToBe 4 = .ok (.ifCond .eq 58, 3) := by decide +kernel
theorem dX8_isHorseToBe_7 : decode cX8_isHorseToBe 7 = .ok (.iload_n 1, 1) := by decide +kernel
theorem dX8_isHorseToBe_8 : decode cX8_isHorseToBe 8 = .ok (.iconst 0, 1) := by decide +kernel
theorem dX8_isHorseToBe_9 : decode cX8_isHorseToBe 9 = .ok (.bipush 99, 2) := by decide +kernel
theorem dX8_isHorseToBe_11 : decode cX8_isHorseToBe 11 = .ok (.invokestatic 138, 3) := by decide +kernel
theorem dX8_isHorseToBe_14 : decode cX8_isHorseToBe 14 = .ok (.ifCond .eq 48, 3) := by decide +kernel
theorem dX8_isHorseToBe_17 : decode cX8_isHorseToBe 17 = .ok (.iload_n 2, 1) := by decide +kernel
theorem dX8_isHorseToBe_18 : decode cX8_isHorseToBe 18 = .ok (.sipush 1000, 3) := by decide +kernel
theorem dX8_isHorseToBe_21 : decode cX8_isHorseToBe 21 = .ok (.idiv, 1) := by decide +kernel
theorem dX8_isHorseToBe_22 : decode cX8_isHorseToBe 22 = .ok (.iconst 2, 1) := by decide +kernel
theorem dX8_isHorseToBe_23 : decode cX8_isHorseToBe 23 = .ok (.bipush 12, 2) := by decide +kernel
theorem dX8_isHorseToBe_25 : decode cX8_isHorseToBe 25 = .ok (.invokestatic 138, 3) := by decide +kernel
theorem dX8_isHorseToBe_28 : decode cX8_isHorseToBe 28 = .ok (.ifCond .eq 34, 3) := by decide +kernel
theorem dX8_isHorseToBe_31 : decode cX8_isHorseToBe 31 = .ok (.iload_n 2, 1) := by decide +kernel
theorem dX8_isHorseToBe_32 : decode cX8_isHorseToBe 32 = .ok (.sipush 1000, 3) := by decide +kernel
theorem dX8_isHorseToBe_35 : decode cX8_isHorseToBe 35 = .ok (.irem, 1) := by decide +kernel
theorem dX8_isHorseToBe_36 : decode cX8_isHorseToBe 36 = .ok (.bipush 10, 2) := by decide +kernel
theorem dX8_isHorseToBe_38 : decode cX8_isHorseToBe 38 = .ok (.idiv, 1) := by decide +kernel
theorem dX8_isHorseToBe_39 : decode cX8_isHorseToBe 39 = .ok (.iconst 0, 1) := by decide +kernel
theorem dX8_isHorseToBe_40 : decode cX8_isHorseToBe 40 = .ok (.bipush 20, 2) := by decide +kernel
theorem dX8_isHorseToBe_42 : decode cX8_isHorseToBe 42 = .ok (.invokestatic 138, 3) := by decide +kernel
theorem dX8_isHorseToBe_45 : decode cX8_isHorseToBe 45 = .ok (.ifCond .eq 17, 3) := by decide +kernel
theorem dX8_isHorseToBe_48 : decode cX8_isHorseToBe 48 = .ok (.iload_n 2, 1) := by decide +kernel
theorem dX8_isHorseToBe_49 : decode cX8_isHorseToBe 49 = .ok (.bipush 10, 2) := by decide +kernel
theorem dX8_isHorseToBe_51 : decode cX8_isHorseToBe 51 = .ok (.irem, 1) := by decide +kernel
theorem dX8_isHorseToBe_52 : decode cX8_isHorseToBe 52 = .ok (.invokestatic 150, 3) := by decide +kernel
theorem dX8_isHorseToBe_55 : decode cX8_isHorseToBe 55 = .ok (.ifCond .eq 7, 3) := by decide +kernel
theorem dX8_isHorseToBe_58 : decode cX8_isHorseToBe 58 = .ok (.iconst 1, 1) := by decide +kernel
theorem dX8_isHorseToBe_59 : decode cX8_isHorseToBe 59 = .ok (.goto 4, 3) := by decide +kernel
theorem dX8_isHorseToBe_62 : decode cX8_isHorseToBe 62 = .ok (.iconst 0, 1) := by decide +kernel
theorem dX8_isHorseToBe_63 : decode cX8_isHorseToBe 63 = .ok (.ireturn, 1) := by decide +kernel
def fX8_isHorseToBe (a1 : Int32) (a2 : Int32) (a3 : Int32) : Option (Bool) := Option.bind (fX1_isKind a1) fun v1 => if v1 = true then Option.bind (fX8_isWithin a2 0 99) fun v3 => if v3 = true then Option.bind (fX8_isWithin (a3 / 1000) 2 12) fun v5 => if v5 = true then Option.bind (fX8_isWithin ((irm a3 1000) / 10) 0 20) fun v7 => if v7 = true then Option.bind (fX8_isGround (irm a3 10)) fun v9 => if v9 = true then some true else some false else some false else some false else some false else some false
abbrev rmX8_isHorseToBe : Room := { frames := 2, cells := 0, slots := 0, locals := 42 }
set_option maxHeartbeats 4000000 in
set_option maxRecDepth 100000 in
theorem kX8_isHorseToBe {l : Launch} {G : xG} {β : Nat} {D : Nat → Prop} {x : XS} {a1 : Int32} {a2 : Int32} {a3 : Int32} {r : Bool} (hm : fX8_isHorseToBe a1 a2 a3 = some r) : Met l yX8_isHorseToBe (.code yX8_isHorseToBe cX8_isHorseToBe 3 (some .boolean) :: GT) rmX8_isHorseToBe (PcW [.int a1, .int a2, .int a3] (CW β D G x) (KK G)) (QcW D (some (.int (bI r))) (CW β D G x)) 0 0 D := by
  unfold fX8_isHorseToBe at hm
  refine xpro (own := RX8) (by decide +kernel) rfl (Nat.le_of_ble_eq_true rfl) ?_
  intro p e s m args below meth c C hw ls hl
  have hx := C.1
  have hb := C.2.1
  have ho := C.2.2.2.1
  have hts := C.2.2.2.2.1
  have hf : Fz D G s.heap := hw.2.2.2.2
  have hS : va_S D s.heap s.heap [] := va_S.rf
  have hl : lv_has ls 3 [(0, .int a1), (1, .int a2), (2, .int a3)] := hl
  have hRf : 2 ≤ rmX8_isHorseToBe.frames := Nat.le_refl _
  have hRl : 42 ≤ rmX8_isHorseToBe.locals := Nat.le_refl _
  have hcs : 0 ≤ rmX8_isHorseToBe.cells ∧ 0 ≤ rmX8_isHorseToBe.slots := ⟨Nat.le_refl _, Nat.le_refl _⟩
  refine lv_iload_n hx hb dX8_isHorseToBe_0 rfl (lv_at hl 0 rfl) ?_
  obtain ⟨v1, h2, hm⟩ := bind_e hm
  refine sX8_351 C h2 hw hS hl.1 (Nat.le_of_ble_eq_true rfl) (Nat.le_trans (Nat.le_of_ble_eq_true rfl) hRf) (Nat.le_trans (Nat.le_of_ble_eq_true rfl) hRl) hcs dX8_isHorseToBe_1 (fun H locs hw hS => ?_)
  refine x_ifeqB hx hb dX8_isHorseToBe_4 (tgt := 62) (by decide) (fun cc => ?_) (fun cc => ?_)
  · replace hm := ite_n cc hm
    refine lv_iconst (v := 0) hx hb dX8_isHorseToBe_62 (by decide) ?_
    obtain rfl := Option.some.inj hm
    exact xret_z (v := bI false) C (bI_nar _) hw hS dX8_isHorseToBe_63
  · replace hm := ite_p cc hm
    refine lv_iload_n hx hb dX8_isHorseToBe_7 rfl (lv_at hl 1 rfl) ?_
    refine lv_iconst (v := 0) hx hb dX8_isHorseToBe_8 (by decide) ?_
    refine lv_bipush (v := 99) hx hb dX8_isHorseToBe_9 (by decide) ?_
    obtain ⟨v3, h4, hm⟩ := bind_e hm
    refine sX8_138 C h4 hw hS hl.1 (Nat.le_of_ble_eq_true rfl) (Nat.le_trans (Nat.le_of_ble_eq_true rfl) hRf) (Nat.le_trans (Nat.le_of_ble_eq_true rfl) hRl) hcs dX8_isHorseToBe_11 (fun H locs hw hS => ?_)
    refine x_ifeqB hx hb dX8_isHorseToBe_14 (tgt := 62) (by decide) (fun cc => ?_) (fun cc => ?_)
    · replace hm := ite_n cc hm
      refine lv_iconst (v := 0) hx hb dX8_isHorseToBe_62 (by decide) ?_
      obtain rfl := Option.some.inj hm
      exact xret_z (v := bI false) C (bI_nar _) hw hS dX8_isHorseToBe_63
    · replace hm := ite_p cc hm
      refine lv_iload_n hx hb dX8_isHorseToBe_17 rfl (lv_at hl 2 rfl) ?_
      refine lv_sipush (v := 1000) hx hb dX8_isHorseToBe_18 (by decide) ?_
      refine lv_idiv hx hb dX8_isHorseToBe_21 (by decide) ?_
      refine lv_iconst (v := 2) hx hb dX8_isHorseToBe_22 (by decide) ?_
      refine lv_bipush (v := 12) hx hb dX8_isHorseToBe_23 (by decide) ?_
      obtain ⟨v5, h6, hm⟩ := bind_e hm
      refine sX8_138 C h6 hw hS hl.1 (Nat.le_of_ble_eq_true rfl) (Nat.le_trans (Nat.le_of_ble_eq_true rfl) hRf) (Nat.le_trans (Nat.le_of_ble_eq_true rfl) hRl) hcs dX8_isHorseToBe_25 (fun H locs hw hS => ?_)
      refine x_ifeqB hx hb dX8_isHorseToBe_28 (tgt := 62) (by decide) (fun cc => ?_) (fun cc => ?_)
      · replace hm := ite_n cc hm
        refine lv_iconst (v := 0) hx hb dX8_isHorseToBe_62 (by decide) ?_
        obtain rfl := Option.some.inj hm
        exact xret_z (v := bI false) C (bI_nar _) hw hS dX8_isHorseToBe_63
      · replace hm := ite_p cc hm
        refine lv_iload_n hx hb dX8_isHorseToBe_31 rfl (lv_at hl 2 rfl) ?_
        refine lv_sipush (v := 1000) hx hb dX8_isHorseToBe_32 (by decide) ?_
        refine lv_irem hx hb dX8_isHorseToBe_35 (by decide) ?_
        refine lv_bipush (v := 10) hx hb dX8_isHorseToBe_36 (by decide) ?_
        refine lv_idiv hx hb dX8_isHorseToBe_38 (by decide) ?_
        refine lv_iconst (v := 0) hx hb dX8_isHorseToBe_39 (by decide) ?_
        refine lv_bipush (v := 20) hx hb dX8_isHorseToBe_40 (by decide) ?_
        obtain ⟨v7, h8, hm⟩ := bind_e hm
        refine sX8_138 C h8 hw hS hl.1 (Nat.le_of_ble_eq_true rfl) (Nat.le_trans (Nat.le_of_ble_eq_true rfl) hRf) (Nat.le_trans (Nat.le_of_ble_eq_true rfl) hRl) hcs dX8_isHorseToBe_42 (fun H locs hw hS => ?_)
        refine x_ifeqB hx hb dX8_isHorseToBe_45 (tgt := 62) (by decide) (fun cc => ?_) (fun cc => ?_)
        · replace hm := ite_n cc hm
          refine lv_iconst (v := 0) hx hb dX8_isHorseToBe_62 (by decide) ?_
          obtain rfl := Option.some.inj hm
          exact xret_z (v := bI false) C (bI_nar _) hw hS dX8_isHorseToBe_63
        · replace hm := ite_p cc hm
          refine lv_iload_n hx hb dX8_isHorseToBe_48 rfl (lv_at hl 2 rfl) ?_
          refine lv_bipush (v := 10) hx hb dX8_isHorseToBe_49 (by decide) ?_
          refine lv_irem hx hb dX8_isHorseToBe_51 (by decide) ?_
          obtain ⟨v9, h10, hm⟩ := bind_e hm
          refine sX8_150 C h10 hw hS hl.1 (Nat.le_of_ble_eq_true rfl) (Nat.le_trans (Nat.le_of_ble_eq_true rfl) hRf) (Nat.le_trans (Nat.le_of_ble_eq_true rfl) hRl) hcs dX8_isHorseToBe_52 (fun H locs hw hS => ?_)
          refine x_ifeqB hx hb dX8_isHorseToBe_55 (tgt := 62) (by decide) (fun cc => ?_) (fun cc => ?_)
          · replace hm := ite_n cc hm
            refine lv_iconst (v := 0) hx hb dX8_isHorseToBe_62 (by decide) ?_
            obtain rfl := Option.some.inj hm
            exact xret_z (v := bI false) C (bI_nar _) hw hS dX8_isHorseToBe_63
          · replace hm := ite_p cc hm
            refine lv_iconst (v := 1) hx hb dX8_isHorseToBe_58 (by decide) ?_
            refine lv_goto (tgt := 63) hx hb dX8_isHorseToBe_59 (by decide) ?_
            obtain rfl := Option.some.inj hm
            exact xret_z (v := bI true) C (bI_nar _) hw hS dX8_isHorseToBe_63
theorem dX8_lastDay_0 : decode cX8_lastDay 0 = .ok (.aload_n 0, 1) := by decide +kernel
theorem dX8_lastDay_1 : decode cX8_lastDay 1 = .ok (.aload_n 0, 1) := by decide +kernel
theorem dX8_lastDay_2 : decode cX8_lastDay 2 = .ok (.getfield 32, 3) := by decide +kernel
theorem dX8_lastDay_5 : decode cX8_lastDay 5 = .ok (.iconst 1, 1) := by decide +kernel
theorem dX8_lastDay_6 : decode cX8_lastDay 6 = .ok (.isub, 1) := by decide +kernel
theorem dX8_lastDay_7 : decode cX8_lastDay 7 = .ok (.invokevirtual 265, 3) := by decide +kernel
theorem dX8_lastDay_10 : decode cX8_lastDay 10 = .ok (.astore_n 1, 1) := by decide +kernel
theorem dX8_lastDay_11 : decode cX8_lastDay 11 = .ok (.aload_n 1, 1) := by decide +kernel
theorem dX8_lastDay_12 : decode cX8_lastDay 12 = .ok (.ifnonnull 7, 3) := by decide +kernel
theorem dX8_lastDay_15 : decode cX8_lastDay 15 = .ok (.iconst 0, 1) := by decide +kernel
theorem dX8_lastDay_16 : decode cX8_lastDay 16 = .ok (.goto 7, 3) := by decide +kernel
theorem dX8_lastDay_19 : decode cX8_lastDay 19 = .ok (.aload_n 1, 1) := by decide +kernel
theorem dX8_lastDay_20 : decode cX8_lastDay 20 = .ok (.getfield 272, 3) := by decide +kernel
theorem dX8_lastDay_23 : decode cX8_lastDay 23 = .ok (.ireturn, 1) := by decide +kernel
def fX8_lastDay (x : XS) : Option (Int32) := Option.bind (fX8_raceAt x ((x.1 0 5) - 1)) fun v1 => oc v1 (some 0) (fun p3 => Option.bind (dI x p3 3 1) fun v4 => some v4)
abbrev rmX8_lastDay : Room := { frames := 2, cells := 0, slots := 0, locals := 43 }
set_option maxHeartbeats 4000000 in
set_option maxRecDepth 100000 in
theorem kX8_lastDay {l : Launch} {G : xG} {β : Nat} {D : Nat → Prop} {x : XS} {r : Int32} (hm : fX8_lastDay x = some r) : Met l yX8_lastDay (.code yX8_lastDay cX8_lastDay 2 (some .int) :: GT) rmX8_lastDay (PcW [.ref β] (CW β D G x) (KK G)) (QcW D (some (.int r)) (CW β D G x)) 0 0 D := by
  unfold fX8_lastDay at hm
  refine xpro (own := RX8) (by decide +kernel) rfl (Nat.le_of_ble_eq_true rfl) ?_
  intro p e s m args below meth c C hw ls hl
  have hx := C.1
  have hb := C.2.1
  have ho := C.2.2.2.1
  have hts := C.2.2.2.2.1
  have hf : Fz D G s.heap := hw.2.2.2.2
  have hS : va_S D s.heap s.heap [] := va_S.rf
  have hl : lv_has ls 2 [(0, .ref β)] := hl
  have hRf : 2 ≤ rmX8_lastDay.frames := Nat.le_refl _
  have hRl : 43 ≤ rmX8_lastDay.locals := Nat.le_refl _
  have hcs : 0 ≤ rmX8_lastDay.cells ∧ 0 ≤ rmX8_lastDay.slots := ⟨Nat.le_refl _, Nat.le_refl _⟩
  refine lv_aload_n hx hb dX8_lastDay_0 rfl (lv_at hl 0 rfl) ?_
  refine lv_aload_n hx hb dX8_lastDay_1 rfl (lv_at hl 0 rfl) ?_
  refine gX8_32 C hw dX8_lastDay_2 ?_
  refine lv_iconst (v := 1) hx hb dX8_lastDay_5 (by decide) ?_
  refine lv_isub hx hb dX8_lastDay_6 ?_
  obtain ⟨v1, h2, hm⟩ := bind_e hm
  refine sX8_265 C h2 hw hS hl.1 (Nat.le_of_ble_eq_true rfl) (Nat.le_trans (Nat.le_of_ble_eq_true rfl) hRf) (Nat.le_trans (Nat.le_of_ble_eq_true rfl) hRl) hcs dX8_lastDay_7 (fun H locs hw hS => ?_)
  refine x_astore_nq (lv' := [(1, va_rf v1), (0, .ref β)]) hx hb dX8_lastDay_10 rfl hl (by decide) rfl (fun ls hl => ?_)
  refine x_aload_nq hx hb dX8_lastDay_11 rfl (lv_at hl 0 rfl) ?_
  rcases v1 with _ | p3
  · replace hm := oc_n hm
    refine lv_ifnonnullN hx hb dX8_lastDay_12 ?_
    refine lv_iconst (v := 0) hx hb dX8_lastDay_15 (by decide) ?_
    refine lv_goto (tgt := 23) hx hb dX8_lastDay_16 (by decide) ?_
    obtain rfl := Option.some.inj hm
    exact xret_i C hw hS dX8_lastDay_23
  · replace hm := oc_s hm
    refine lv_ifnonnull (tgt := 19) hx hb dX8_lastDay_12 (by decide) ?_
    refine lv_aload_n hx hb dX8_lastDay_19 rfl (lv_at hl 0 rfl) ?_
    obtain ⟨v4, h5, hm⟩ := bind_e hm
    refine gdX8_272 C h5 hw dX8_lastDay_20 ?_
    obtain rfl := Option.some.inj hm
    exact xret_i C hw hS dX8_lastDay_23
theorem dX8_leadAnew_0 : decode cX8_leadAnew 0 = .ok (.iconst 0, 1) := by decide +kernel
theorem dX8_leadAnew_1 : decode cX8_leadAnew 1 = .ok (.istore_n 2, 1) := by decide +kernel
theorem dX8_leadAnew_2 : decode cX8_leadAnew 2 = .ok (.iload_n 2, 1) := by decide +kernel
theorem dX8_leadAnew_3 : decode cX8_leadAnew 3 = .ok (.aload_n 1, 1) := by decide +kernel
theorem dX8_leadAnew_4 : decode cX8_leadAnew 4 = .ok (.getfield 275, 3) := by decide +kernel
theorem dX8_leadAnew_7 : decode cX8_leadAnew 7 = .ok (.if_icmp .ge 53, 3) := by decide +kernel
theorem dX8_leadAnew_10 : decode cX8_leadAnew 10 = .ok (.aload_n 1, 1) := by decide +kernel
theorem dX8_leadAnew_11 : decode cX8_leadAnew 11 = .ok (.getfield 252, 3) := by decide +kernel
theorem dX8_leadAnew_14 : decode cX8_leadAnew 14 = .ok (.iload_n 2, 1) := by decide +kernel
theorem dX8_leadAnew_15 : decode cX8_leadAnew 15 = .ok (.iaload, 1) := by decide +kernel
theorem dX8_leadAnew_16 : decode cX8_leadAnew 16 = .ok (.istore_n 3, 1) := by decide +kernel
theorem dX8_leadAnew_17 : decode cX8_leadAnew 17 = .ok (.aload_n 0, 1) := by decide +kernel
theorem dX8_leadAnew_18 : decode cX8_leadAnew 18 = .ok (.iload_n 3, 1) := by decide +kernel
theorem dX8_leadAnew_19 : decode cX8_leadAnew 19 = .ok (.invokevirtual 134, 3) := by decide +kernel
theorem dX8_leadAnew_22 : decode cX8_leadAnew 22 = .ok (.astore 4, 2) := by decide +kernel
theorem dX8_leadAnew_24 : decode cX8_leadAnew 24 = .ok (.aload 4, 2) := by decide +kernel
theorem dX8_leadAnew_26 : decode cX8_leadAnew 26 = .ok (.ifnull 28, 3) := by decide +kernel
theorem dX8_leadAnew_29 : decode cX8_leadAnew 29 = .ok (.aload 4, 2) := by decide +kernel
theorem dX8_leadAnew_31 : decode cX8_leadAnew 31 = .ok (.aload_n 0, 1) := by decide +kernel
theorem dX8_leadAnew_32 : decode cX8_leadAnew 32 = .ok (.iload_n 3, 1) := by decide +kernel
theorem dX8_leadAnew_33 : decode cX8_leadAnew 33 = .ok (.aload 4, 2) := by decide +kernel
theorem dX8_leadAnew_35 : decode cX8_leadAnew 35 = .ok (.getfield 147, 3) := by decide +kernel
theorem dX8_leadAnew_38 : decode cX8_leadAnew 38 = .ok (.aload_n 0, 1) := by decide +kernel
theorem dX8_leadAnew_39 : decode cX8_leadAnew 39 = .ok (.iload_n 3, 1) := by decide +kernel
theorem dX8_leadAnew_40 : decode cX8_leadAnew 40 = .ok (.invokevirtual 173, 3) := by decide +kernel
theorem dX8_leadAnew_43 : decode cX8_leadAnew 43 = .ok (.iload_n 2, 1) := by decide +kernel
theorem dX8_leadAnew_44 : decode cX8_leadAnew 44 = .ok (.aload_n 1, 1) := by decide +kernel
theorem dX8_leadAnew_45 : decode cX8_leadAnew 45 = .ok (.getfield 269, 3) := by decide +kernel
theorem dX8_leadAnew_48 : decode cX8_leadAnew 48 = .ok (.invokevirtual 400, 3) := by decide +kernel
theorem dX8_leadAnew_51 : decode cX8_leadAnew 51 = .ok (.putfield 147, 3) := by decide +kernel
theorem dX8_leadAnew_54 : decode cX8_leadAnew 54 = .ok (.iinc 2 1, 3) := by decide +kernel
theorem dX8_leadAnew_57 : decode cX8_leadAnew 57 = .ok (.goto (-55), 3) := by decide +kernel
theorem dX8_leadAnew_60 : decode cX8_leadAnew 60 = .ok (.return_, 1) := by decide +kernel
def BX8_leadAnew_2 (q1 : Option Nat) (lp : Int32 → XS → Option (XS)) (u2 : Int32) (x : XS) : Option (XS) := Option.bind q1 fun p1 => Option.bind (dI x p1 3 2) fun v2 => if v2 ≤ u2 then some x else Option.bind (dP x p1 3 3) fun v4 => Option.bind (dA x v4 u2) fun v6 => Option.bind (fX8_horseAt x v6) fun v8 => oc v8 (lt (u2 + 1) fun v11 => lp v11 x) (fun p10 => Option.bind (dI x p10 1 5) fun v12 => Option.bind (fX8_racesWon x v6) fun v14 => Option.bind (dI x p1 3 0) fun v16 => bind2 (fX8_nextLead x v6 v12 v14 u2 v16) fun v18 x19 => Option.bind (dPut x19 p10 1 5 (.int v18)) fun x21 => lt (u2 + 1) fun v23 => lp v23 x21)
def LX8_leadAnew_2 (q1 : Option Nat) : Nat → Int32 → XS → Option (XS)
  | 0, _, _ => none
  | n + 1, u2, x => BX8_leadAnew_2 q1 (LX8_leadAnew_2 q1 n) u2 x
def fX8_leadAnew (x : XS) (a1 : Option Nat) : Option (XS) := Option.bind (LX8_leadAnew_2 a1 NF 0 x) fun x24 => some x24
set_option maxHeartbeats 4000000 in
set_option maxRecDepth 100000 in
theorem lX8_leadAnew_2 {p : Program} {l : Launch} {e : Env} {R : Room} {s : State} {m : MethodId} {args : Array Value} {below : List Frame} {meth : Method} {c : Code} {cells slots : Nat} {Q : State → Prop} {G : xG} {β : Nat} {D : Nat → Prop} (C : Cx p s m args meth c RX8 cX8_leadAnew 5 none (KK G)) (hRf : 5 ≤ R.frames) (hRl : 121 ≤ R.locals) (hcs : cells ≤ R.cells ∧ slots ≤ R.slots) (hf : Fz D G s.heap) (q1 : Option Nat) : ∀ (n : Nat) (u2 : Int32) (x : XS) (J : XS) (H : Heap) (locs : List Loc) (ls : Array Slot), LX8_leadAnew_2 q1 n u2 x = some J → CW β D G x H → va_S D s.heap H locs → lv_has ls 5 [(0, .ref β), (1, va_rf q1), (2, .int u2)] → (∀ (x1 : XS), J = x1 → ∀ (H : Heap) (locs : List Loc) (ls : Array Slot), CW β D G x1 H → va_S D s.heap H locs → lv_has ls 5 [] → W p l e R s m args below meth c H locs cells slots Q (F0 m 60 ls [])) → W p l e R s m args below meth c H locs cells slots Q (F0 m 2 ls []) := by
  have hx := C.1
  have hb := C.2.1
  have ho := C.2.2.2.1
  have hts := C.2.2.2.2.1
  intro n
  induction n with
  | zero =>
    intro u2 x J H locs ls hm
    exact absurd hm (by simp [LX8_leadAnew_2])
  | succ n ih =>
    intro u2 x J H locs ls hm hw hS hl ke
    replace hm : BX8_leadAnew_2 q1 (LX8_leadAnew_2 q1 n) u2 x = some J := hm
    unfold BX8_leadAnew_2 at hm
    refine lv_iload_n hx hb dX8_leadAnew_2 rfl (lv_at hl 2 rfl) ?_
    refine x_aload_nq hx hb dX8_leadAnew_3 rfl (lv_at hl 1 rfl) ?_
    obtain ⟨p1, hq, hz⟩ := bind_e hm
    clear hm
    subst hq
    have hm := hz
    clear hz
    obtain ⟨v2, h3, hm⟩ := bind_e hm
    refine gdX8_275 C h3 hw dX8_leadAnew_4 ?_
    refine lv_icmp_ge (tgt := 60) hx hb dX8_leadAnew_7 (by decide) (fun cc => ?_) (fun cc => ?_)
    · replace hm := ite_p cc hm
      exact ke _ (Option.some.inj hm).symm _ _ _ hw hS (lv_sub hl [] rfl)
    · replace hm := ite_n cc hm
      refine lv_aload_n hx hb dX8_leadAnew_10 rfl (lv_at hl 1 rfl) ?_
      obtain ⟨v4, h5, hm⟩ := bind_e hm
      refine gdX8_252 C h5 hw dX8_leadAnew_11 ?_
      refine lv_iload_n hx hb dX8_leadAnew_14 rfl (lv_at hl 2 rfl) ?_
      obtain ⟨v6, h7, hm⟩ := bind_e hm
      refine x_dald C h7 hw dX8_leadAnew_15 ?_
      refine lv_istore_n (lv' := [(3, .int v6), (0, .ref β), (1, .ref p1), (2, .int u2)]) hx hb dX8_leadAnew_16 rfl hl (by decide) rfl (fun ls hl => ?_)
      refine lv_aload_n hx hb dX8_leadAnew_17 rfl (lv_at hl 1 rfl) ?_
      refine lv_iload_n hx hb dX8_leadAnew_18 rfl (lv_at hl 0 rfl) ?_
      obtain ⟨v8, h9, hm⟩ := bind_e hm
      refine sX8_134 C h9 hw hS hl.1 (Nat.le_of_ble_eq_true rfl) (Nat.le_trans (Nat.le_of_ble_eq_true rfl) hRf) (Nat.le_trans (Nat.le_of_ble_eq_true rfl) hRl) hcs dX8_leadAnew_19 (fun H locs hw hS => ?_)
      refine x_astoreq (lv' := [(4, va_rf v8), (3, .int v6), (0, .ref β), (1, .ref p1), (2, .int u2)]) hx hb dX8_leadAnew_22 hl (by decide) rfl (fun ls hl => ?_)
      refine x_aloadq hx hb dX8_leadAnew_24 (lv_at hl 0 rfl) ?_
      rcases v8 with _ | p10
      · replace hm := oc_n hm
        refine lv_ifnullN (tgt := 54) hx hb dX8_leadAnew_26 (by decide) ?_
        obtain ⟨v11, ev, hm⟩ := lt_e hm
        refine lv_iinc (v := v11) (lv' := [(2, .int v11), (4, .null), (3, .int v6), (0, .ref β), (1, .ref p1)]) hx hb dX8_leadAnew_54 hl (k := 4) rfl (by rw [ev]; rfl) (by decide) rfl (fun ls hl => ?_)
        clear ev
        refine lv_goto (tgt := 2) hx hb dX8_leadAnew_57 (by decide) ?_
        exact ih _ _ _ _ _ _ hm hw hS (lv_sub hl [3, 4, 0] rfl) ke
      · replace hm := oc_s hm
        refine lv_ifnull hx hb dX8_leadAnew_26 ?_
        refine lv_aload hx hb dX8_leadAnew_29 (lv_at hl 0 rfl) ?_
        refine lv_aload_n hx hb dX8_leadAnew_31 rfl (lv_at hl 2 rfl) ?_
        refine lv_iload_n hx hb dX8_leadAnew_32 rfl (lv_at hl 1 rfl) ?_
        refine lv_aload hx hb dX8_leadAnew_33 (lv_at hl 0 rfl) ?_
        obtain ⟨v12, h13, hm⟩ := bind_e hm
        refine gdX8_147 C h13 hw dX8_leadAnew_35 ?_
        refine lv_aload_n hx hb dX8_leadAnew_38 rfl (lv_at hl 2 rfl) ?_
        refine lv_iload_n hx hb dX8_leadAnew_39 rfl (lv_at hl 1 rfl) ?_
        obtain ⟨v14, h15, hm⟩ := bind_e hm
        refine sX8_173 C h15 hw hS hl.1 (Nat.le_of_ble_eq_true rfl) (Nat.le_trans (Nat.le_of_ble_eq_true rfl) hRf) (Nat.le_trans (Nat.le_of_ble_eq_true rfl) hRl) hcs dX8_leadAnew_40 (fun H locs hw hS => ?_)
        refine lv_iload_n hx hb dX8_leadAnew_43 rfl (lv_at hl 4 rfl) ?_
        refine lv_aload_n hx hb dX8_leadAnew_44 rfl (lv_at hl 3 rfl) ?_
        obtain ⟨v16, h17, hm⟩ := bind_e hm
        refine gdX8_269 C h17 hw dX8_leadAnew_45 ?_
        obtain ⟨v18, x19, h20, hm⟩ := bind2_e hm
        refine sX8_400 C h20 hw hS hl.1 (Nat.le_of_ble_eq_true rfl) (Nat.le_trans (Nat.le_of_ble_eq_true rfl) hRf) (Nat.le_trans (Nat.le_of_ble_eq_true rfl) hRl) hcs dX8_leadAnew_48 (fun H locs hw hS => ?_)
        obtain ⟨x21, h22, hm⟩ := bind_e hm
        refine pdX8_147 C h22 hw hS dX8_leadAnew_51 (fun H locs hw hS => ?_)
        obtain ⟨v23, ev, hm⟩ := lt_e hm
        refine lv_iinc (v := v23) (lv' := [(2, .int v23), (4, .ref p10), (3, .int v6), (0, .ref β), (1, .ref p1)]) hx hb dX8_leadAnew_54 hl (k := 4) rfl (by rw [ev]; rfl) (by decide) rfl (fun ls hl => ?_)
        clear ev
        refine lv_goto (tgt := 2) hx hb dX8_leadAnew_57 (by decide) ?_
        exact ih _ _ _ _ _ _ hm hw hS (lv_sub hl [3, 4, 0] rfl) ke
abbrev rmX8_leadAnew : Room := { frames := 5, cells := 0, slots := 0, locals := 121 }
set_option maxHeartbeats 4000000 in
set_option maxRecDepth 100000 in
theorem kX8_leadAnew {l : Launch} {G : xG} {β : Nat} {D : Nat → Prop} {x x' : XS} {a1 : Option Nat} (hm : fX8_leadAnew x a1 = some x') : Met l yX8_leadAnew (.code yX8_leadAnew cX8_leadAnew 5 none :: GT) rmX8_leadAnew (PcW [.ref β, va_rf a1] (CW β D G x) (KK G)) (QcW D none (CW β D G x')) 0 0 D := by
  unfold fX8_leadAnew at hm
  refine xpro (own := RX8) (by decide +kernel) rfl (by cases a1 <;> exact Nat.le_of_ble_eq_true rfl) ?_
  intro p e s m args below meth c C hw ls hl
  have hx := C.1
  have hb := C.2.1
  have ho := C.2.2.2.1
  have hts := C.2.2.2.2.1
  have hf : Fz D G s.heap := hw.2.2.2.2
  have hS : va_S D s.heap s.heap [] := va_S.rf
  have hl : lv_has ls 5 [(0, .ref β), (1, va_rf a1)] := by cases a1 <;> exact hl
  have hRf : 5 ≤ rmX8_leadAnew.frames := Nat.le_refl _
  have hRl : 121 ≤ rmX8_leadAnew.locals := Nat.le_refl _
  have hcs : 0 ≤ rmX8_leadAnew.cells ∧ 0 ≤ rmX8_leadAnew.slots := ⟨Nat.le_refl _, Nat.le_refl _⟩
  refine lv_iconst (v := 0) hx hb dX8_leadAnew_0 (by decide) ?_
  refine lv_istore_n (lv' := [(2, .int 0), (0, .ref β), (1, va_rf a1)]) hx hb dX8_leadAnew_1 rfl hl (by decide) (by cases a1 <;> rfl) (fun ls hl => ?_)
  obtain ⟨x24, hj, hm⟩ := bind_e hm
  refine lX8_leadAnew_2 C hRf hRl hcs hf a1 NF _ _ _ _ _ _ hj hw hS (lv_sub hl [1, 2, 0] rfl) (fun x24_ e0 H locs ls hw hS hl => ?_)
  cases e0
  obtain rfl := Option.some.inj hm
  exact xret_v C hw hS dX8_leadAnew_60
