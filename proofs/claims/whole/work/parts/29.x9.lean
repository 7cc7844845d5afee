theorem dX8_horses_0 : decode cX8_horses 0 = .ok (.iload_n 1, 1) := by decide +kernel
theorem dX8_horses_1 : decode cX8_horses 1 = .ok (.invokestatic 331, 3) := by decide +kernel
theorem dX8_horses_4 : decode cX8_horses 4 = .ok (.ifCond .eq 23, 3) := by decide +kernel
theorem dX8_horses_7 : decode cX8_horses 7 = .ok (.iload_n 2, 1) := by decide +kernel
theorem dX8_horses_8 : decode cX8_horses 8 = .ok (.iconst 0, 1) := by decide +kernel
theorem dX8_horses_9 : decode cX8_horses 9 = .ok (.iconst 2, 1) := by decide +kernel
theorem dX8_horses_10 : decode cX8_horses 10 = .ok (.invokestatic 138, 3) := by decide +kernel
theorem dX8_horses_13 : decode cX8_horses 13 = .ok (.ifCond .eq 14, 3) := by decide +kernel
theorem dX8_horses_16 : decode cX8_horses 16 = .ok (.iload 4, 2) := by decide +kernel
theorem dX8_horses_18 : decode cX8_horses 18 = .ok (.iconst 0, 1) := by decide +kernel
theorem dX8_horses_19 : decode cX8_horses 19 = .ok (.bipush 10, 2) := by decide +kernel
theorem dX8_horses_21 : decode cX8_horses 21 = .ok (.invokestatic 138, 3) := by decide +kernel
theorem dX8_horses_24 : decode cX8_horses 24 = .ok (.ifCond .ne 6, 3) := by decide +kernel
theorem dX8_horses_27 : decode cX8_horses 27 = .ok (.bipush (-2), 2) := by decide +kernel
theorem dX8_horses_29 : decode cX8_horses 29 = .ok (.ireturn, 1) := by decide +kernel
theorem dX8_horses_30 : decode cX8_horses 30 = .ok (.aload_n 0, 1) := by decide +kernel
theorem dX8_horses_31 : decode cX8_horses 31 = .ok (.getfield 65, 3) := by decide +kernel
theorem dX8_horses_34 : decode cX8_horses 34 = .ok (.iload_n 1, 1) := by decide +kernel
theorem dX8_horses_35 : decode cX8_horses 35 = .ok (.aaload, 1) := by decide +kernel
theorem dX8_horses_36 : decode cX8_horses 36 = .ok (.astore 5, 2) := by decide +kernel
theorem dX8_horses_38 : decode cX8_horses 38 = .ok (.aload 5, 2) := by decide +kernel
theorem dX8_horses_40 : decode cX8_horses 40 = .ok (.ifnonnull 6, 3) := by decide +kernel
theorem dX8_horses_43 : decode cX8_horses 43 = .ok (.bipush (-11), 2) := by decide +kernel
theorem dX8_horses_45 : decode cX8_horses 45 = .ok (.ireturn, 1) := by decide +kernel
theorem dX8_horses_46 : decode cX8_horses 46 = .ok (.aload 5, 2) := by decide +kernel
theorem dX8_horses_48 : decode cX8_horses 48 = .ok (.getfield 342, 3) := by decide +kernel
theorem dX8_horses_51 : decode cX8_horses 51 = .ok (.iload_n 2, 1) := by decide +kernel
theorem dX8_horses_52 : decode cX8_horses 52 = .ok (.if_icmp .eq 6, 3) := by decide +kernel
theorem dX8_horses_55 : decode cX8_horses 55 = .ok (.bipush (-13), 2) := by decide +kernel
theorem dX8_horses_57 : decode cX8_horses 57 = .ok (.ireturn, 1) := by decide +kernel
theorem dX8_horses_58 : decode cX8_horses 58 = .ok (.iconst 0, 1) := by decide +kernel
theorem dX8_horses_59 : decode cX8_horses 59 = .ok (.istore 6, 2) := by decide +kernel
theorem dX8_horses_61 : decode cX8_horses 61 = .ok (.iload_n 3, 1) := by decide +kernel
theorem dX8_horses_62 : decode cX8_horses 62 = .ok (.istore 7, 2) := by decide +kernel
theorem dX8_horses_64 : decode cX8_horses 64 = .ok (.iconst 0, 1) := by decide +kernel
theorem dX8_horses_65 : decode cX8_horses 65 = .ok (.istore 8, 2) := by decide +kernel
theorem dX8_horses_67 : decode cX8_horses 67 = .ok (.iload 8, 2) := by decide +kernel
theorem dX8_horses_69 : decode cX8_horses 69 = .ok (.iload 4, 2) := by decide +kernel
theorem dX8_horses_71 : decode cX8_horses 71 = .ok (.if_icmp .ge 64, 3) := by decide +kernel
theorem dX8_horses_74 : decode cX8_horses 74 = .ok (.aload 5, 2) := by decide +kernel
theorem dX8_horses_76 : decode cX8_horses 76 = .ok (.iload 7, 2) := by decide +kernel
theorem dX8_horses_78 : decode cX8_horses 78 = .ok (.iconst 3, 1) := by decide +kernel
theorem dX8_horses_79 : decode cX8_horses 79 = .ok (.invokevirtual 345, 3) := by decide +kernel
theorem dX8_horses_82 : decode cX8_horses 82 = .ok (.ifCond .ne 6, 3) := by decide +kernel
theorem dX8_horses_85 : decode cX8_horses 85 = .ok (.bipush (-12), 2) := by decide +kernel
theorem dX8_horses_87 : decode cX8_horses 87 = .ok (.ireturn, 1) := by decide +kernel
theorem dX8_horses_88 : decode cX8_horses 88 = .ok (.aload_n 0, 1) := by decide +kernel
theorem dX8_horses_89 : decode cX8_horses 89 = .ok (.aload 5, 2) := by decide +kernel
theorem dX8_horses_91 : decode cX8_horses 91 = .ok (.getfield 336, 3) := by decide +kernel
theorem dX8_horses_94 : decode cX8_horses 94 = .ok (.iload 7, 2) := by decide +kernel
theorem dX8_horses_96 : decode cX8_horses 96 = .ok (.iaload, 1) := by decide +kernel
theorem dX8_horses_97 : decode cX8_horses 97 = .ok (.aload 5, 2) := by decide +kernel
theorem dX8_horses_99 : decode cX8_horses 99 = .ok (.getfield 336, 3) := by decide +kernel
theorem dX8_horses_102 : decode cX8_horses 102 = .ok (.iload 7, 2) := by decide +kernel
theorem dX8_horses_104 : decode cX8_horses 104 = .ok (.iconst 1, 1) := by decide +kernel
theorem dX8_horses_105 : decode cX8_horses 105 = .ok (.iadd, 1) := by decide +kernel
theorem dX8_horses_106 : decode cX8_horses 106 = .ok (.iaload, 1) := by decide +kernel
theorem dX8_horses_107 : decode cX8_horses 107 = .ok (.aload 5, 2) := by decide +kernel
theorem dX8_horses_109 : decode cX8_horses 109 = .ok (.getfield 336, 3) := by decide +kernel
theorem dX8_horses_112 : decode cX8_horses 112 = .ok (.iload 7, 2) := by decide +kernel
theorem dX8_horses_114 : decode cX8_horses 114 = .ok (.iconst 2, 1) := by decide +kernel
theorem dX8_horses_115 : decode cX8_horses 115 = .ok (.iadd, 1) := by decide +kernel
theorem dX8_horses_116 : decode cX8_horses 116 = .ok (.iaload, 1) := by decide +kernel
theorem dX8_horses_117 : decode cX8_horses 117 = .ok (.invokevirtual 348, 3) := by decide +kernel
theorem dX8_horses_120 : decode cX8_horses 120 = .ok (.ifCond .lt 6, 3) := by decide +kernel
theorem dX8_horses_123 : decode cX8_horses 123 = .ok (.iinc 6 1, 3) := by decide +kernel
theorem dX8_horses_126 : decode cX8_horses 126 = .ok (.iinc 7 3, 3) := by decide +kernel
theorem dX8_horses_129 : decode cX8_horses 129 = .ok (.iinc 8 1, 3) := by decide +kernel
theorem dX8_horses_132 : decode cX8_horses 132 = .ok (.goto (-65), 3) := by decide +kernel
theorem dX8_horses_135 : decode cX8_horses 135 = .ok (.iload 6, 2) := by decide +kernel
theorem dX8_horses_137 : decode cX8_horses 137 = .ok (.ireturn, 1) := by decide +kernel
theorem sX8_348 {p : Program} {l : Launch} {e : Env} {R : Room} {s : State} {m : MethodId} {args : Array Value} {below : List Frame} {meth : Method} {c : Code} {H : Heap} {locs : List Loc} {cells slots : Nat} {Q : State → Prop} {cc : ByteArray} {pc nL : Nat} {ls : Array Slot} {rest : List Value} {ret : Option FieldType}  {G : xG} {β : Nat} {D : Nat → Prop} {x x' : XS} {a1 : Int32} {a2 : Int32} {a3 : Int32} {r : Int32} (C : Cx p s m args meth c RX8 cc nL ret (KK G)) (hn : ∀ q, s.heap.size ≤ q → D q) (h : fX8_horse x a1 a2 a3 = some (r, x')) (hw : CW β D G x H) (hS : va_S D s.heap H locs) (hsz : ls.size = nL) (hW : (rest.map fun v => v.category).sum ≤ 8) (hR : 4 ≤ R.frames) (hR2 : 87 ≤ R.locals) (hcs : cells + 1 ≤ R.cells ∧ slots + 6 ≤ R.slots) (hd : decode cc pc = .ok (.invokevirtual 348, 3)) (kk : ∀ (H1 : Heap) (locs1 : List Loc), CW β D G x' H1 → va_S D s.heap H1 locs1 → W p l e R s m args below meth c H1 locs1 (cells + 1) (slots + 6) Q (F0 m (pc + 3) ls (.int r :: rest))) : W p l e R s m args below meth c H locs cells slots Q (F0 m pc ls (.int a3 :: .int a2 :: .int a1 :: .ref β :: rest)) := by
  exact xcallV C (As := [.int a1, .int a2, .int a3]) (rest := rest) (nA := 3) (ci := 8) (kX8_horse (hnx hw hS hn) h) (tg 889 (by decide +kernel) rfl) (tg 406 (by decide +kernel) rfl) (tg 407 (by decide +kernel) rfl) (tg 1 (by decide +kernel) rfl) (tg 408 (by decide +kernel) rfl) ⟨rfl, by decide +kernel, by decide +kernel, by decide +kernel⟩ rfl rfl rfl ⟨hR, hR2⟩ (hw.2.2.1 0 (by decide)) hw hS (fun _ q => q) rfl rfl hsz hW hd hcs (fun H1 locs1 hw hz hk hS => kk H1 locs1 hw hS)
def BX8_horses_67 (q4 : Int32) (q5 : Nat) (lp : Int32 → Int32 → Int32 → XS → Option ((Int32 × XS) ⊕ (Int32 × XS))) (u6 : Int32) (u7 : Int32) (u8 : Int32) (x : XS) : Option ((Int32 × XS) ⊕ (Int32 × XS)) := if q4 ≤ u8 then some (.inr (u6, x)) else if dK x q5 5 = true then Option.bind (fX5_hasStretch x q5 u7 3) fun v13 => if v13 = true then Option.bind (dP x q5 5 1) fun v15 => Option.bind (dA x v15 u7) fun v17 => Option.bind (dP x q5 5 1) fun v19 => Option.bind (dA x v19 (u7 + 1)) fun v21 => Option.bind (dP x q5 5 1) fun v23 => Option.bind (dA x v23 (u7 + 2)) fun v25 => bind2 (fX8_horse x v17 v21 v25) fun v27 x28 => if v27 < 0 then lt (u7 + 3) fun v30 => lt (u8 + 1) fun v31 => lp u6 v30 v31 x28 else lt (u6 + 1) fun v32 => lt (u7 + 3) fun v33 => lt (u8 + 1) fun v34 => lp v32 v33 v34 x28 else some (.inl ((-12), x)) else none
def LX8_horses_67 (q4 : Int32) (q5 : Nat) : Nat → Int32 → Int32 → Int32 → XS → Option ((Int32 × XS) ⊕ (Int32 × XS))
  | 0, _, _, _, _ => none
  | n + 1, u6, u7, u8, x => BX8_horses_67 q4 q5 (LX8_horses_67 q4 q5 n) u6 u7 u8 x
def fX8_horses (x : XS) (a1 : Int32) (a2 : Int32) (a3 : Int32) (a4 : Int32) : Option (Int32 × XS) := Option.bind (fX8_isSheet a1) fun v1 => if v1 = true then Option.bind (fX8_isWithin a2 0 2) fun v3 => if v3 = true then Option.bind (fX8_isWithin a4 0 10) fun v5 => if v5 = true then if ib a1 4 then lt (x.2.2.1 10 a1.toNatClampNeg) fun e8 => oc e8 (some ((-11), x)) (fun p9 => Option.bind (dI x p9 5 0) fun v10 => if v10 = a2 then bs (LX8_horses_67 a4 p9 11 0 a3 0 x) (fun a => some a) (fun b => bind2 (some b) fun v35 x36 => some (v35, x36)) else some ((-13), x)) else none else some ((-2), x) else some ((-2), x) else some ((-2), x)
set_option maxHeartbeats 4000000 in
set_option maxRecDepth 100000 in
theorem lX8_horses_67 {p : Program} {l : Launch} {e : Env} {R : Room} {s : State} {m : MethodId} {args : Array Value} {below : List Frame} {meth : Method} {c : Code} {Q : State → Prop} {G : xG} {β : Nat} {D : Nat → Prop} (C : Cx p s m args meth c RX8 cX8_horses 9 (some .int) (KK G)) (hRf : 4 ≤ R.frames) (hRl : 87 ≤ R.locals) (hcK : 11 ≤ R.cells ∧ 66 ≤ R.slots) (hn : ∀ q, s.heap.size ≤ q → D q) (hf : Fz D G s.heap) (q4 : Int32) (q5 : Nat) : ∀ (n : Nat) (cells slots : Nat) (hcs : cells + n * 1 ≤ 11 ∧ slots + n * 6 ≤ 66) (u6 : Int32) (u7 : Int32) (u8 : Int32) (x : XS) (J : (Int32 × XS) ⊕ (Int32 × XS)) (H : Heap) (locs : List Loc) (ls : Array Slot), LX8_horses_67 q4 q5 n u6 u7 u8 x = some J → CW β D G x H → va_S D s.heap H locs → lv_has ls 9 [(0, .ref β), (4, .int q4), (5, .ref q5), (6, .int u6), (7, .int u7), (8, .int u8)] → (∀ (w6 : Int32) (x1 : XS), J = .inr (w6, x1) → ∀ (H : Heap) (locs : List Loc) (ls : Array Slot), CW β D G x1 H → va_S D s.heap H locs → lv_has ls 9 [(6, .int w6)] → W p l e R s m args below meth c H locs 11 66 Q (F0 m 135 ls [])) → (∀ (rv : Int32) (x1 : XS), J = .inl (rv, x1) → ∀ (H : Heap) (locs : List Loc) (ls : Array Slot), CW β D G x1 H → va_S D s.heap H locs → W p l e R s m args below meth c H locs 11 66 Q (F0 m 87 ls [.int rv])) → W p l e R s m args below meth c H locs cells slots Q (F0 m 67 ls []) := by
  have hx := C.1
  have hb := C.2.1
  have ho := C.2.2.2.1
  have hts := C.2.2.2.2.1
  intro n
  induction n with
  | zero =>
    intro cells slots hcs u6 u7 u8 x J H locs ls hm
    exact absurd hm (by simp [LX8_horses_67])
  | succ n ih =>
    intro cells slots hcs u6 u7 u8 x J H locs ls hm hw hS hl ke kr87
    replace hm : BX8_horses_67 q4 q5 (LX8_horses_67 q4 q5 n) u6 u7 u8 x = some J := hm
    unfold BX8_horses_67 at hm
    have hcs0 := hcs
    have hcs : cells ≤ R.cells ∧ slots ≤ R.slots := by omega
    refine lv_iload hx hb dX8_horses_67 (lv_at hl 5 rfl) ?_
    refine lv_iload hx hb dX8_horses_69 (lv_at hl 1 rfl) ?_
    refine lv_icmp_ge (tgt := 135) hx hb dX8_horses_71 (by decide) (fun cc => ?_) (fun cc => ?_)
    · replace hm := ite_p cc hm
      refine W.widen (k := 11) (n := 66) (by omega) (by omega) ?_
      exact ke _ _ (Option.some.inj hm).symm _ _ _ hw hS (lv_sub hl [3] rfl)
    · replace hm := ite_n cc hm
      refine lv_aload hx hb dX8_horses_74 (lv_at hl 2 rfl) ?_
      refine lv_iload hx hb dX8_horses_76 (lv_at hl 4 rfl) ?_
      refine lv_iconst (v := 3) hx hb dX8_horses_78 (by decide) ?_
      obtain ⟨h12, hm⟩ := chk_e hm
      obtain ⟨v13, h14, hm⟩ := bind_e hm
      refine sX8_345 C h12 h14 hw hS hl.1 (Nat.le_of_ble_eq_true rfl) (Nat.le_trans (Nat.le_of_ble_eq_true rfl) hRf) (Nat.le_trans (Nat.le_of_ble_eq_true rfl) hRl) hcs dX8_horses_79 (fun H locs hw hS => ?_)
      refine x_ifneB hx hb dX8_horses_82 (tgt := 88) (by decide) (fun cc => ?_) (fun cc => ?_)
      · replace hm := ite_p cc hm
        refine lv_aload_n hx hb dX8_horses_88 rfl (lv_at hl 0 rfl) ?_
        refine lv_aload hx hb dX8_horses_89 (lv_at hl 2 rfl) ?_
        obtain ⟨v15, h16, hm⟩ := bind_e hm
        refine gdX8_336 C h16 hw dX8_horses_91 ?_
        refine lv_iload hx hb dX8_horses_94 (lv_at hl 4 rfl) ?_
        obtain ⟨v17, h18, hm⟩ := bind_e hm
        refine x_dald C h18 hw dX8_horses_96 ?_
        refine lv_aload hx hb dX8_horses_97 (lv_at hl 2 rfl) ?_
        obtain ⟨v19, h20, hm⟩ := bind_e hm
        refine gdX8_336 C h20 hw dX8_horses_99 ?_
        refine lv_iload hx hb dX8_horses_102 (lv_at hl 4 rfl) ?_
        refine lv_iconst (v := 1) hx hb dX8_horses_104 (by decide) ?_
        refine lv_iadd hx hb dX8_horses_105 ?_
        obtain ⟨v21, h22, hm⟩ := bind_e hm
        refine x_dald C h22 hw dX8_horses_106 ?_
        refine lv_aload hx hb dX8_horses_107 (lv_at hl 2 rfl) ?_
        obtain ⟨v23, h24, hm⟩ := bind_e hm
        refine gdX8_336 C h24 hw dX8_horses_109 ?_
        refine lv_iload hx hb dX8_horses_112 (lv_at hl 4 rfl) ?_
        refine lv_iconst (v := 2) hx hb dX8_horses_114 (by decide) ?_
        refine lv_iadd hx hb dX8_horses_115 ?_
        obtain ⟨v25, h26, hm⟩ := bind_e hm
        refine x_dald C h26 hw dX8_horses_116 ?_
        obtain ⟨v27, x28, h29, hm⟩ := bind2_e hm
        refine sX8_348 C hn h29 hw hS hl.1 (Nat.le_of_ble_eq_true rfl) (Nat.le_trans (Nat.le_of_ble_eq_true rfl) hRf) (Nat.le_trans (Nat.le_of_ble_eq_true rfl) hRl) (by omega) dX8_horses_117 (fun H locs hw hS => ?_)
        refine lv_if_lt (tgt := 126) hx hb dX8_horses_120 (by decide) (fun cc => ?_) (fun cc => ?_)
        · replace hm := ite_p cc hm
          obtain ⟨v30, ev, hm⟩ := lt_e hm
          refine lv_iinc (v := v30) (lv' := [(7, .int v30), (0, .ref β), (4, .int q4), (5, .ref q5), (6, .int u6), (8, .int u8)]) hx hb dX8_horses_126 hl (k := 4) rfl (by rw [ev]; rfl) (by decide) rfl (fun ls hl => ?_)
          clear ev
          obtain ⟨v31, ev, hm⟩ := lt_e hm
          refine lv_iinc (v := v31) (lv' := [(8, .int v31), (7, .int v30), (0, .ref β), (4, .int q4), (5, .ref q5), (6, .int u6)]) hx hb dX8_horses_129 hl (k := 5) rfl (by rw [ev]; rfl) (by decide) rfl (fun ls hl => ?_)
          clear ev
          refine lv_goto (tgt := 67) hx hb dX8_horses_132 (by decide) ?_
          exact ih (cells + 1) (slots + 6) (by omega) _ _ _ _ _ _ _ _ hm hw hS (lv_sub hl [2, 3, 4, 5, 1, 0] rfl) ke kr87
        · replace hm := ite_n cc hm
          obtain ⟨v32, ev, hm⟩ := lt_e hm
          refine lv_iinc (v := v32) (lv' := [(6, .int v32), (0, .ref β), (4, .int q4), (5, .ref q5), (7, .int u7), (8, .int u8)]) hx hb dX8_horses_123 hl (k := 3) rfl (by rw [ev]; rfl) (by decide) rfl (fun ls hl => ?_)
          clear ev
          obtain ⟨v33, ev, hm⟩ := lt_e hm
          refine lv_iinc (v := v33) (lv' := [(7, .int v33), (6, .int v32), (0, .ref β), (4, .int q4), (5, .ref q5), (8, .int u8)]) hx hb dX8_horses_126 hl (k := 4) rfl (by rw [ev]; rfl) (by decide) rfl (fun ls hl => ?_)
          clear ev
          obtain ⟨v34, ev, hm⟩ := lt_e hm
          refine lv_iinc (v := v34) (lv' := [(8, .int v34), (7, .int v33), (6, .int v32), (0, .ref β), (4, .int q4), (5, .ref q5)]) hx hb dX8_horses_129 hl (k := 5) rfl (by rw [ev]; rfl) (by decide) rfl (fun ls hl => ?_)
          clear ev
          refine lv_goto (tgt := 67) hx hb dX8_horses_132 (by decide) ?_
          exact ih (cells + 1) (slots + 6) (by omega) _ _ _ _ _ _ _ _ hm hw hS (lv_sub hl [3, 4, 5, 2, 1, 0] rfl) ke kr87
      · replace hm := ite_n cc hm
        refine lv_bipush (v := (-12)) hx hb dX8_horses_85 (by decide) ?_
        refine W.widen (k := 11) (n := 66) (by omega) (by omega) ?_
        exact kr87 _ _ (Option.some.inj hm).symm _ _ _ hw hS
abbrev rmX8_horses : Room := { frames := 4, cells := 11, slots := 66, locals := 87 }
set_option maxHeartbeats 4000000 in
set_option maxRecDepth 100000 in
theorem kX8_horses {l : Launch} {G : xG} {β : Nat} {D : Nat → Prop} {x x' : XS} {a1 : Int32} {a2 : Int32} {a3 : Int32} {a4 : Int32} {r : Int32} (hn : ∀ q, x.2.2.2.2 ≤ q → D q) (hm : fX8_horses x a1 a2 a3 a4 = some (r, x')) : Met l yX8_horses (.code yX8_horses cX8_horses 9 (some .int) :: GT) rmX8_horses (PcW [.ref β, .int a1, .int a2, .int a3, .int a4] (CW β D G x) (KK G)) (QcW D (some (.int r)) (CW β D G x')) 11 66 D := by
  unfold fX8_horses at hm
  refine xpro (own := RX8) (by decide +kernel) rfl (Nat.le_of_ble_eq_true rfl) ?_
  intro p e s m args below meth c C hw ls hl
  have hx := C.1
  have hb := C.2.1
  have ho := C.2.2.2.1
  have hts := C.2.2.2.2.1
  have hf : Fz D G s.heap := hw.2.2.2.2
  have hn : ∀ q, s.heap.size ≤ q → D q := fun q h => hn q (by rw [← hw.1]; exact h)
  have hS : va_S D s.heap s.heap [] := va_S.rf
  have hl : lv_has ls 9 [(0, .ref β), (1, .int a1), (2, .int a2), (3, .int a3), (4, .int a4)] := hl
  have hRf : 4 ≤ rmX8_horses.frames := Nat.le_refl _
  have hRl : 87 ≤ rmX8_horses.locals := Nat.le_refl _
  have hcs : 0 ≤ rmX8_horses.cells ∧ 0 ≤ rmX8_horses.slots := ⟨Nat.zero_le _, Nat.zero_le _⟩
  refine lv_iload_n hx hb dX8_horses_0 rfl (lv_at hl 1 rfl) ?_
  obtain ⟨v1, h2, hm⟩ := bind_e hm
  refine sX8_331 C h2 hw hS hl.1 (Nat.le_of_ble_eq_true rfl) (Nat.le_trans (Nat.le_of_ble_eq_true rfl) hRf) (Nat.le_trans (Nat.le_of_ble_eq_true rfl) hRl) hcs dX8_horses_1 (fun H locs hw hS => ?_)
  refine x_ifeqB hx hb dX8_horses_4 (tgt := 27) (by decide) (fun cc => ?_) (fun cc => ?_)
  · replace hm := ite_n cc hm
    refine lv_bipush (v := (-2)) hx hb dX8_horses_27 (by decide) ?_
    refine W.widen (k := 11) (n := 66) (Nat.le_of_ble_eq_true rfl) (Nat.le_of_ble_eq_true rfl) ?_
    obtain ⟨rfl, rfl⟩ := inj2 hm
    exact xret_i C hw hS dX8_horses_29
  · replace hm := ite_p cc hm
    refine lv_iload_n hx hb dX8_horses_7 rfl (lv_at hl 2 rfl) ?_
    refine lv_iconst (v := 0) hx hb dX8_horses_8 (by decide) ?_
    refine lv_iconst (v := 2) hx hb dX8_horses_9 (by decide) ?_
    obtain ⟨v3, h4, hm⟩ := bind_e hm
    refine sX8_138 C h4 hw hS hl.1 (Nat.le_of_ble_eq_true rfl) (Nat.le_trans (Nat.le_of_ble_eq_true rfl) hRf) (Nat.le_trans (Nat.le_of_ble_eq_true rfl) hRl) hcs dX8_horses_10 (fun H locs hw hS => ?_)
    refine x_ifeqB hx hb dX8_horses_13 (tgt := 27) (by decide) (fun cc => ?_) (fun cc => ?_)
    · replace hm := ite_n cc hm
      refine lv_bipush (v := (-2)) hx hb dX8_horses_27 (by decide) ?_
      refine W.widen (k := 11) (n := 66) (Nat.le_of_ble_eq_true rfl) (Nat.le_of_ble_eq_true rfl) ?_
      obtain ⟨rfl, rfl⟩ := inj2 hm
      exact xret_i C hw hS dX8_horses_29
    · replace hm := ite_p cc hm
      refine lv_iload hx hb dX8_horses_16 (lv_at hl 4 rfl) ?_
      refine lv_iconst (v := 0) hx hb dX8_horses_18 (by decide) ?_
      refine lv_bipush (v := 10) hx hb dX8_horses_19 (by decide) ?_
      obtain ⟨v5, h6, hm⟩ := bind_e hm
      refine sX8_138 C h6 hw hS hl.1 (Nat.le_of_ble_eq_true rfl) (Nat.le_trans (Nat.le_of_ble_eq_true rfl) hRf) (Nat.le_trans (Nat.le_of_ble_eq_true rfl) hRl) hcs dX8_horses_21 (fun H locs hw hS => ?_)
      refine x_ifneB hx hb dX8_horses_24 (tgt := 30) (by decide) (fun cc => ?_) (fun cc => ?_)
      · replace hm := ite_p cc hm
        refine lv_aload_n hx hb dX8_horses_30 rfl (lv_at hl 0 rfl) ?_
        refine gX8_65 C hw dX8_horses_31 ?_
        refine lv_iload_n hx hb dX8_horses_34 rfl (lv_at hl 1 rfl) ?_
        obtain ⟨h7, hm⟩ := chk_e hm
        refine alX_10 C hw h7 dX8_horses_35 ?_
        refine topR hm (fun e8 hm => ?_)
        refine x_astoreq (lv' := [(5, va_rf e8), (0, .ref β), (1, .int a1), (2, .int a2), (3, .int a3), (4, .int a4)]) hx hb dX8_horses_36 hl (by decide) rfl (fun ls hl => ?_)
        refine x_aloadq hx hb dX8_horses_38 (lv_at hl 0 rfl) ?_
        rcases e8 with _ | p9
        · replace hm := oc_n hm
          refine lv_ifnonnullN hx hb dX8_horses_40 ?_
          refine lv_bipush (v := (-11)) hx hb dX8_horses_43 (by decide) ?_
          refine W.widen (k := 11) (n := 66) (Nat.le_of_ble_eq_true rfl) (Nat.le_of_ble_eq_true rfl) ?_
          obtain ⟨rfl, rfl⟩ := inj2 hm
          exact xret_i C hw hS dX8_horses_45
        · replace hm := oc_s hm
          refine lv_ifnonnull (tgt := 46) hx hb dX8_horses_40 (by decide) ?_
          refine lv_aload hx hb dX8_horses_46 (lv_at hl 0 rfl) ?_
          obtain ⟨v10, h11, hm⟩ := bind_e hm
          refine gdX8_342 C h11 hw dX8_horses_48 ?_
          refine lv_iload_n hx hb dX8_horses_51 rfl (lv_at hl 3 rfl) ?_
          refine lv_icmp_eq (tgt := 58) hx hb dX8_horses_52 (by decide) (fun cc => ?_) (fun cc => ?_)
          · replace hm := ite_p cc hm
            refine lv_iconst (v := 0) hx hb dX8_horses_58 (by decide) ?_
            refine lv_istore (lv' := [(6, .int 0), (5, .ref p9), (0, .ref β), (1, .int a1), (2, .int a2), (3, .int a3), (4, .int a4)]) hx hb dX8_horses_59 hl (by decide) rfl (fun ls hl => ?_)
            refine lv_iload_n hx hb dX8_horses_61 rfl (lv_at hl 5 rfl) ?_
            refine lv_istore (lv' := [(7, .int a3), (6, .int 0), (5, .ref p9), (0, .ref β), (1, .int a1), (2, .int a2), (3, .int a3), (4, .int a4)]) hx hb dX8_horses_62 hl (by decide) rfl (fun ls hl => ?_)
            refine lv_iconst (v := 0) hx hb dX8_horses_64 (by decide) ?_
            refine lv_istore (lv' := [(8, .int 0), (7, .int a3), (6, .int 0), (5, .ref p9), (0, .ref β), (1, .int a1), (2, .int a2), (3, .int a3), (4, .int a4)]) hx hb dX8_horses_65 hl (by decide) rfl (fun ls hl => ?_)
            rcases bs_e hm with ⟨a, hj, hm⟩ | ⟨b, hj, hm⟩
            · refine lX8_horses_67 C hRf hRl ⟨Nat.le_of_ble_eq_true rfl, Nat.le_of_ble_eq_true rfl⟩ hn hf a4 p9 11 0 0 ⟨Nat.le_of_ble_eq_true rfl, Nat.le_of_ble_eq_true rfl⟩ _ _ _ _ _ _ _ _ hj hw hS (lv_sub hl [4, 8, 3, 2, 1, 0] rfl) (fun _ _ e0 => by cases e0) (fun rv x1 e0 H locs ls hw hS => ?_)
              · cases e0
                obtain ⟨rfl, rfl⟩ := inj2 hm
                exact xret_i C hw hS dX8_horses_87
            · obtain ⟨v35, x36, e1, hm⟩ := bind2_e hm
              cases e1
              refine lX8_horses_67 C hRf hRl ⟨Nat.le_of_ble_eq_true rfl, Nat.le_of_ble_eq_true rfl⟩ hn hf a4 p9 11 0 0 ⟨Nat.le_of_ble_eq_true rfl, Nat.le_of_ble_eq_true rfl⟩ _ _ _ _ _ _ _ _ hj hw hS (lv_sub hl [4, 8, 3, 2, 1, 0] rfl) (fun v35_ x36_ e0 H locs ls hw hS hl => ?_) (fun _ _ e0 => by cases e0)
              cases e0
              refine lv_iload hx hb dX8_horses_135 (lv_at hl 0 rfl) ?_
              obtain ⟨rfl, rfl⟩ := inj2 hm
              exact xret_i C hw hS dX8_horses_137
          · replace hm := ite_n cc hm
            refine lv_bipush (v := (-13)) hx hb dX8_horses_55 (by decide) ?_
            refine W.widen (k := 11) (n := 66) (Nat.le_of_ble_eq_true rfl) (Nat.le_of_ble_eq_true rfl) ?_
            obtain ⟨rfl, rfl⟩ := inj2 hm
            exact xret_i C hw hS dX8_horses_57
      · replace hm := ite_n cc hm
        refine lv_bipush (v := (-2)) hx hb dX8_horses_27 (by decide) ?_
        refine W.widen (k := 11) (n := 66) (Nat.le_of_ble_eq_true rfl) (Nat.le_of_ble_eq_true rfl) ?_
        obtain ⟨rfl, rfl⟩ := inj2 hm
        exact xret_i C hw hS dX8_horses_29
