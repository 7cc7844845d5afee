theorem dX8_pairsAgainst_0 : decode cX8_pairsAgainst 0 = .ok (.iconst 0, 1) := by decide +kernel
theorem dX8_pairsAgainst_1 : decode cX8_pairsAgainst 1 = .ok (.istore_n 3, 1) := by decide +kernel
theorem dX8_pairsAgainst_2 : decode cX8_pairsAgainst 2 = .ok (.iconst 0, 1) := by decide +kernel
theorem dX8_pairsAgainst_3 : decode cX8_pairsAgainst 3 = .ok (.istore 4, 2) := by decide +kernel
theorem dX8_pairsAgainst_5 : decode cX8_pairsAgainst 5 = .ok (.iload 4, 2) := by decide +kernel
theorem dX8_pairsAgainst_7 : decode cX8_pairsAgainst 7 = .ok (.aload_n 0, 1) := by decide +kernel
theorem dX8_pairsAgainst_8 : decode cX8_pairsAgainst 8 = .ok (.getfield 32, 3) := by decide +kernel
theorem dX8_pairsAgainst_11 : decode cX8_pairsAgainst 11 = .ok (.if_icmp .ge 41, 3) := by decide +kernel
theorem dX8_pairsAgainst_14 : decode cX8_pairsAgainst 14 = .ok (.aload_n 0, 1) := by decide +kernel
theorem dX8_pairsAgainst_15 : decode cX8_pairsAgainst 15 = .ok (.iload 4, 2) := by decide +kernel
theorem dX8_pairsAgainst_17 : decode cX8_pairsAgainst 17 = .ok (.invokevirtual 265, 3) := by decide +kernel
theorem dX8_pairsAgainst_20 : decode cX8_pairsAgainst 20 = .ok (.astore 5, 2) := by decide +kernel
theorem dX8_pairsAgainst_22 : decode cX8_pairsAgainst 22 = .ok (.aload 5, 2) := by decide +kernel
theorem dX8_pairsAgainst_24 : decode cX8_pairsAgainst 24 = .ok (.ifnull 22, 3) := by decide +kernel
theorem dX8_pairsAgainst_27 : decode cX8_pairsAgainst 27 = .ok (.aload 5, 2) := by decide +kernel
theorem dX8_pairsAgainst_29 : decode cX8_pairsAgainst 29 = .ok (.getfield 269, 3) := by decide +kernel
theorem dX8_pairsAgainst_32 : decode cX8_pairsAgainst 32 = .ok (.iload_n 1, 1) := by decide +kernel
theorem dX8_pairsAgainst_33 : decode cX8_pairsAgainst 33 = .ok (.if_icmp .ne 13, 3) := by decide +kernel
theorem dX8_pairsAgainst_36 : decode cX8_pairsAgainst 36 = .ok (.iload_n 3, 1) := by decide +kernel
theorem dX8_pairsAgainst_37 : decode cX8_pairsAgainst 37 = .ok (.aload_n 0, 1) := by decide +kernel
theorem dX8_pairsAgainst_38 : decode cX8_pairsAgainst 38 = .ok (.aload 5, 2) := by decide +kernel
theorem dX8_pairsAgainst_40 : decode cX8_pairsAgainst 40 = .ok (.iload_n 2, 1) := by decide +kernel
theorem dX8_pairsAgainst_41 : decode cX8_pairsAgainst 41 = .ok (.invokevirtual 406, 3) := by decide +kernel
theorem dX8_pairsAgainst_44 : decode cX8_pairsAgainst 44 = .ok (.iadd, 1) := by decide +kernel
theorem dX8_pairsAgainst_45 : decode cX8_pairsAgainst 45 = .ok (.istore_n 3, 1) := by decide +kernel
theorem dX8_pairsAgainst_46 : decode cX8_pairsAgainst 46 = .ok (.iinc 4 1, 3) := by decide +kernel
theorem dX8_pairsAgainst_49 : decode cX8_pairsAgainst 49 = .ok (.goto (-44), 3) := by decide +kernel
theorem dX8_pairsAgainst_52 : decode cX8_pairsAgainst 52 = .ok (.iload_n 3, 1) := by decide +kernel
theorem dX8_pairsAgainst_53 : decode cX8_pairsAgainst 53 = .ok (.ireturn, 1) := by decide +kernel
theorem sX8_406 {p : Program} {l : Launch} {e : Env} {R : Room} {s : State} {m : MethodId} {args : Array Value} {below : List Frame} {meth : Method} {c : Code} {H : Heap} {locs : List Loc} {cells slots : Nat} {Q : State → Prop} {cc : ByteArray} {pc nL : Nat} {ls : Array Slot} {rest : List Value} {ret : Option FieldType}  {G : xG} {β : Nat} {D : Nat → Prop} {x : XS} {a1 : Option Nat} {a2 : Int32} {r : Int32} (C : Cx p s m args meth c RX8 cc nL ret (KK G)) (h : fX8_pairsAgainstIn x a1 a2 = some r) (hw : CW β D G x H) (hS : va_S D s.heap H locs) (hsz : ls.size = nL) (hW : (rest.map fun v => v.category).sum ≤ 8) (hR : 5 ≤ R.frames) (hR2 : 114 ≤ R.locals) (hcs : cells ≤ R.cells ∧ slots ≤ R.slots) (hd : decode cc pc = .ok (.invokevirtual 406, 3)) (kk : ∀ (H1 : Heap) (locs1 : List Loc), CW β D G x H1 → va_S D s.heap H1 locs1 → W p l e R s m args below meth c H1 locs1 cells slots Q (F0 m (pc + 3) ls (.int r :: rest))) : W p l e R s m args below meth c H locs cells slots Q (F0 m pc ls (.int a2 :: va_rf a1 :: .ref β :: rest)) := by
  exact xcallV C (As := [va_rf a1, .int a2]) (rest := rest) (nA := 2) (ci := 8) (kX8_pairsAgainstIn h) (tg 767 (by decide +kernel) rfl) (tg 769 (by decide +kernel) rfl) (sg (List.mem_of_getElem? (i := 45) (by decide +kernel)) rfl) (tg 1 (by decide +kernel) rfl) (tg 770 (by decide +kernel) rfl) ⟨rfl, by decide +kernel, by decide +kernel, by decide +kernel⟩ rfl rfl rfl ⟨hR, hR2⟩ (hw.2.2.1 0 (by decide)) hw hS (fun _ q => q) rfl rfl hsz hW hd hcs (fun H1 locs1 hw hz hk hS => kk H1 locs1 hw hS)
def BX8_pairsAgainst_5 (x : XS) (q1 : Int32) (q2 : Int32) (lp : Int32 → Int32 → Option (Int32)) (u3 : Int32) (u4 : Int32) : Option (Int32) := if (x.1 0 5) ≤ u4 then some u3 else Option.bind (fX8_raceAt x u4) fun v1 => oc v1 (lt (u4 + 1) fun v4 => lp u3 v4) (fun p3 => Option.bind (dI x p3 3 0) fun v5 => if v5 = q1 then Option.bind (fX8_pairsAgainstIn x (some p3) q2) fun v8 => lt (u3 + v8) fun v10 => lt (u4 + 1) fun v11 => lp v10 v11 else lt (u4 + 1) fun v7 => lp u3 v7)
def LX8_pairsAgainst_5 (x : XS) (q1 : Int32) (q2 : Int32) : Nat → Int32 → Int32 → Option (Int32)
  | 0, _, _ => none
  | n + 1, u3, u4 => BX8_pairsAgainst_5 x q1 q2 (LX8_pairsAgainst_5 x q1 q2 n) u3 u4
def fX8_pairsAgainst (x : XS) (a1 : Int32) (a2 : Int32) : Option (Int32) := Option.bind (LX8_pairsAgainst_5 x a1 a2 NF 0 0) fun v12 => some v12
set_option maxHeartbeats 4000000 in
set_option maxRecDepth 100000 in
theorem lX8_pairsAgainst_5 {p : Program} {l : Launch} {e : Env} {R : Room} {s : State} {m : MethodId} {args : Array Value} {below : List Frame} {meth : Method} {c : Code} {cells slots : Nat} {Q : State → Prop} {G : xG} {β : Nat} {D : Nat → Prop} (C : Cx p s m args meth c RX8 cX8_pairsAgainst 6 (some .int) (KK G)) (hRf : 5 ≤ R.frames) (hRl : 114 ≤ R.locals) (hcs : cells ≤ R.cells ∧ slots ≤ R.slots) (hf : Fz D G s.heap) (x : XS) (q1 : Int32) (q2 : Int32) : ∀ (n : Nat) (u3 : Int32) (u4 : Int32) (J : Int32) (H : Heap) (locs : List Loc) (ls : Array Slot), LX8_pairsAgainst_5 x q1 q2 n u3 u4 = some J → CW β D G x H → va_S D s.heap H locs → lv_has ls 6 [(0, .ref β), (1, .int q1), (2, .int q2), (3, .int u3), (4, .int u4)] → (∀ (w3 : Int32), J = w3 → ∀ (H : Heap) (locs : List Loc) (ls : Array Slot), CW β D G x H → va_S D s.heap H locs → lv_has ls 6 [(3, .int w3)] → W p l e R s m args below meth c H locs cells slots Q (F0 m 52 ls [])) → W p l e R s m args below meth c H locs cells slots Q (F0 m 5 ls []) := by
  have hx := C.1
  have hb := C.2.1
  have ho := C.2.2.2.1
  have hts := C.2.2.2.2.1
  intro n
  induction n with
  | zero =>
    intro u3 u4 J H locs ls hm
    exact absurd hm (by simp [LX8_pairsAgainst_5])
  | succ n ih =>
    intro u3 u4 J H locs ls hm hw hS hl ke
    replace hm : BX8_pairsAgainst_5 x q1 q2 (LX8_pairsAgainst_5 x q1 q2 n) u3 u4 = some J := hm
    unfold BX8_pairsAgainst_5 at hm
    refine lv_iload hx hb dX8_pairsAgainst_5 (lv_at hl 4 rfl) ?_
    refine lv_aload_n hx hb dX8_pairsAgainst_7 rfl (lv_at hl 0 rfl) ?_
    refine gX8_32 C hw dX8_pairsAgainst_8 ?_
    refine lv_icmp_ge (tgt := 52) hx hb dX8_pairsAgainst_11 (by decide) (fun cc => ?_) (fun cc => ?_)
    · replace hm := ite_p cc hm
      exact ke _ (Option.some.inj hm).symm _ _ _ hw hS (lv_sub hl [3] rfl)
    · replace hm := ite_n cc hm
      refine lv_aload_n hx hb dX8_pairsAgainst_14 rfl (lv_at hl 0 rfl) ?_
      refine lv_iload hx hb dX8_pairsAgainst_15 (lv_at hl 4 rfl) ?_
      obtain ⟨v1, h2, hm⟩ := bind_e hm
      refine sX8_265 C h2 hw hS hl.1 (Nat.le_of_ble_eq_true rfl) (Nat.le_trans (Nat.le_of_ble_eq_true rfl) hRf) (Nat.le_trans (Nat.le_of_ble_eq_true rfl) hRl) hcs dX8_pairsAgainst_17 (fun H locs hw hS => ?_)
      refine x_astoreq (lv' := [(5, va_rf v1), (0, .ref β), (1, .int q1), (2, .int q2), (3, .int u3), (4, .int u4)]) hx hb dX8_pairsAgainst_20 hl (by decide) rfl (fun ls hl => ?_)
      refine x_aloadq hx hb dX8_pairsAgainst_22 (lv_at hl 0 rfl) ?_
      rcases v1 with _ | p3
      · replace hm := oc_n hm
        refine lv_ifnullN (tgt := 46) hx hb dX8_pairsAgainst_24 (by decide) ?_
        obtain ⟨v4, ev, hm⟩ := lt_e hm
        refine lv_iinc (v := v4) (lv' := [(4, .int v4), (5, .null), (0, .ref β), (1, .int q1), (2, .int q2), (3, .int u3)]) hx hb dX8_pairsAgainst_46 hl (k := 5) rfl (by rw [ev]; rfl) (by decide) rfl (fun ls hl => ?_)
        clear ev
        refine lv_goto (tgt := 5) hx hb dX8_pairsAgainst_49 (by decide) ?_
        exact ih _ _ _ _ _ _ hm hw hS (lv_sub hl [2, 3, 4, 5, 0] rfl) ke
      · replace hm := oc_s hm
        refine lv_ifnull hx hb dX8_pairsAgainst_24 ?_
        refine lv_aload hx hb dX8_pairsAgainst_27 (lv_at hl 0 rfl) ?_
        obtain ⟨v5, h6, hm⟩ := bind_e hm
        refine gdX8_269 C h6 hw dX8_pairsAgainst_29 ?_
        refine lv_iload_n hx hb dX8_pairsAgainst_32 rfl (lv_at hl 2 rfl) ?_
        refine lv_icmp_ne (tgt := 46) hx hb dX8_pairsAgainst_33 (by decide) (fun cc => ?_) (fun cc => ?_)
        · replace hm := ite_n cc hm
          obtain ⟨v7, ev, hm⟩ := lt_e hm
          refine lv_iinc (v := v7) (lv' := [(4, .int v7), (5, .ref p3), (0, .ref β), (1, .int q1), (2, .int q2), (3, .int u3)]) hx hb dX8_pairsAgainst_46 hl (k := 5) rfl (by rw [ev]; rfl) (by decide) rfl (fun ls hl => ?_)
          clear ev
          refine lv_goto (tgt := 5) hx hb dX8_pairsAgainst_49 (by decide) ?_
          exact ih _ _ _ _ _ _ hm hw hS (lv_sub hl [2, 3, 4, 5, 0] rfl) ke
        · replace hm := ite_p cc hm
          refine lv_iload_n hx hb dX8_pairsAgainst_36 rfl (lv_at hl 4 rfl) ?_
          refine lv_aload_n hx hb dX8_pairsAgainst_37 rfl (lv_at hl 1 rfl) ?_
          refine lv_aload hx hb dX8_pairsAgainst_38 (lv_at hl 0 rfl) ?_
          refine lv_iload_n hx hb dX8_pairsAgainst_40 rfl (lv_at hl 3 rfl) ?_
          obtain ⟨v8, h9, hm⟩ := bind_e hm
          refine sX8_406 (a1 := (some p3)) (a2 := q2) C h9 hw hS hl.1 (Nat.le_of_ble_eq_true rfl) (Nat.le_trans (Nat.le_of_ble_eq_true rfl) hRf) (Nat.le_trans (Nat.le_of_ble_eq_true rfl) hRl) hcs dX8_pairsAgainst_41 (fun H locs hw hS => ?_)
          refine lv_iadd hx hb dX8_pairsAgainst_44 ?_
          refine topI hm (fun v10 hm => ?_)
          refine lv_istore_n (lv' := [(3, .int v10), (5, .ref p3), (0, .ref β), (1, .int q1), (2, .int q2), (4, .int u4)]) hx hb dX8_pairsAgainst_45 rfl hl (by decide) rfl (fun ls hl => ?_)
          obtain ⟨v11, ev, hm⟩ := lt_e hm
          refine lv_iinc (v := v11) (lv' := [(4, .int v11), (3, .int v10), (5, .ref p3), (0, .ref β), (1, .int q1), (2, .int q2)]) hx hb dX8_pairsAgainst_46 hl (k := 5) rfl (by rw [ev]; rfl) (by decide) rfl (fun ls hl => ?_)
          clear ev
          refine lv_goto (tgt := 5) hx hb dX8_pairsAgainst_49 (by decide) ?_
          exact ih _ _ _ _ _ _ hm hw hS (lv_sub hl [3, 4, 5, 1, 0] rfl) ke
abbrev rmX8_pairsAgainst : Room := { frames := 5, cells := 0, slots := 0, locals := 114 }
set_option maxHeartbeats 4000000 in
set_option maxRecDepth 100000 in
theorem kX8_pairsAgainst {l : Launch} {G : xG} {β : Nat} {D : Nat → Prop} {x : XS} {a1 : Int32} {a2 : Int32} {r : Int32} (hm : fX8_pairsAgainst x a1 a2 = some r) : Met l yX8_pairsAgainst (.code yX8_pairsAgainst cX8_pairsAgainst 6 (some .int) :: GT) rmX8_pairsAgainst (PcW [.ref β, .int a1, .int a2] (CW β D G x) (KK G)) (QcW D (some (.int r)) (CW β D G x)) 0 0 D := by
  unfold fX8_pairsAgainst at hm
  refine xpro (own := RX8) (by decide +kernel) rfl (Nat.le_of_ble_eq_true rfl) ?_
  intro p e s m args below meth c C hw ls hl
  have hx := C.1
  have hb := C.2.1
  have ho := C.2.2.2.1
  have hts := C.2.2.2.2.1
  have hf : Fz D G s.heap := hw.2.2.2.2
  have hS : va_S D s.heap s.heap [] := va_S.rf
  have hl : lv_has ls 6 [(0, .ref β), (1, .int a1), (2, .int a2)] := hl
  have hRf : 5 ≤ rmX8_pairsAgainst.frames := Nat.le_refl _
  have hRl : 114 ≤ rmX8_pairsAgainst.locals := Nat.le_refl _
  have hcs : 0 ≤ rmX8_pairsAgainst.cells ∧ 0 ≤ rmX8_pairsAgainst.slots := ⟨Nat.le_refl _, Nat.le_refl _⟩
  refine lv_iconst (v := 0) hx hb dX8_pairsAgainst_0 (by decide) ?_
  refine lv_istore_n (lv' := [(3, .int 0), (0, .ref β), (1, .int a1), (2, .int a2)]) hx hb dX8_pairsAgainst_1 rfl hl (by decide) rfl (fun ls hl => ?_)
  refine lv_iconst (v := 0) hx hb dX8_pairsAgainst_2 (by decide) ?_
  refine lv_istore (lv' := [(4, .int 0), (3, .int 0), (0, .ref β), (1, .int a1), (2, .int a2)]) hx hb dX8_pairsAgainst_3 hl (by decide) rfl (fun ls hl => ?_)
  obtain ⟨v12, hj, hm⟩ := bind_e hm
  refine lX8_pairsAgainst_5 C hRf hRl hcs hf x a1 a2 NF _ _ _ _ _ _ hj hw hS (lv_sub hl [2, 3, 4, 1, 0] rfl) (fun v12_ e0 H locs ls hw hS hl => ?_)
  cases e0
  refine lv_iload_n hx hb dX8_pairsAgainst_52 rfl (lv_at hl 0 rfl) ?_
  obtain rfl := Option.some.inj hm
  exact xret_i C hw hS dX8_pairsAgainst_53
theorem dX8_against_0 : decode cX8_against 0 = .ok (.iload_n 1, 1) := by decide +kernel
theorem dX8_against_1 : decode cX8_against 1 = .ok (.invokestatic 150, 3) := by decide +kernel
theorem dX8_against_4 : decode cX8_against 4 = .ok (.ifCond .eq 13, 3) := by decide +kernel
theorem dX8_against_7 : decode cX8_against 7 = .ok (.iload_n 2, 1) := by decide +kernel
theorem dX8_against_8 : decode cX8_against 8 = .ok (.iconst 0, 1) := by decide +kernel
theorem dX8_against_9 : decode cX8_against 9 = .ok (.bipush 9, 2) := by decide +kernel
theorem dX8_against_11 : decode cX8_against 11 = .ok (.invokestatic 138, 3) := by decide +kernel
theorem dX8_against_14 : decode cX8_against 14 = .ok (.ifCond .ne 6, 3) := by decide +kernel
theorem dX8_against_17 : decode cX8_against 17 = .ok (.bipush (-2), 2) := by decide +kernel
theorem dX8_against_19 : decode cX8_against 19 = .ok (.ireturn, 1) := by decide +kernel
theorem dX8_against_20 : decode cX8_against 20 = .ok (.aload_n 0, 1) := by decide +kernel
theorem dX8_against_21 : decode cX8_against 21 = .ok (.iload_n 1, 1) := by decide +kernel
theorem dX8_against_22 : decode cX8_against 22 = .ok (.iload_n 2, 1) := by decide +kernel
theorem dX8_against_23 : decode cX8_against 23 = .ok (.invokevirtual 276, 3) := by decide +kernel
theorem dX8_against_26 : decode cX8_against 26 = .ok (.ireturn, 1) := by decide +kernel
theorem sX8_276 {p : Program} {l : Launch} {e : Env} {R : Room} {s : State} {m : MethodId} {args : Array Value} {below : List Frame} {meth : Method} {c : Code} {H : Heap} {locs : List Loc} {cells slots : Nat} {Q : State → Prop} {cc : ByteArray} {pc nL : Nat} {ls : Array Slot} {rest : List Value} {ret : Option FieldType}  {G : xG} {β : Nat} {D : Nat → Prop} {x : XS} {a1 : Int32} {a2 : Int32} {r : Int32} (C : Cx p s m args meth c RX8 cc nL ret (KK G)) (h : fX8_pairsAgainst x a1 a2 = some r) (hw : CW β D G x H) (hS : va_S D s.heap H locs) (hsz : ls.size = nL) (hW : (rest.map fun v => v.category).sum ≤ 8) (hR : 6 ≤ R.frames) (hR2 : 139 ≤ R.locals) (hcs : cells ≤ R.cells ∧ slots ≤ R.slots) (hd : decode cc pc = .ok (.invokevirtual 276, 3)) (kk : ∀ (H1 : Heap) (locs1 : List Loc), CW β D G x H1 → va_S D s.heap H1 locs1 → W p l e R s m args below meth c H1 locs1 cells slots Q (F0 m (pc + 3) ls (.int r :: rest))) : W p l e R s m args below meth c H locs cells slots Q (F0 m pc ls (.int a2 :: .int a1 :: .ref β :: rest)) := by
  exact xcallV C (As := [.int a1, .int a2]) (rest := rest) (nA := 2) (ci := 8) (kX8_pairsAgainst h) (tg 763 (by decide +kernel) rfl) (tg 765 (by decide +kernel) rfl) (sg (List.mem_of_getElem? (i := 44) (by decide +kernel)) rfl) (tg 1 (by decide +kernel) rfl) (tg 766 (by decide +kernel) rfl) ⟨rfl, by decide +kernel, by decide +kernel, by decide +kernel⟩ rfl rfl rfl ⟨hR, hR2⟩ (hw.2.2.1 0 (by decide)) hw hS (fun _ q => q) rfl rfl hsz hW hd hcs (fun H1 locs1 hw hz hk hS => kk H1 locs1 hw hS)
def fX8_against (x : XS) (a1 : Int32) (a2 : Int32) : Option (Int32) := Option.bind (fX8_isGround a1) fun v1 => if v1 = true then Option.bind (fX8_isWithin a2 0 9) fun v3 => if v3 = true then Option.bind (fX8_pairsAgainst x a1 a2) fun v5 => some v5 else some (-2) else some (-2)
abbrev rmX8_against : Room := { frames := 6, cells := 0, slots := 0, locals := 139 }
set_option maxHeartbeats 4000000 in
set_option maxRecDepth 100000 in
theorem kX8_against {l : Launch} {G : xG} {β : Nat} {D : Nat → Prop} {x : XS} {a1 : Int32} {a2 : Int32} {r : Int32} (hm : fX8_against x a1 a2 = some r) : Met l yX8_against (.code yX8_against cX8_against 3 (some .int) :: GT) rmX8_against (PcW [.ref β, .int a1, .int a2] (CW β D G x) (KK G)) (QcW D (some (.int r)) (CW β D G x)) 0 0 D := by
  unfold fX8_against at hm
  refine xpro (own := RX8) (by decide +kernel) rfl (Nat.le_of_ble_eq_true rfl) ?_
  intro p e s m args below meth c C hw ls hl
  have hx := C.1
  have hb := C.2.1
  have ho := C.2.2.2.1
  have hts := C.2.2.2.2.1
  have hf : Fz D G s.heap := hw.2.2.2.2
  have hS : va_S D s.heap s.heap [] := va_S.rf
  have hl : lv_has ls 3 [(0, .ref β), (1, .int a1), (2, .int a2)] := hl
  have hRf : 6 ≤ rmX8_against.frames := Nat.le_refl _
  have hRl : 139 ≤ rmX8_against.locals := Nat.le_refl _
  have hcs : 0 ≤ rmX8_against.cells ∧ 0 ≤ rmX8_against.slots := ⟨Nat.le_refl _, Nat.le_refl _⟩
  refine lv_iload_n hx hb dX8_against_0 rfl (lv_at hl 1 rfl) ?_
  obtain ⟨v1, h2, hm⟩ := bind_e hm
  refine sX8_150 C h2 hw hS hl.1 (Nat.le_of_ble_eq_true rfl) (Nat.le_trans (Nat.le_of_ble_eq_true rfl) hRf) (Nat.le_trans (Nat.le_of_ble_eq_true rfl) hRl) hcs dX8_against_1 (fun H locs hw hS => ?_)
  refine x_ifeqB hx hb dX8_against_4 (tgt := 17) (by decide) (fun cc => ?_) (fun cc => ?_)
  · replace hm := ite_n cc hm
    refine lv_bipush (v := (-2)) hx hb dX8_against_17 (by decide) ?_
    obtain rfl := Option.some.inj hm
    exact xret_i C hw hS dX8_against_19
  · replace hm := ite_p cc hm
    refine lv_iload_n hx hb dX8_against_7 rfl (lv_at hl 2 rfl) ?_
    refine lv_iconst (v := 0) hx hb dX8_against_8 (by decide) ?_
    refine lv_bipush (v := 9) hx hb dX8_against_9 (by decide) ?_
    obtain ⟨v3, h4, hm⟩ := bind_e hm
    refine sX8_138 C h4 hw hS hl.1 (Nat.le_of_ble_eq_true rfl) (Nat.le_trans (Nat.le_of_ble_eq_true rfl) hRf) (Nat.le_trans (Nat.le_of_ble_eq_true rfl) hRl) hcs dX8_against_11 (fun H locs hw hS => ?_)
    refine x_ifneB hx hb dX8_against_14 (tgt := 20) (by decide) (fun cc => ?_) (fun cc => ?_)
    · replace hm := ite_p cc hm
      refine lv_aload_n hx hb dX8_against_20 rfl (lv_at hl 0 rfl) ?_
      refine lv_iload_n hx hb dX8_against_21 rfl (lv_at hl 1 rfl) ?_
      refine lv_iload_n hx hb dX8_against_22 rfl (lv_at hl 2 rfl) ?_
      obtain ⟨v5, h6, hm⟩ := bind_e hm
      refine sX8_276 C h6 hw hS hl.1 (Nat.le_of_ble_eq_true rfl) (Nat.le_trans (Nat.le_of_ble_eq_true rfl) hRf) (Nat.le_trans (Nat.le_of_ble_eq_true rfl) hRl) hcs dX8_against_23 (fun H locs hw hS => ?_)
      obtain rfl := Option.some.inj hm
      exact xret_i C hw hS dX8_against_26
    · replace hm := ite_n cc hm
      refine lv_bipush (v := (-2)) hx hb dX8_against_17 (by decide) ?_
      obtain rfl := Option.some.inj hm
      exact xret_i C hw hS dX8_against_19
theorem dX8_learnt_0 : decode cX8_learnt 0 = .ok (.iload_n 1, 1) := by decide +kernel
theorem dX8_learnt_1 : decode cX8_learnt 1 = .ok (.invokestatic 150, 3) := by decide +kernel
theorem dX8_learnt_4 : decode cX8_learnt 4 = .ok (.ifCond .ne 6, 3) := by decide +kernel
theorem dX8_learnt_7 : decode cX8_learnt 7 = .ok (.bipush (-2), 2) := by decide +kernel
theorem dX8_learnt_9 : decode cX8_learnt 9 = .ok (.ireturn, 1) := by decide +kernel
theorem dX8_learnt_10 : decode cX8_learnt 10 = .ok (.iconst 0, 1) := by decide +kernel
theorem dX8_learnt_11 : decode cX8_learnt 11 = .ok (.istore_n 2, 1) := by decide +kernel
theorem dX8_learnt_12 : decode cX8_learnt 12 = .ok (.aload_n 0, 1) := by decide +kernel
theorem dX8_learnt_13 : decode cX8_learnt 13 = .ok (.iload_n 1, 1) := by decide +kernel
theorem dX8_learnt_14 : decode cX8_learnt 14 = .ok (.iconst 0, 1) := by decide +kernel
theorem dX8_learnt_15 : decode cX8_learnt 15 = .ok (.invokevirtual 276, 3) := by decide +kernel
theorem dX8_learnt_18 : decode cX8_learnt 18 = .ok (.istore_n 3, 1) := by decide +kernel
theorem dX8_learnt_19 : decode cX8_learnt 19 = .ok (.iconst 1, 1) := by decide +kernel
theorem dX8_learnt_20 : decode cX8_learnt 20 = .ok (.istore 4, 2) := by decide +kernel
theorem dX8_learnt_22 : decode cX8_learnt 22 = .ok (.iload 4, 2) := by decide +kernel
theorem dX8_learnt_24 : decode cX8_learnt 24 = .ok (.bipush 9, 2) := by decide +kernel
theorem dX8_learnt_26 : decode cX8_learnt 26 = .ok (.if_icmp .gt 30, 3) := by decide +kernel
theorem dX8_learnt_29 : decode cX8_learnt 29 = .ok (.aload_n 0, 1) := by decide +kernel
theorem dX8_learnt_30 : decode cX8_learnt 30 = .ok (.iload_n 1, 1) := by decide +kernel
theorem dX8_learnt_31 : decode cX8_learnt 31 = .ok (.iload 4, 2) := by decide +kernel
theorem dX8_learnt_33 : decode cX8_learnt 33 = .ok (.invokevirtual 276, 3) := by decide +kernel
theorem dX8_learnt_36 : decode cX8_learnt 36 = .ok (.istore 5, 2) := by decide +kernel
theorem dX8_learnt_38 : decode cX8_learnt 38 = .ok (.iload 5, 2) := by decide +kernel
theorem dX8_learnt_40 : decode cX8_learnt 40 = .ok (.iload_n 3, 1) := by decide +kernel
theorem dX8_learnt_41 : decode cX8_learnt 41 = .ok (.if_icmp .ge 9, 3) := by decide +kernel
theorem dX8_learnt_44 : decode cX8_learnt 44 = .ok (.iload 5, 2) := by decide +kernel
theorem dX8_learnt_46 : decode cX8_learnt 46 = .ok (.istore_n 3, 1) := by decide +kernel
theorem dX8_learnt_47 : decode cX8_learnt 47 = .ok (.iload 4, 2) := by decide +kernel
theorem dX8_learnt_49 : decode cX8_learnt 49 = .ok (.istore_n 2, 1) := by decide +kernel
theorem dX8_learnt_50 : decode cX8_learnt 50 = .ok (.iinc 4 1, 3) := by decide +kernel
theorem dX8_learnt_53 : decode cX8_learnt 53 = .ok (.goto (-31), 3) := by decide +kernel
theorem dX8_learnt_56 : decode cX8_learnt 56 = .ok (.iload_n 2, 1) := by decide +kernel
theorem dX8_learnt_57 : decode cX8_learnt 57 = .ok (.ireturn, 1) := by decide +kernel
def BX8_learnt_22 (x : XS) (q1 : Int32) (lp : Int32 → Int32 → Int32 → Option (Int32)) (u2 : Int32) (u3 : Int32) (u4 : Int32) : Option (Int32) := if 9 < u4 then some u2 else Option.bind (fX8_pairsAgainst x q1 u4) fun v5 => if u3 ≤ v5 then lt (u4 + 1) fun v7 => lp u2 u3 v7 else lt (u4 + 1) fun v8 => lp u4 v5 v8
def LX8_learnt_22 (x : XS) (q1 : Int32) : Nat → Int32 → Int32 → Int32 → Option (Int32)
  | 0, _, _, _ => none
  | n + 1, u2, u3, u4 => BX8_learnt_22 x q1 (LX8_learnt_22 x q1 n) u2 u3 u4
def fX8_learnt (x : XS) (a1 : Int32) : Option (Int32) := Option.bind (fX8_isGround a1) fun v1 => if v1 = true then Option.bind (fX8_pairsAgainst x a1 0) fun v3 => Option.bind (LX8_learnt_22 x a1 NF 0 v3 1) fun v9 => some v9 else some (-2)
set_option maxHeartbeats 4000000 in
set_option maxRecDepth 100000 in
theorem lX8_learnt_22 {p : Program} {l : Launch} {e : Env} {R : Room} {s : State} {m : MethodId} {args : Array Value} {below : List Frame} {meth : Method} {c : Code} {cells slots : Nat} {Q : State → Prop} {G : xG} {β : Nat} {D : Nat → Prop} (C : Cx p s m args meth c RX8 cX8_learnt 6 (some .int) (KK G)) (hRf : 6 ≤ R.frames) (hRl : 139 ≤ R.locals) (hcs : cells ≤ R.cells ∧ slots ≤ R.slots) (hf : Fz D G s.heap) (x : XS) (q1 : Int32) : ∀ (n : Nat) (u2 : Int32) (u3 : Int32) (u4 : Int32) (J : Int32) (H : Heap) (locs : List Loc) (ls : Array Slot), LX8_learnt_22 x q1 n u2 u3 u4 = some J → CW β D G x H → va_S D s.heap H locs → lv_has ls 6 [(0, .ref β), (1, .int q1), (2, .int u2), (3, .int u3), (4, .int u4)] → (∀ (w2 : Int32), J = w2 → ∀ (H : Heap) (locs : List Loc) (ls : Array Slot), CW β D G x H → va_S D s.heap H locs → lv_has ls 6 [(2, .int w2)] → W p l e R s m args below meth c H locs cells slots Q (F0 m 56 ls [])) → W p l e R s m args below meth c H locs cells slots Q (F0 m 22 ls []) := by
  have hx := C.1
  have hb := C.2.1
  have ho := C.2.2.2.1
  have hts := C.2.2.2.2.1
  intro n
  induction n with
  | zero =>
    intro u2 u3 u4 J H locs ls hm
    exact absurd hm (by simp [LX8_learnt_22])
  | succ n ih =>
    intro u2 u3 u4 J H locs ls hm hw hS hl ke
    replace hm : BX8_learnt_22 x q1 (LX8_learnt_22 x q1 n) u2 u3 u4 = some J := hm
    unfold BX8_learnt_22 at hm
    refine lv_iload hx hb dX8_learnt_22 (lv_at hl 4 rfl) ?_
    refine lv_bipush (v := 9) hx hb dX8_learnt_24 (by decide) ?_
    refine lv_icmp_gt (tgt := 56) hx hb dX8_learnt_26 (by decide) (fun cc => ?_) (fun cc => ?_)
    · replace hm := ite_p cc hm
      exact ke _ (Option.some.inj hm).symm _ _ _ hw hS (lv_sub hl [2] rfl)
    · replace hm := ite_n cc hm
      refine lv_aload_n hx hb dX8_learnt_29 rfl (lv_at hl 0 rfl) ?_
      refine lv_iload_n hx hb dX8_learnt_30 rfl (lv_at hl 1 rfl) ?_
      refine lv_iload hx hb dX8_learnt_31 (lv_at hl 4 rfl) ?_
      obtain ⟨v5, h6, hm⟩ := bind_e hm
      refine sX8_276 C h6 hw hS hl.1 (Nat.le_of_ble_eq_true rfl) (Nat.le_trans (Nat.le_of_ble_eq_true rfl) hRf) (Nat.le_trans (Nat.le_of_ble_eq_true rfl) hRl) hcs dX8_learnt_33 (fun H locs hw hS => ?_)
      refine lv_istore (lv' := [(5, .int v5), (0, .ref β), (1, .int q1), (2, .int u2), (3, .int u3), (4, .int u4)]) hx hb dX8_learnt_36 hl (by decide) rfl (fun ls hl => ?_)
      refine lv_iload hx hb dX8_learnt_38 (lv_at hl 0 rfl) ?_
      refine lv_iload_n hx hb dX8_learnt_40 rfl (lv_at hl 4 rfl) ?_
      refine lv_icmp_ge (tgt := 50) hx hb dX8_learnt_41 (by decide) (fun cc => ?_) (fun cc => ?_)
      · replace hm := ite_p cc hm
        obtain ⟨v7, ev, hm⟩ := lt_e hm
        refine lv_iinc (v := v7) (lv' := [(4, .int v7), (5, .int v5), (0, .ref β), (1, .int q1), (2, .int u2), (3, .int u3)]) hx hb dX8_learnt_50 hl (k := 5) rfl (by rw [ev]; rfl) (by decide) rfl (fun ls hl => ?_)
        clear ev
        refine lv_goto (tgt := 22) hx hb dX8_learnt_53 (by decide) ?_
        exact ih _ _ _ _ _ _ _ hm hw hS (lv_sub hl [2, 3, 4, 5, 0] rfl) ke
      · replace hm := ite_n cc hm
        refine lv_iload hx hb dX8_learnt_44 (lv_at hl 0 rfl) ?_
        refine lv_istore_n (lv' := [(3, .int v5), (5, .int v5), (0, .ref β), (1, .int q1), (2, .int u2), (4, .int u4)]) hx hb dX8_learnt_46 rfl hl (by decide) rfl (fun ls hl => ?_)
        refine lv_iload hx hb dX8_learnt_47 (lv_at hl 5 rfl) ?_
        refine lv_istore_n (lv' := [(2, .int u4), (3, .int v5), (5, .int v5), (0, .ref β), (1, .int q1), (4, .int u4)]) hx hb dX8_learnt_49 rfl hl (by decide) rfl (fun ls hl => ?_)
        obtain ⟨v8, ev, hm⟩ := lt_e hm
        refine lv_iinc (v := v8) (lv' := [(4, .int v8), (2, .int u4), (3, .int v5), (5, .int v5), (0, .ref β), (1, .int q1)]) hx hb dX8_learnt_50 hl (k := 5) rfl (by rw [ev]; rfl) (by decide) rfl (fun ls hl => ?_)
        clear ev
        refine lv_goto (tgt := 22) hx hb dX8_learnt_53 (by decide) ?_
        exact ih _ _ _ _ _ _ _ hm hw hS (lv_sub hl [4, 5, 1, 2, 0] rfl) ke
abbrev rmX8_learnt : Room := { frames := 6, cells := 0, slots := 0, locals := 139 }
set_option maxHeartbeats 4000000 in
set_option maxRecDepth 100000 in
theorem kX8_learnt {l : Launch} {G : xG} {β : Nat} {D : Nat → Prop} {x : XS} {a1 : Int32} {r : Int32} (hm : fX8_learnt x a1 = some r) : Met l yX8_learnt (.code yX8_learnt cX8_learnt 6 (some .int) :: GT) rmX8_learnt (PcW [.ref β, .int a1] (CW β D G x) (KK G)) (QcW D (some (.int r)) (CW β D G x)) 0 0 D := by
  unfold fX8_learnt at hm
  refine xpro (own := RX8) (by decide +kernel) rfl (Nat.le_of_ble_eq_true rfl) ?_
  intro p e s m args below meth c C hw ls hl
  have hx := C.1
  have hb := C.2.1
  have ho := C.2.2.2.1
  have hts := C.2.2.2.2.1
  have hf : Fz D G s.heap := hw.2.2.2.2
  have hS : va_S D s.heap s.heap [] := va_S.rf
  have hl : lv_has ls 6 [(0, .ref β), (1, .int a1)] := hl
  have hRf : 6 ≤ rmX8_learnt.frames := Nat.le_refl _
  have hRl : 139 ≤ rmX8_learnt.locals := Nat.le_refl _
  have hcs : 0 ≤ rmX8_learnt.cells ∧ 0 ≤ rmX8_learnt.slots := ⟨Nat.le_refl _, Nat.le_refl _⟩
  refine lv_iload_n hx hb dX8_learnt_0 rfl (lv_at hl 1 rfl) ?_
  obtain ⟨v1, h2, hm⟩ := bind_e hm
  refine sX8_150 C h2 hw hS hl.1 (Nat.le_of_ble_eq_true rfl) (Nat.le_trans (Nat.le_of_ble_eq_true rfl) hRf) (Nat.le_trans (Nat.le_of_ble_eq_true rfl) hRl) hcs dX8_learnt_1 (fun H locs hw hS => ?_)
  refine x_ifneB hx hb dX8_learnt_4 (tgt := 10) (by decide) (fun cc => ?_) (fun cc => ?_)
  · replace hm := ite_p cc hm
    refine lv_iconst (v := 0) hx hb dX8_learnt_10 (by decide) ?_
    refine lv_istore_n (lv' := [(2, .int 0), (0, .ref β), (1, .int a1)]) hx hb dX8_learnt_11 rfl hl (by decide) rfl (fun ls hl => ?_)
    refine lv_aload_n hx hb dX8_learnt_12 rfl (lv_at hl 1 rfl) ?_
    refine lv_iload_n hx hb dX8_learnt_13 rfl (lv_at hl 2 rfl) ?_
    refine lv_iconst (v := 0) hx hb dX8_learnt_14 (by decide) ?_
    obtain ⟨v3, h4, hm⟩ := bind_e hm
    refine sX8_276 C h4 hw hS hl.1 (Nat.le_of_ble_eq_true rfl) (Nat.le_trans (Nat.le_of_ble_eq_true rfl) hRf) (Nat.le_trans (Nat.le_of_ble_eq_true rfl) hRl) hcs dX8_learnt_15 (fun H locs hw hS => ?_)
    refine lv_istore_n (lv' := [(3, .int v3), (2, .int 0), (0, .ref β), (1, .int a1)]) hx hb dX8_learnt_18 rfl hl (by decide) rfl (fun ls hl => ?_)
    refine lv_iconst (v := 1) hx hb dX8_learnt_19 (by decide) ?_
    refine lv_istore (lv' := [(4, .int 1), (3, .int v3), (2, .int 0), (0, .ref β), (1, .int a1)]) hx hb dX8_learnt_20 hl (by decide) rfl (fun ls hl => ?_)
    obtain ⟨v9, hj, hm⟩ := bind_e hm
    refine lX8_learnt_22 C hRf hRl hcs hf x a1 NF _ _ _ _ _ _ _ hj hw hS (lv_sub hl [3, 4, 2, 1, 0] rfl) (fun v9_ e0 H locs ls hw hS hl => ?_)
    cases e0
    refine lv_iload_n hx hb dX8_learnt_56 rfl (lv_at hl 0 rfl) ?_
    obtain rfl := Option.some.inj hm
    exact xret_i C hw hS dX8_learnt_57
  · replace hm := ite_n cc hm
    refine lv_bipush (v := (-2)) hx hb dX8_learnt_7 (by decide) ?_
    obtain rfl := Option.some.inj hm
    exact xret_i C hw hS dX8_learnt_9
theorem dX8_countsForPair_0 : decode cX8_countsForPair 0 = .ok (.aload_n 1, 1) := by decide +kernel
theorem dX8_countsForPair_1 : decode cX8_countsForPair 1 = .ok (.ifnonnull 5, 3) := by decide +kernel
theorem dX8_countsForPair_4 : decode cX8_countsForPair 4 = .ok (.iconst 0, 1) := by decide +kernel
theorem dX8_countsForPair_5 : decode cX8_countsForPair 5 = .ok (.ireturn, 1) := by decide +kernel
theorem dX8_countsForPair_6 : decode cX8_countsForPair 6 = .ok (.aload_n 1, 1) := by decide +kernel
theorem dX8_countsForPair_7 : decode cX8_countsForPair 7 = .ok (.iload_n 2, 1) := by decide +kernel
theorem dX8_countsForPair_8 : decode cX8_countsForPair 8 = .ok (.invokevirtual 403, 3) := by decide +kernel
theorem dX8_countsForPair_11 : decode cX8_countsForPair 11 = .ok (.istore 5, 2) := by decide +kernel
theorem dX8_countsForPair_13 : decode cX8_countsForPair 13 = .ok (.aload_n 1, 1) := by decide +kernel
theorem dX8_countsForPair_14 : decode cX8_countsForPair 14 = .ok (.iload_n 3, 1) := by decide +kernel
theorem dX8_countsForPair_15 : decode cX8_countsForPair 15 = .ok (.invokevirtual 403, 3) := by decide +kernel
theorem dX8_countsForPair_18 : decode cX8_countsForPair 18 = .ok (.istore 6, 2) := by decide +kernel
theorem dX8_countsForPair_20 : decode cX8_countsForPair 20 = .ok (.iload 5, 2) := by decide +kernel
theorem dX8_countsForPair_22 : decode cX8_countsForPair 22 = .ok (.iconst (-1), 1) := by decide +kernel
theorem dX8_countsForPair_23 : decode cX8_countsForPair 23 = .ok (.if_icmp .eq 9, 3) := by decide +kernel
theorem dX8_countsForPair_26 : decode cX8_countsForPair 26 = .ok (.iload 6, 2) := by decide +kernel
theorem dX8_countsForPair_28 : decode cX8_countsForPair 28 = .ok (.iconst (-1), 1) := by decide +kernel
theorem dX8_countsForPair_29 : decode cX8_countsForPair 29 = .ok (.if_icmp .ne 5, 3) := by decide +kernel
theorem dX8_countsForPair_32 : decode cX8_countsForPair 32 = .ok (.iconst 0, 1) := by decide +kernel
theorem dX8_countsForPair_33 : decode cX8_countsForPair 33 = .ok (.ireturn, 1) := by decide +kernel
theorem dX8_countsForPair_34 : decode cX8_countsForPair 34 = .ok (.iload 4, 2) := by decide +kernel
theorem dX8_countsForPair_36 : decode cX8_countsForPair 36 = .ok (.ifCond .ne 5, 3) := by decide +kernel
theorem dX8_countsForPair_39 : decode cX8_countsForPair 39 = .ok (.iconst 1, 1) := by decide +kernel
theorem dX8_countsForPair_40 : decode cX8_countsForPair 40 = .ok (.ireturn, 1) := by decide +kernel
theorem dX8_countsForPair_41 : decode cX8_countsForPair 41 = .ok (.iload 4, 2) := by decide +kernel
theorem dX8_countsForPair_43 : decode cX8_countsForPair 43 = .ok (.iconst 1, 1) := by decide +kernel
theorem dX8_countsForPair_44 : decode cX8_countsForPair 44 = .ok (.if_icmp .ne 16, 3) := by decide +kernel
theorem dX8_countsForPair_47 : decode cX8_countsForPair 47 = .ok (.iload 5, 2) := by decide +kernel
theorem dX8_countsForPair_49 : decode cX8_countsForPair 49 = .ok (.iload 6, 2) := by decide +kernel
theorem dX8_countsForPair_51 : decode cX8_countsForPair 51 = .ok (.if_icmp .ge 7, 3) := by decide +kernel
theorem dX8_countsForPair_54 : decode cX8_countsForPair 54 = .ok (.iconst 1, 1) := by decide +kernel
theorem dX8_countsForPair_55 : decode cX8_countsForPair 55 = .ok (.goto 4, 3) := by decide +kernel
theorem dX8_countsForPair_58 : decode cX8_countsForPair 58 = .ok (.iconst 0, 1) := by decide +kernel
theorem dX8_countsForPair_59 : decode cX8_countsForPair 59 = .ok (.ireturn, 1) := by decide +kernel
theorem dX8_countsForPair_60 : decode cX8_countsForPair 60 = .ok (.aload_n 1, 1) := by decide +kernel
theorem dX8_countsForPair_61 : decode cX8_countsForPair 61 = .ok (.getfield 269, 3) := by decide +kernel
theorem dX8_countsForPair_64 : decode cX8_countsForPair 64 = .ok (.invokestatic 150, 3) := by decide +kernel
theorem dX8_countsForPair_67 : decode cX8_countsForPair 67 = .ok (.ifCond .eq 15, 3) := by decide +kernel
theorem dX8_countsForPair_70 : decode cX8_countsForPair 70 = .ok (.aload_n 0, 1) := by decide +kernel
theorem dX8_countsForPair_71 : decode cX8_countsForPair 71 = .ok (.getfield 19, 3) := by decide +kernel
theorem dX8_countsForPair_74 : decode cX8_countsForPair 74 = .ok (.aload_n 1, 1) := by decide +kernel
theorem dX8_countsForPair_75 : decode cX8_countsForPair 75 = .ok (.getfield 269, 3) := by decide +kernel
theorem dX8_countsForPair_78 : decode cX8_countsForPair 78 = .ok (.iaload, 1) := by decide +kernel
theorem dX8_countsForPair_79 : decode cX8_countsForPair 79 = .ok (.goto 4, 3) := by decide +kernel
theorem dX8_countsForPair_82 : decode cX8_countsForPair 82 = .ok (.iconst 0, 1) := by decide +kernel
theorem dX8_countsForPair_83 : decode cX8_countsForPair 83 = .ok (.istore 7, 2) := by decide +kernel
theorem dX8_countsForPair_85 : decode cX8_countsForPair 85 = .ok (.aload_n 0, 1) := by decide +kernel
theorem dX8_countsForPair_86 : decode cX8_countsForPair 86 = .ok (.aload_n 1, 1) := by decide +kernel
theorem dX8_countsForPair_87 : decode cX8_countsForPair 87 = .ok (.iload 5, 2) := by decide +kernel
theorem dX8_countsForPair_89 : decode cX8_countsForPair 89 = .ok (.iload 7, 2) := by decide +kernel
theorem dX8_countsForPair_91 : decode cX8_countsForPair 91 = .ok (.invokevirtual 410, 3) := by decide +kernel
theorem dX8_countsForPair_94 : decode cX8_countsForPair 94 = .ok (.aload_n 0, 1) := by decide +kernel
theorem dX8_countsForPair_95 : decode cX8_countsForPair 95 = .ok (.aload_n 1, 1) := by decide +kernel
theorem dX8_countsForPair_96 : decode cX8_countsForPair 96 = .ok (.iload 6, 2) := by decide +kernel
theorem dX8_countsForPair_98 : decode cX8_countsForPair 98 = .ok (.iload 7, 2) := by decide +kernel
theorem dX8_countsForPair_100 : decode cX8_countsForPair 100 = .ok (.invokevirtual 410, 3) := by decide +kernel
theorem dX8_countsForPair_103 : decode cX8_countsForPair 103 = .ok (.if_icmp .le 7, 3) := by decide +kernel
theorem dX8_countsForPair_106 : decode cX8_countsForPair 106 = .ok (.iconst 1, 1) := by decide +kernel
theorem dX8_countsForPair_107 : decode cX8_countsForPair 107 = .ok (.goto 4, 3) := by decide +kernel
theorem dX8_countsForPair_110 : decode cX8_countsForPair 110 = .ok (.iconst 0, 1) := by decide +kernel
theorem dX8_countsForPair_111 : decode cX8_countsForPair 111 = .ok (.ireturn, 1) := by decide +kernel
def fX8_countsForPair (x : XS) (a1 : Option Nat) (a2 : Int32) (a3 : Int32) (a4 : Int32) : Option (Bool) := oc a1 (some false) (fun p1 => if dK x p1 3 = true then Option.bind (fX3_placeOf x p1 a2) fun v3 => if dK x p1 3 = true then Option.bind (fX3_placeOf x p1 a3) fun v6 => if v3 = (-1) then some false else if v6 = (-1) then some false else if a4 = 0 then some true else if a4 = 1 then if v6 ≤ v3 then some false else some true else Option.bind (dI x p1 3 0) fun v8 => Option.bind (fX8_isGround v8) fun v10 => Option.bind (if v10 = true then Option.bind (dI x p1 3 0) fun v12 => if ib v12 4 then some (x.2.1 2 v12.toNatClampNeg) else none else some 0) fun v15 => Option.bind (fX8_ratingIn x (some p1) v3 v15) fun v16 => Option.bind (fX8_ratingIn x (some p1) v6 v15) fun v18 => if v16 ≤ v18 then some false else some true else none else none)
abbrev rmX8_countsForPair : Room := { frames := 4, cells := 0, slots := 0, locals := 89 }
set_option maxHeartbeats 4000000 in
set_option maxRecDepth 100000 in
theorem kX8_countsForPair {l : Launch} {G : xG} {β : Nat} {D : Nat → Prop} {x : XS} {a1 : Option Nat} {a2 : Int32} {a3 : Int32} {a4 : Int32} {r : Bool} (hm : fX8_countsForPair x a1 a2 a3 a4 = some r) : Met l yX8_countsForPair (.code yX8_countsForPair cX8_countsForPair 8 (some .boolean) :: GT) rmX8_countsForPair (PcW [.ref β, va_rf a1, .int a2, .int a3, .int a4] (CW β D G x) (KK G)) (QcW D (some (.int (bI r))) (CW β D G x)) 0 0 D := by
  unfold fX8_countsForPair at hm
  refine xpro (own := RX8) (by decide +kernel) rfl (by cases a1 <;> exact Nat.le_of_ble_eq_true rfl) ?_
  intro p e s m args below meth c C hw ls hl
  have hx := C.1
  have hb := C.2.1
  have ho := C.2.2.2.1
  have hts := C.2.2.2.2.1
  have hf : Fz D G s.heap := hw.2.2.2.2
  have hS : va_S D s.heap s.heap [] := va_S.rf
  have hl : lv_has ls 8 [(0, .ref β), (1, va_rf a1), (2, .int a2), (3, .int a3), (4, .int a4)] := by cases a1 <;> exact hl
  have hRf : 4 ≤ rmX8_countsForPair.frames := Nat.le_refl _
  have hRl : 89 ≤ rmX8_countsForPair.locals := Nat.le_refl _
  have hcs : 0 ≤ rmX8_countsForPair.cells ∧ 0 ≤ rmX8_countsForPair.slots := ⟨Nat.le_refl _, Nat.le_refl _⟩
  refine x_aload_nq hx hb dX8_countsForPair_0 rfl (lv_at hl 1 rfl) ?_
  rcases a1 with _ | p1
  · replace hm := oc_n hm
    refine lv_ifnonnullN hx hb dX8_countsForPair_1 ?_
    refine lv_iconst (v := 0) hx hb dX8_countsForPair_4 (by decide) ?_
    obtain rfl := Option.some.inj hm
    exact xret_z (v := bI false) C (bI_nar _) hw hS dX8_countsForPair_5
  · replace hm := oc_s hm
    refine lv_ifnonnull (tgt := 6) hx hb dX8_countsForPair_1 (by decide) ?_
    refine lv_aload_n hx hb dX8_countsForPair_6 rfl (lv_at hl 1 rfl) ?_
    refine lv_iload_n hx hb dX8_countsForPair_7 rfl (lv_at hl 2 rfl) ?_
    obtain ⟨h2, hm⟩ := chk_e hm
    obtain ⟨v3, h4, hm⟩ := bind_e hm
    refine sX8_403 C h2 h4 hw hS hl.1 (Nat.le_of_ble_eq_true rfl) (Nat.le_trans (Nat.le_of_ble_eq_true rfl) hRf) (Nat.le_trans (Nat.le_of_ble_eq_true rfl) hRl) hcs dX8_countsForPair_8 (fun H locs hw hS => ?_)
    refine lv_istore (lv' := [(5, .int v3), (0, .ref β), (1, .ref p1), (2, .int a2), (3, .int a3), (4, .int a4)]) hx hb dX8_countsForPair_11 hl (by decide) rfl (fun ls hl => ?_)
    refine lv_aload_n hx hb dX8_countsForPair_13 rfl (lv_at hl 2 rfl) ?_
    refine lv_iload_n hx hb dX8_countsForPair_14 rfl (lv_at hl 4 rfl) ?_
    obtain ⟨h5, hm⟩ := chk_e hm
    obtain ⟨v6, h7, hm⟩ := bind_e hm
    refine sX8_403 C h5 h7 hw hS hl.1 (Nat.le_of_ble_eq_true rfl) (Nat.le_trans (Nat.le_of_ble_eq_true rfl) hRf) (Nat.le_trans (Nat.le_of_ble_eq_true rfl) hRl) hcs dX8_countsForPair_15 (fun H locs hw hS => ?_)
    refine lv_istore (lv' := [(6, .int v6), (5, .int v3), (0, .ref β), (1, .ref p1), (2, .int a2), (3, .int a3), (4, .int a4)]) hx hb dX8_countsForPair_18 hl (by decide) rfl (fun ls hl => ?_)
    refine lv_iload hx hb dX8_countsForPair_20 (lv_at hl 1 rfl) ?_
    refine lv_iconst (v := (-1)) hx hb dX8_countsForPair_22 (by decide) ?_
    refine lv_icmp_eq (tgt := 32) hx hb dX8_countsForPair_23 (by decide) (fun cc => ?_) (fun cc => ?_)
    · replace hm := ite_p cc hm
      refine lv_iconst (v := 0) hx hb dX8_countsForPair_32 (by decide) ?_
      obtain rfl := Option.some.inj hm
      exact xret_z (v := bI false) C (bI_nar _) hw hS dX8_countsForPair_33
    · replace hm := ite_n cc hm
      refine lv_iload hx hb dX8_countsForPair_26 (lv_at hl 0 rfl) ?_
      refine lv_iconst (v := (-1)) hx hb dX8_countsForPair_28 (by decide) ?_
      refine lv_icmp_ne (tgt := 34) hx hb dX8_countsForPair_29 (by decide) (fun cc => ?_) (fun cc => ?_)
      · replace hm := ite_n cc hm
        refine lv_iload hx hb dX8_countsForPair_34 (lv_at hl 6 rfl) ?_
        refine lv_if_ne (tgt := 41) hx hb dX8_countsForPair_36 (by decide) (fun cc => ?_) (fun cc => ?_)
        · replace hm := ite_n cc hm
          refine lv_iload hx hb dX8_countsForPair_41 (lv_at hl 6 rfl) ?_
          refine lv_iconst (v := 1) hx hb dX8_countsForPair_43 (by decide) ?_
          refine lv_icmp_ne (tgt := 60) hx hb dX8_countsForPair_44 (by decide) (fun cc => ?_) (fun cc => ?_)
          · replace hm := ite_n cc hm
            refine lv_aload_n hx hb dX8_countsForPair_60 rfl (lv_at hl 3 rfl) ?_
            obtain ⟨v8, h9, hm⟩ := bind_e hm
            refine gdX8_269 C h9 hw dX8_countsForPair_61 ?_
            obtain ⟨v10, h11, hm⟩ := bind_e hm
            refine sX8_150 C h11 hw hS hl.1 (Nat.le_of_ble_eq_true rfl) (Nat.le_trans (Nat.le_of_ble_eq_true rfl) hRf) (Nat.le_trans (Nat.le_of_ble_eq_true rfl) hRl) hcs dX8_countsForPair_64 (fun H locs hw hS => ?_)
            obtain ⟨v15, hj, hm⟩ := bind_e hm
            have kk : ∀ (H : Heap) (locs : List Loc) (ls : Array Slot), CW β D G x H → va_S D s.heap H locs → lv_has ls 8 [(0, .ref β), (1, .ref p1), (5, .int v3), (6, .int v6)] → W p l e rmX8_countsForPair s m args below meth c H locs 0 0 (MQ below (QcW D (some (.int (bI r))) (CW β D G x)) args s 0 0 D) (F0 m 83 ls [.int v15]) := by
              intro H locs ls hw hS hl
              refine lv_istore (lv' := [(7, .int v15), (0, .ref β), (1, .ref p1), (5, .int v3), (6, .int v6)]) hx hb dX8_countsForPair_83 hl (by decide) rfl (fun ls hl => ?_)
              refine lv_aload_n hx hb dX8_countsForPair_85 rfl (lv_at hl 1 rfl) ?_
              refine lv_aload_n hx hb dX8_countsForPair_86 rfl (lv_at hl 2 rfl) ?_
              refine lv_iload hx hb dX8_countsForPair_87 (lv_at hl 3 rfl) ?_
              refine lv_iload hx hb dX8_countsForPair_89 (lv_at hl 0 rfl) ?_
              obtain ⟨v16, h17, hm⟩ := bind_e hm
              refine sX8_410 (a1 := (some p1)) (a2 := v3) (a3 := v15) C h17 hw hS hl.1 (Nat.le_of_ble_eq_true rfl) (Nat.le_trans (Nat.le_of_ble_eq_true rfl) hRf) (Nat.le_trans (Nat.le_of_ble_eq_true rfl) hRl) hcs dX8_countsForPair_91 (fun H locs hw hS => ?_)
              refine lv_aload_n hx hb dX8_countsForPair_94 rfl (lv_at hl 1 rfl) ?_
              refine lv_aload_n hx hb dX8_countsForPair_95 rfl (lv_at hl 2 rfl) ?_
              refine lv_iload hx hb dX8_countsForPair_96 (lv_at hl 4 rfl) ?_
              refine lv_iload hx hb dX8_countsForPair_98 (lv_at hl 0 rfl) ?_
              obtain ⟨v18, h19, hm⟩ := bind_e hm
              refine sX8_410 (a1 := (some p1)) (a2 := v6) (a3 := v15) C h19 hw hS hl.1 (Nat.le_of_ble_eq_true rfl) (Nat.le_trans (Nat.le_of_ble_eq_true rfl) hRf) (Nat.le_trans (Nat.le_of_ble_eq_true rfl) hRl) hcs dX8_countsForPair_100 (fun H locs hw hS => ?_)
              refine lv_icmp_le (tgt := 110) hx hb dX8_countsForPair_103 (by decide) (fun cc => ?_) (fun cc => ?_)
              · replace hm := ite_p cc hm
                refine lv_iconst (v := 0) hx hb dX8_countsForPair_110 (by decide) ?_
                obtain rfl := Option.some.inj hm
                exact xret_z (v := bI false) C (bI_nar _) hw hS dX8_countsForPair_111
              · replace hm := ite_n cc hm
                refine lv_iconst (v := 1) hx hb dX8_countsForPair_106 (by decide) ?_
                refine lv_goto (tgt := 111) hx hb dX8_countsForPair_107 (by decide) ?_
                obtain rfl := Option.some.inj hm
                exact xret_z (v := bI true) C (bI_nar _) hw hS dX8_countsForPair_111
            clear hm
            replace hm := hj
            clear hj
            refine x_ifeqB hx hb dX8_countsForPair_67 (tgt := 82) (by decide) (fun cc => ?_) (fun cc => ?_)
            · replace hm := ite_n cc hm
              refine lv_iconst (v := 0) hx hb dX8_countsForPair_82 (by decide) ?_
              obtain rfl := Option.some.inj hm
              exact kk _ _ _ hw hS (lv_sub hl [2, 3, 1, 0] rfl)
            · replace hm := ite_p cc hm
              refine lv_aload_n hx hb dX8_countsForPair_70 rfl (lv_at hl 2 rfl) ?_
              refine gX8_19 C hw dX8_countsForPair_71 ?_
              refine lv_aload_n hx hb dX8_countsForPair_74 rfl (lv_at hl 3 rfl) ?_
              obtain ⟨v12, h13, hm⟩ := bind_e hm
              refine gdX8_269 C h13 hw dX8_countsForPair_75 ?_
              obtain ⟨h14, hm⟩ := chk_e hm
              refine alX_2 C hw h14 dX8_countsForPair_78 ?_
              refine lv_goto (tgt := 83) hx hb dX8_countsForPair_79 (by decide) ?_
              obtain rfl := Option.some.inj hm
              exact kk _ _ _ hw hS (lv_sub hl [2, 3, 1, 0] rfl)
          · replace hm := ite_p cc hm
            refine lv_iload hx hb dX8_countsForPair_47 (lv_at hl 1 rfl) ?_
            refine lv_iload hx hb dX8_countsForPair_49 (lv_at hl 0 rfl) ?_
            refine lv_icmp_ge (tgt := 58) hx hb dX8_countsForPair_51 (by decide) (fun cc => ?_) (fun cc => ?_)
            · replace hm := ite_p cc hm
              refine lv_iconst (v := 0) hx hb dX8_countsForPair_58 (by decide) ?_
              obtain rfl := Option.some.inj hm
              exact xret_z (v := bI false) C (bI_nar _) hw hS dX8_countsForPair_59
            · replace hm := ite_n cc hm
              refine lv_iconst (v := 1) hx hb dX8_countsForPair_54 (by decide) ?_
              refine lv_goto (tgt := 59) hx hb dX8_countsForPair_55 (by decide) ?_
              obtain rfl := Option.some.inj hm
              exact xret_z (v := bI true) C (bI_nar _) hw hS dX8_countsForPair_59
        · replace hm := ite_p cc hm
          refine lv_iconst (v := 1) hx hb dX8_countsForPair_39 (by decide) ?_
          obtain rfl := Option.some.inj hm
          exact xret_z (v := bI true) C (bI_nar _) hw hS dX8_countsForPair_40
      · replace hm := ite_p cc hm
        refine lv_iconst (v := 0) hx hb dX8_countsForPair_32 (by decide) ?_
        obtain rfl := Option.some.inj hm
        exact xret_z (v := bI false) C (bI_nar _) hw hS dX8_countsForPair_33
theorem dX8_pair_0 : decode cX8_pair 0 = .ok (.aload_n 0, 1) := by decide +kernel
theorem dX8_pair_1 : decode cX8_pair 1 = .ok (.iload_n 1, 1) := by decide +kernel
theorem dX8_pair_2 : decode cX8_pair 2 = .ok (.invokevirtual 154, 3) := by decide +kernel
theorem dX8_pair_5 : decode cX8_pair 5 = .ok (.ifCond .eq 25, 3) := by decide +kernel
theorem dX8_pair_8 : decode cX8_pair 8 = .ok (.aload_n 0, 1) := by decide +kernel
theorem dX8_pair_9 : decode cX8_pair 9 = .ok (.iload_n 2, 1) := by decide +kernel
theorem dX8_pair_10 : decode cX8_pair 10 = .ok (.invokevirtual 154, 3) := by decide +kernel
theorem dX8_pair_13 : decode cX8_pair 13 = .ok (.ifCond .eq 17, 3) := by decide +kernel
theorem dX8_pair_16 : decode cX8_pair 16 = .ok (.iload_n 1, 1) := by decide +kernel
theorem dX8_pair_17 : decode cX8_pair 17 = .ok (.iload_n 2, 1) := by decide +kernel
theorem dX8_pair_18 : decode cX8_pair 18 = .ok (.if_icmp .eq 12, 3) := by decide +kernel
theorem dX8_pair_21 : decode cX8_pair 21 = .ok (.iload_n 3, 1) := by decide +kernel
theorem dX8_pair_22 : decode cX8_pair 22 = .ok (.iconst 0, 1) := by decide +kernel
theorem dX8_pair_23 : decode cX8_pair 23 = .ok (.iconst 2, 1) := by decide +kernel
theorem dX8_pair_24 : decode cX8_pair 24 = .ok (.invokestatic 138, 3) := by decide +kernel
theorem dX8_pair_27 : decode cX8_pair 27 = .ok (.ifCond .ne 6, 3) := by decide +kernel
theorem dX8_pair_30 : decode cX8_pair 30 = .ok (.bipush (-2), 2) := by decide +kernel
theorem dX8_pair_32 : decode cX8_pair 32 = .ok (.ireturn, 1) := by decide +kernel
theorem dX8_pair_33 : decode cX8_pair 33 = .ok (.iconst 0, 1) := by decide +kernel
theorem dX8_pair_34 : decode cX8_pair 34 = .ok (.istore 4, 2) := by decide +kernel
theorem dX8_pair_36 : decode cX8_pair 36 = .ok (.iconst 0, 1) := by decide +kernel
theorem dX8_pair_37 : decode cX8_pair 37 = .ok (.istore 5, 2) := by decide +kernel
theorem dX8_pair_39 : decode cX8_pair 39 = .ok (.iload 5, 2) := by decide +kernel
theorem dX8_pair_41 : decode cX8_pair 41 = .ok (.aload_n 0, 1) := by decide +kernel
theorem dX8_pair_42 : decode cX8_pair 42 = .ok (.getfield 32, 3) := by decide +kernel
theorem dX8_pair_45 : decode cX8_pair 45 = .ok (.if_icmp .ge 28, 3) := by decide +kernel
theorem dX8_pair_48 : decode cX8_pair 48 = .ok (.aload_n 0, 1) := by decide +kernel
theorem dX8_pair_49 : decode cX8_pair 49 = .ok (.aload_n 0, 1) := by decide +kernel
theorem dX8_pair_50 : decode cX8_pair 50 = .ok (.iload 5, 2) := by decide +kernel
theorem dX8_pair_52 : decode cX8_pair 52 = .ok (.invokevirtual 265, 3) := by decide +kernel
theorem dX8_pair_55 : decode cX8_pair 55 = .ok (.iload_n 1, 1) := by decide +kernel
theorem dX8_pair_56 : decode cX8_pair 56 = .ok (.iload_n 2, 1) := by decide +kernel
theorem dX8_pair_57 : decode cX8_pair 57 = .ok (.iload_n 3, 1) := by decide +kernel
theorem dX8_pair_58 : decode cX8_pair 58 = .ok (.invokevirtual 279, 3) := by decide +kernel
theorem dX8_pair_61 : decode cX8_pair 61 = .ok (.ifCond .eq 6, 3) := by decide +kernel
theorem dX8_pair_64 : decode cX8_pair 64 = .ok (.iinc 4 1, 3) := by decide +kernel
theorem dX8_pair_67 : decode cX8_pair 67 = .ok (.iinc 5 1, 3) := by decide +kernel
theorem dX8_pair_70 : decode cX8_pair 70 = .ok (.goto (-31), 3) := by decide +kernel
theorem dX8_pair_73 : decode cX8_pair 73 = .ok (.iload 4, 2) := by decide +kernel
theorem dX8_pair_75 : decode cX8_pair 75 = .ok (.ireturn, 1) := by decide +kernel
theorem sX8_279 {p : Program} {l : Launch} {e : Env} {R : Room} {s : State} {m : MethodId} {args : Array Value} {below : List Frame} {meth : Method} {c : Code} {H : Heap} {locs : List Loc} {cells slots : Nat} {Q : State → Prop} {cc : ByteArray} {pc nL : Nat} {ls : Array Slot} {rest : List Value} {ret : Option FieldType}  {G : xG} {β : Nat} {D : Nat → Prop} {x : XS} {a1 : Option Nat} {a2 : Int32} {a3 : Int32} {a4 : Int32} {r : Bool} (C : Cx p s m args meth c RX8 cc nL ret (KK G)) (h : fX8_countsForPair x a1 a2 a3 a4 = some r) (hw : CW β D G x H) (hS : va_S D s.heap H locs) (hsz : ls.size = nL) (hW : (rest.map fun v => v.category).sum ≤ 8) (hR : 5 ≤ R.frames) (hR2 : 116 ≤ R.locals) (hcs : cells ≤ R.cells ∧ slots ≤ R.slots) (hd : decode cc pc = .ok (.invokevirtual 279, 3)) (kk : ∀ (H1 : Heap) (locs1 : List Loc), CW β D G x H1 → va_S D s.heap H1 locs1 → W p l e R s m args below meth c H1 locs1 cells slots Q (F0 m (pc + 3) ls (.int (bI r) :: rest))) : W p l e R s m args below meth c H locs cells slots Q (F0 m pc ls (.int a4 :: .int a3 :: .int a2 :: va_rf a1 :: .ref β :: rest)) := by
  exact xcallV C (As := [va_rf a1, .int a2, .int a3, .int a4]) (rest := rest) (nA := 4) (ci := 8) (kX8_countsForPair h) (tg 783 (by decide +kernel) rfl) (tg 785 (by decide +kernel) rfl) (sg (List.mem_of_getElem? (i := 47) (by decide +kernel)) rfl) (tg 1 (by decide +kernel) rfl) (tg 786 (by decide +kernel) rfl) ⟨rfl, by decide +kernel, by decide +kernel, by decide +kernel⟩ rfl rfl rfl ⟨hR, hR2⟩ (hw.2.2.1 0 (by decide)) hw hS (fun _ q => q) rfl rfl hsz hW hd hcs (fun H1 locs1 hw hz hk hS => kk H1 locs1 hw hS)
def BX8_pair_39 (x : XS) (q1 : Int32) (q2 : Int32) (q3 : Int32) (lp : Int32 → Int32 → Option (Int32)) (u4 : Int32) (u5 : Int32) : Option (Int32) := if (x.1 0 5) ≤ u5 then some u4 else Option.bind (fX8_raceAt x u5) fun v7 => Option.bind (fX8_countsForPair x v7 q1 q2 q3) fun v9 => if v9 = true then lt (u4 + 1) fun v12 => lt (u5 + 1) fun v13 => lp v12 v13 else lt (u5 + 1) fun v11 => lp u4 v11
def LX8_pair_39 (x : XS) (q1 : Int32) (q2 : Int32) (q3 : Int32) : Nat → Int32 → Int32 → Option (Int32)
  | 0, _, _ => none
  | n + 1, u4, u5 => BX8_pair_39 x q1 q2 q3 (LX8_pair_39 x q1 q2 q3 n) u4 u5
def fX8_pair (x : XS) (a1 : Int32) (a2 : Int32) (a3 : Int32) : Option (Int32) := Option.bind (fX8_isHorse x a1) fun v1 => if v1 = true then Option.bind (fX8_isHorse x a2) fun v3 => if v3 = true then if a1 = a2 then some (-2) else Option.bind (fX8_isWithin a3 0 2) fun v5 => if v5 = true then Option.bind (LX8_pair_39 x a1 a2 a3 NF 0 0) fun v14 => some v14 else some (-2) else some (-2) else some (-2)
set_option maxHeartbeats 4000000 in
set_option maxRecDepth 100000 in
theorem lX8_pair_39 {p : Program} {l : Launch} {e : Env} {R : Room} {s : State} {m : MethodId} {args : Array Value} {below : List Frame} {meth : Method} {c : Code} {cells slots : Nat} {Q : State → Prop} {G : xG} {β : Nat} {D : Nat → Prop} (C : Cx p s m args meth c RX8 cX8_pair 6 (some .int) (KK G)) (hRf : 5 ≤ R.frames) (hRl : 116 ≤ R.locals) (hcs : cells ≤ R.cells ∧ slots ≤ R.slots) (hf : Fz D G s.heap) (x : XS) (q1 : Int32) (q2 : Int32) (q3 : Int32) : ∀ (n : Nat) (u4 : Int32) (u5 : Int32) (J : Int32) (H : Heap) (locs : List Loc) (ls : Array Slot), LX8_pair_39 x q1 q2 q3 n u4 u5 = some J → CW β D G x H → va_S D s.heap H locs → lv_has ls 6 [(0, .ref β), (1, .int q1), (2, .int q2), (3, .int q3), (4, .int u4), (5, .int u5)] → (∀ (w4 : Int32), J = w4 → ∀ (H : Heap) (locs : List Loc) (ls : Array Slot), CW β D G x H → va_S D s.heap H locs → lv_has ls 6 [(4, .int w4)] → W p l e R s m args below meth c H locs cells slots Q (F0 m 73 ls [])) → W p l e R s m args below meth c H locs cells slots Q (F0 m 39 ls []) := by
  have hx := C.1
  have hb := C.2.1
  have ho := C.2.2.2.1
  have hts := C.2.2.2.2.1
  intro n
  induction n with
  | zero =>
    intro u4 u5 J H locs ls hm
    exact absurd hm (by simp [LX8_pair_39])
  | succ n ih =>
    intro u4 u5 J H locs ls hm hw hS hl ke
    replace hm : BX8_pair_39 x q1 q2 q3 (LX8_pair_39 x q1 q2 q3 n) u4 u5 = some J := hm
    unfold BX8_pair_39 at hm
    refine lv_iload hx hb dX8_pair_39 (lv_at hl 5 rfl) ?_
    refine lv_aload_n hx hb dX8_pair_41 rfl (lv_at hl 0 rfl) ?_
    refine gX8_32 C hw dX8_pair_42 ?_
    refine lv_icmp_ge (tgt := 73) hx hb dX8_pair_45 (by decide) (fun cc => ?_) (fun cc => ?_)
    · replace hm := ite_p cc hm
      exact ke _ (Option.some.inj hm).symm _ _ _ hw hS (lv_sub hl [4] rfl)
    · replace hm := ite_n cc hm
      refine lv_aload_n hx hb dX8_pair_48 rfl (lv_at hl 0 rfl) ?_
      refine lv_aload_n hx hb dX8_pair_49 rfl (lv_at hl 0 rfl) ?_
      refine lv_iload hx hb dX8_pair_50 (lv_at hl 5 rfl) ?_
      obtain ⟨v7, h8, hm⟩ := bind_e hm
      refine sX8_265 C h8 hw hS hl.1 (Nat.le_of_ble_eq_true rfl) (Nat.le_trans (Nat.le_of_ble_eq_true rfl) hRf) (Nat.le_trans (Nat.le_of_ble_eq_true rfl) hRl) hcs dX8_pair_52 (fun H locs hw hS => ?_)
      refine lv_iload_n hx hb dX8_pair_55 rfl (lv_at hl 1 rfl) ?_
      refine lv_iload_n hx hb dX8_pair_56 rfl (lv_at hl 2 rfl) ?_
      refine lv_iload_n hx hb dX8_pair_57 rfl (lv_at hl 3 rfl) ?_
      obtain ⟨v9, h10, hm⟩ := bind_e hm
      refine sX8_279 (a1 := v7) (a2 := q1) (a3 := q2) (a4 := q3) C h10 hw hS hl.1 (Nat.le_of_ble_eq_true rfl) (Nat.le_trans (Nat.le_of_ble_eq_true rfl) hRf) (Nat.le_trans (Nat.le_of_ble_eq_true rfl) hRl) hcs dX8_pair_58 (fun H locs hw hS => ?_)
      refine x_ifeqB hx hb dX8_pair_61 (tgt := 67) (by decide) (fun cc => ?_) (fun cc => ?_)
      · replace hm := ite_n cc hm
        obtain ⟨v11, ev, hm⟩ := lt_e hm
        refine lv_iinc (v := v11) (lv' := [(5, .int v11), (0, .ref β), (1, .int q1), (2, .int q2), (3, .int q3), (4, .int u4)]) hx hb dX8_pair_67 hl (k := 5) rfl (by rw [ev]; rfl) (by decide) rfl (fun ls hl => ?_)
        clear ev
        refine lv_goto (tgt := 39) hx hb dX8_pair_70 (by decide) ?_
        exact ih _ _ _ _ _ _ hm hw hS (lv_sub hl [1, 2, 3, 4, 5, 0] rfl) ke
      · replace hm := ite_p cc hm
        obtain ⟨v12, ev, hm⟩ := lt_e hm
        refine lv_iinc (v := v12) (lv' := [(4, .int v12), (0, .ref β), (1, .int q1), (2, .int q2), (3, .int q3), (5, .int u5)]) hx hb dX8_pair_64 hl (k := 4) rfl (by rw [ev]; rfl) (by decide) rfl (fun ls hl => ?_)
        clear ev
        obtain ⟨v13, ev, hm⟩ := lt_e hm
        refine lv_iinc (v := v13) (lv' := [(5, .int v13), (4, .int v12), (0, .ref β), (1, .int q1), (2, .int q2), (3, .int q3)]) hx hb dX8_pair_67 hl (k := 5) rfl (by rw [ev]; rfl) (by decide) rfl (fun ls hl => ?_)
        clear ev
        refine lv_goto (tgt := 39) hx hb dX8_pair_70 (by decide) ?_
        exact ih _ _ _ _ _ _ hm hw hS (lv_sub hl [2, 3, 4, 5, 1, 0] rfl) ke
abbrev rmX8_pair : Room := { frames := 5, cells := 0, slots := 0, locals := 116 }
set_option maxHeartbeats 4000000 in
set_option maxRecDepth 100000 in
theorem kX8_pair {l : Launch} {G : xG} {β : Nat} {D : Nat → Prop} {x : XS} {a1 : Int32} {a2 : Int32} {a3 : Int32} {r : Int32} (hm : fX8_pair x a1 a2 a3 = some r) : Met l yX8_pair (.code yX8_pair cX8_pair 6 (some .int) :: GT) rmX8_pair (PcW [.ref β, .int a1, .int a2, .int a3] (CW β D G x) (KK G)) (QcW D (some (.int r)) (CW β D G x)) 0 0 D := by
  unfold fX8_pair at hm
  refine xpro (own := RX8) (by decide +kernel) rfl (Nat.le_of_ble_eq_true rfl) ?_
  intro p e s m args below meth c C hw ls hl
  have hx := C.1
  have hb := C.2.1
  have ho := C.2.2.2.1
  have hts := C.2.2.2.2.1
  have hf : Fz D G s.heap := hw.2.2.2.2
  have hS : va_S D s.heap s.heap [] := va_S.rf
  have hl : lv_has ls 6 [(0, .ref β), (1, .int a1), (2, .int a2), (3, .int a3)] := hl
  have hRf : 5 ≤ rmX8_pair.frames := Nat.le_refl _
  have hRl : 116 ≤ rmX8_pair.locals := Nat.le_refl _
  have hcs : 0 ≤ rmX8_pair.cells ∧ 0 ≤ rmX8_pair.slots := ⟨Nat.le_refl _, Nat.le_refl _⟩
  refine lv_aload_n hx hb dX8_pair_0 rfl (lv_at hl 0 rfl) ?_
  refine lv_iload_n hx hb dX8_pair_1 rfl (lv_at hl 1 rfl) ?_
  obtain ⟨v1, h2, hm⟩ := bind_e hm
  refine sX8_154 C h2 hw hS hl.1 (Nat.le_of_ble_eq_true rfl) (Nat.le_trans (Nat.le_of_ble_eq_true rfl) hRf) (Nat.le_trans (Nat.le_of_ble_eq_true rfl) hRl) hcs dX8_pair_2 (fun H locs hw hS => ?_)
  refine x_ifeqB hx hb dX8_pair_5 (tgt := 30) (by decide) (fun cc => ?_) (fun cc => ?_)
  · replace hm := ite_n cc hm
    refine lv_bipush (v := (-2)) hx hb dX8_pair_30 (by decide) ?_
    obtain rfl := Option.some.inj hm
    exact xret_i C hw hS dX8_pair_32
  · replace hm := ite_p cc hm
    refine lv_aload_n hx hb dX8_pair_8 rfl (lv_at hl 0 rfl) ?_
    refine lv_iload_n hx hb dX8_pair_9 rfl (lv_at hl 2 rfl) ?_
    obtain ⟨v3, h4, hm⟩ := bind_e hm
    refine sX8_154 C h4 hw hS hl.1 (Nat.le_of_ble_eq_true rfl) (Nat.le_trans (Nat.le_of_ble_eq_true rfl) hRf) (Nat.le_trans (Nat.le_of_ble_eq_true rfl) hRl) hcs dX8_pair_10 (fun H locs hw hS => ?_)
    refine x_ifeqB hx hb dX8_pair_13 (tgt := 30) (by decide) (fun cc => ?_) (fun cc => ?_)
    · replace hm := ite_n cc hm
      refine lv_bipush (v := (-2)) hx hb dX8_pair_30 (by decide) ?_
      obtain rfl := Option.some.inj hm
      exact xret_i C hw hS dX8_pair_32
    · replace hm := ite_p cc hm
      refine lv_iload_n hx hb dX8_pair_16 rfl (lv_at hl 1 rfl) ?_
      refine lv_iload_n hx hb dX8_pair_17 rfl (lv_at hl 2 rfl) ?_
      refine lv_icmp_eq (tgt := 30) hx hb dX8_pair_18 (by decide) (fun cc => ?_) (fun cc => ?_)
      · replace hm := ite_p cc hm
        refine lv_bipush (v := (-2)) hx hb dX8_pair_30 (by decide) ?_
        obtain rfl := Option.some.inj hm
        exact xret_i C hw hS dX8_pair_32
      · replace hm := ite_n cc hm
        refine lv_iload_n hx hb dX8_pair_21 rfl (lv_at hl 3 rfl) ?_
        refine lv_iconst (v := 0) hx hb dX8_pair_22 (by decide) ?_
        refine lv_iconst (v := 2) hx hb dX8_pair_23 (by decide) ?_
        obtain ⟨v5, h6, hm⟩ := bind_e hm
        refine sX8_138 C h6 hw hS hl.1 (Nat.le_of_ble_eq_true rfl) (Nat.le_trans (Nat.le_of_ble_eq_true rfl) hRf) (Nat.le_trans (Nat.le_of_ble_eq_true rfl) hRl) hcs dX8_pair_24 (fun H locs hw hS => ?_)
        refine x_ifneB hx hb dX8_pair_27 (tgt := 33) (by decide) (fun cc => ?_) (fun cc => ?_)
        · replace hm := ite_p cc hm
          refine lv_iconst (v := 0) hx hb dX8_pair_33 (by decide) ?_
          refine lv_istore (lv' := [(4, .int 0), (0, .ref β), (1, .int a1), (2, .int a2), (3, .int a3)]) hx hb dX8_pair_34 hl (by decide) rfl (fun ls hl => ?_)
          refine lv_iconst (v := 0) hx hb dX8_pair_36 (by decide) ?_
          refine lv_istore (lv' := [(5, .int 0), (4, .int 0), (0, .ref β), (1, .int a1), (2, .int a2), (3, .int a3)]) hx hb dX8_pair_37 hl (by decide) rfl (fun ls hl => ?_)
          obtain ⟨v14, hj, hm⟩ := bind_e hm
          refine lX8_pair_39 C hRf hRl hcs hf x a1 a2 a3 NF _ _ _ _ _ _ hj hw hS (lv_sub hl [2, 3, 4, 5, 1, 0] rfl) (fun v14_ e0 H locs ls hw hS hl => ?_)
          cases e0
          refine lv_iload hx hb dX8_pair_73 (lv_at hl 0 rfl) ?_
          obtain rfl := Option.some.inj hm
          exact xret_i C hw hS dX8_pair_75
        · replace hm := ite_n cc hm
          refine lv_bipush (v := (-2)) hx hb dX8_pair_30 (by decide) ?_
          obtain rfl := Option.some.inj hm
          exact xret_i C hw hS dX8_pair_32
theorem dX8_beatsOthers_0 : decode cX8_beatsOthers 0 = .ok (.aload_n 0, 1) := by decide +kernel
theorem dX8_beatsOthers_1 : decode cX8_beatsOthers 1 = .ok (.iload_n 2, 1) := by decide +kernel
theorem dX8_beatsOthers_2 : decode cX8_beatsOthers 2 = .ok (.iload_n 3, 1) := by decide +kernel
theorem dX8_beatsOthers_3 : decode cX8_beatsOthers 3 = .ok (.iload 4, 2) := by decide +kernel
theorem dX8_beatsOthers_5 : decode cX8_beatsOthers 5 = .ok (.iload 5, 2) := by decide +kernel
theorem dX8_beatsOthers_7 : decode cX8_beatsOthers 7 = .ok (.invokevirtual 376, 3) := by decide +kernel
theorem dX8_beatsOthers_10 : decode cX8_beatsOthers 10 = .ok (.istore 6, 2) := by decide +kernel
theorem dX8_beatsOthers_12 : decode cX8_beatsOthers 12 = .ok (.iconst 0, 1) := by decide +kernel
theorem dX8_beatsOthers_13 : decode cX8_beatsOthers 13 = .ok (.istore 7, 2) := by decide +kernel
theorem dX8_beatsOthers_15 : decode cX8_beatsOthers 15 = .ok (.iload 7, 2) := by decide +kernel
theorem dX8_beatsOthers_17 : decode cX8_beatsOthers 17 = .ok (.aload_n 0, 1) := by decide +kernel
theorem dX8_beatsOthers_18 : decode cX8_beatsOthers 18 = .ok (.getfield 15, 3) := by decide +kernel
theorem dX8_beatsOthers_21 : decode cX8_beatsOthers 21 = .ok (.if_icmp .ge 48, 3) := by decide +kernel
theorem dX8_beatsOthers_24 : decode cX8_beatsOthers 24 = .ok (.iload 7, 2) := by decide +kernel
theorem dX8_beatsOthers_26 : decode cX8_beatsOthers 26 = .ok (.iload_n 2, 1) := by decide +kernel
theorem dX8_beatsOthers_27 : decode cX8_beatsOthers 27 = .ok (.if_icmp .eq 36, 3) := by decide +kernel
theorem dX8_beatsOthers_30 : decode cX8_beatsOthers 30 = .ok (.aload_n 0, 1) := by decide +kernel
theorem dX8_beatsOthers_31 : decode cX8_beatsOthers 31 = .ok (.iload_n 1, 1) := by decide +kernel
theorem dX8_beatsOthers_32 : decode cX8_beatsOthers 32 = .ok (.iload 7, 2) := by decide +kernel
theorem dX8_beatsOthers_34 : decode cX8_beatsOthers 34 = .ok (.invokevirtual 193, 3) := by decide +kernel
theorem dX8_beatsOthers_37 : decode cX8_beatsOthers 37 = .ok (.ifCond .eq 26, 3) := by decide +kernel
theorem dX8_beatsOthers_40 : decode cX8_beatsOthers 40 = .ok (.aload_n 0, 1) := by decide +kernel
theorem dX8_beatsOthers_41 : decode cX8_beatsOthers 41 = .ok (.iload 7, 2) := by decide +kernel
theorem dX8_beatsOthers_43 : decode cX8_beatsOthers 43 = .ok (.aload_n 0, 1) := by decide +kernel
theorem dX8_beatsOthers_44 : decode cX8_beatsOthers 44 = .ok (.iload 7, 2) := by decide +kernel
theorem dX8_beatsOthers_46 : decode cX8_beatsOthers 46 = .ok (.invokevirtual 258, 3) := by decide +kernel
theorem dX8_beatsOthers_49 : decode cX8_beatsOthers 49 = .ok (.iload 4, 2) := by decide +kernel
theorem dX8_beatsOthers_51 : decode cX8_beatsOthers 51 = .ok (.iload 5, 2) := by decide +kernel
theorem dX8_beatsOthers_53 : decode cX8_beatsOthers 53 = .ok (.invokevirtual 376, 3) := by decide +kernel
theorem dX8_beatsOthers_56 : decode cX8_beatsOthers 56 = .ok (.iload 6, 2) := by decide +kernel
theorem dX8_beatsOthers_58 : decode cX8_beatsOthers 58 = .ok (.if_icmp .lt 5, 3) := by decide +kernel
theorem dX8_beatsOthers_61 : decode cX8_beatsOthers 61 = .ok (.iconst 0, 1) := by decide +kernel
theorem dX8_beatsOthers_62 : decode cX8_beatsOthers 62 = .ok (.ireturn, 1) := by decide +kernel
theorem dX8_beatsOthers_63 : decode cX8_beatsOthers 63 = .ok (.iinc 7 1, 3) := by decide +kernel
theorem dX8_beatsOthers_66 : decode cX8_beatsOthers 66 = .ok (.goto (-51), 3) := by decide +kernel
theorem dX8_beatsOthers_69 : decode cX8_beatsOthers 69 = .ok (.iconst 1, 1) := by decide +kernel
theorem dX8_beatsOthers_70 : decode cX8_beatsOthers 70 = .ok (.ireturn, 1) := by decide +kernel
def BX8_beatsOthers_15 (x : XS) (q1 : Int32) (q2 : Int32) (q4 : Int32) (q5 : Int32) (q6 : Int32) (lp : Int32 → Option ((Bool) ⊕ (Unit))) (u7 : Int32) : Option ((Bool) ⊕ (Unit)) := if (x.1 0 1) ≤ u7 then some (.inr ()) else if u7 = q2 then lt (u7 + 1) fun v3 => lp v3 else Option.bind (fX8_isIn x q1 u7) fun v4 => if v4 = true then Option.bind (fX8_leadOf x u7) fun v7 => Option.bind (fX8_ratingOf x u7 v7 q4 q5) fun v9 => if v9 < q6 then lt (u7 + 1) fun v11 => lp v11 else some (.inl false) else lt (u7 + 1) fun v6 => lp v6
def LX8_beatsOthers_15 (x : XS) (q1 : Int32) (q2 : Int32) (q4 : Int32) (q5 : Int32) (q6 : Int32) : Nat → Int32 → Option ((Bool) ⊕ (Unit))
  | 0, _ => none
  | n + 1, u7 => BX8_beatsOthers_15 x q1 q2 q4 q5 q6 (LX8_beatsOthers_15 x q1 q2 q4 q5 q6 n) u7
def fX8_beatsOthers (x : XS) (a1 : Int32) (a2 : Int32) (a3 : Int32) (a4 : Int32) (a5 : Int32) : Option (Bool) := Option.bind (fX8_ratingOf x a2 a3 a4 a5) fun v1 => bs (LX8_beatsOthers_15 x a1 a2 a4 a5 v1 NF 0) (fun a => some a) (fun _ => some true)
set_option maxHeartbeats 4000000 in
set_option maxRecDepth 100000 in
theorem lX8_beatsOthers_15 {p : Program} {l : Launch} {e : Env} {R : Room} {s : State} {m : MethodId} {args : Array Value} {below : List Frame} {meth : Method} {c : Code} {cells slots : Nat} {Q : State → Prop} {G : xG} {β : Nat} {D : Nat → Prop} (C : Cx p s m args meth c RX8 cX8_beatsOthers 8 (some .boolean) (KK G)) (hRf : 4 ≤ R.frames) (hRl : 90 ≤ R.locals) (hcs : cells ≤ R.cells ∧ slots ≤ R.slots) (hf : Fz D G s.heap) (x : XS) (q1 : Int32) (q2 : Int32) (q4 : Int32) (q5 : Int32) (q6 : Int32) : ∀ (n : Nat) (u7 : Int32) (J : (Bool) ⊕ (Unit)) (H : Heap) (locs : List Loc) (ls : Array Slot), LX8_beatsOthers_15 x q1 q2 q4 q5 q6 n u7 = some J → CW β D G x H → va_S D s.heap H locs → lv_has ls 8 [(0, .ref β), (1, .int q1), (2, .int q2), (4, .int q4), (5, .int q5), (6, .int q6), (7, .int u7)] → (∀ (w : Unit), J = .inr w → ∀ (H : Heap) (locs : List Loc) (ls : Array Slot), CW β D G x H → va_S D s.heap H locs → lv_has ls 8 [] → W p l e R s m args below meth c H locs cells slots Q (F0 m 69 ls [])) → (∀ (rv : Bool), J = .inl rv → ∀ (H : Heap) (locs : List Loc) (ls : Array Slot), CW β D G x H → va_S D s.heap H locs → W p l e R s m args below meth c H locs cells slots Q (F0 m 62 ls [.int (bI rv)])) → W p l e R s m args below meth c H locs cells slots Q (F0 m 15 ls []) := by
  have hx := C.1
  have hb := C.2.1
  have ho := C.2.2.2.1
  have hts := C.2.2.2.2.1
  intro n
  induction n with
  | zero =>
    intro u7 J H locs ls hm
    exact absurd hm (by simp [LX8_beatsOthers_15])
  | succ n ih =>
    intro u7 J H locs ls hm hw hS hl ke kr62
    replace hm : BX8_beatsOthers_15 x q1 q2 q4 q5 q6 (LX8_beatsOthers_15 x q1 q2 q4 q5 q6 n) u7 = some J := hm
    unfold BX8_beatsOthers_15 at hm
    refine lv_iload hx hb dX8_beatsOthers_15 (lv_at hl 6 rfl) ?_
    refine lv_aload_n hx hb dX8_beatsOthers_17 rfl (lv_at hl 0 rfl) ?_
    refine gX8_15 C hw dX8_beatsOthers_18 ?_
    refine lv_icmp_ge (tgt := 69) hx hb dX8_beatsOthers_21 (by decide) (fun cc => ?_) (fun cc => ?_)
    · replace hm := ite_p cc hm
      exact ke _ (Option.some.inj hm).symm _ _ _ hw hS (lv_sub hl [] rfl)
    · replace hm := ite_n cc hm
      refine lv_iload hx hb dX8_beatsOthers_24 (lv_at hl 6 rfl) ?_
      refine lv_iload_n hx hb dX8_beatsOthers_26 rfl (lv_at hl 2 rfl) ?_
      refine lv_icmp_eq (tgt := 63) hx hb dX8_beatsOthers_27 (by decide) (fun cc => ?_) (fun cc => ?_)
      · replace hm := ite_p cc hm
        obtain ⟨v3, ev, hm⟩ := lt_e hm
        refine lv_iinc (v := v3) (lv' := [(7, .int v3), (0, .ref β), (1, .int q1), (2, .int q2), (4, .int q4), (5, .int q5), (6, .int q6)]) hx hb dX8_beatsOthers_63 hl (k := 6) rfl (by rw [ev]; rfl) (by decide) rfl (fun ls hl => ?_)
        clear ev
        refine lv_goto (tgt := 15) hx hb dX8_beatsOthers_66 (by decide) ?_
        exact ih _ _ _ _ _ hm hw hS (lv_sub hl [1, 2, 3, 4, 5, 6, 0] rfl) ke kr62
      · replace hm := ite_n cc hm
        refine lv_aload_n hx hb dX8_beatsOthers_30 rfl (lv_at hl 0 rfl) ?_
        refine lv_iload_n hx hb dX8_beatsOthers_31 rfl (lv_at hl 1 rfl) ?_
        refine lv_iload hx hb dX8_beatsOthers_32 (lv_at hl 6 rfl) ?_
        obtain ⟨v4, h5, hm⟩ := bind_e hm
        refine sX8_193 C h5 hw hS hl.1 (Nat.le_of_ble_eq_true rfl) (Nat.le_trans (Nat.le_of_ble_eq_true rfl) hRf) (Nat.le_trans (Nat.le_of_ble_eq_true rfl) hRl) hcs dX8_beatsOthers_34 (fun H locs hw hS => ?_)
        refine x_ifeqB hx hb dX8_beatsOthers_37 (tgt := 63) (by decide) (fun cc => ?_) (fun cc => ?_)
        · replace hm := ite_n cc hm
          obtain ⟨v6, ev, hm⟩ := lt_e hm
          refine lv_iinc (v := v6) (lv' := [(7, .int v6), (0, .ref β), (1, .int q1), (2, .int q2), (4, .int q4), (5, .int q5), (6, .int q6)]) hx hb dX8_beatsOthers_63 hl (k := 6) rfl (by rw [ev]; rfl) (by decide) rfl (fun ls hl => ?_)
          clear ev
          refine lv_goto (tgt := 15) hx hb dX8_beatsOthers_66 (by decide) ?_
          exact ih _ _ _ _ _ hm hw hS (lv_sub hl [1, 2, 3, 4, 5, 6, 0] rfl) ke kr62
        · replace hm := ite_p cc hm
          refine lv_aload_n hx hb dX8_beatsOthers_40 rfl (lv_at hl 0 rfl) ?_
          refine lv_iload hx hb dX8_beatsOthers_41 (lv_at hl 6 rfl) ?_
          refine lv_aload_n hx hb dX8_beatsOthers_43 rfl (lv_at hl 0 rfl) ?_
          refine lv_iload hx hb dX8_beatsOthers_44 (lv_at hl 6 rfl) ?_
          obtain ⟨v7, h8, hm⟩ := bind_e hm
          refine sX8_258 C h8 hw hS hl.1 (Nat.le_of_ble_eq_true rfl) (Nat.le_trans (Nat.le_of_ble_eq_true rfl) hRf) (Nat.le_trans (Nat.le_of_ble_eq_true rfl) hRl) hcs dX8_beatsOthers_46 (fun H locs hw hS => ?_)
          refine lv_iload hx hb dX8_beatsOthers_49 (lv_at hl 3 rfl) ?_
          refine lv_iload hx hb dX8_beatsOthers_51 (lv_at hl 4 rfl) ?_
          obtain ⟨v9, h10, hm⟩ := bind_e hm
          refine sX8_376 C h10 hw hS hl.1 (Nat.le_of_ble_eq_true rfl) (Nat.le_trans (Nat.le_of_ble_eq_true rfl) hRf) (Nat.le_trans (Nat.le_of_ble_eq_true rfl) hRl) hcs dX8_beatsOthers_53 (fun H locs hw hS => ?_)
          refine lv_iload hx hb dX8_beatsOthers_56 (lv_at hl 5 rfl) ?_
          refine lv_icmp_lt (tgt := 63) hx hb dX8_beatsOthers_58 (by decide) (fun cc => ?_) (fun cc => ?_)
          · replace hm := ite_p cc hm
            obtain ⟨v11, ev, hm⟩ := lt_e hm
            refine lv_iinc (v := v11) (lv' := [(7, .int v11), (0, .ref β), (1, .int q1), (2, .int q2), (4, .int q4), (5, .int q5), (6, .int q6)]) hx hb dX8_beatsOthers_63 hl (k := 6) rfl (by rw [ev]; rfl) (by decide) rfl (fun ls hl => ?_)
            clear ev
            refine lv_goto (tgt := 15) hx hb dX8_beatsOthers_66 (by decide) ?_
            exact ih _ _ _ _ _ hm hw hS (lv_sub hl [1, 2, 3, 4, 5, 6, 0] rfl) ke kr62
          · replace hm := ite_n cc hm
            refine lv_iconst (v := 0) hx hb dX8_beatsOthers_61 (by decide) ?_
            exact kr62 _ (Option.some.inj hm).symm _ _ _ hw hS
abbrev rmX8_beatsOthers : Room := { frames := 4, cells := 0, slots := 0, locals := 90 }
set_option maxHeartbeats 4000000 in
set_option maxRecDepth 100000 in
theorem kX8_beatsOthers {l : Launch} {G : xG} {β : Nat} {D : Nat → Prop} {x : XS} {a1 : Int32} {a2 : Int32} {a3 : Int32} {a4 : Int32} {a5 : Int32} {r : Bool} (hm : fX8_beatsOthers x a1 a2 a3 a4 a5 = some r) : Met l yX8_beatsOthers (.code yX8_beatsOthers cX8_beatsOthers 8 (some .boolean) :: GT) rmX8_beatsOthers (PcW [.ref β, .int a1, .int a2, .int a3, .int a4, .int a5] (CW β D G x) (KK G)) (QcW D (some (.int (bI r))) (CW β D G x)) 0 0 D := by
  unfold fX8_beatsOthers at hm
  refine xpro (own := RX8) (by decide +kernel) rfl (Nat.le_of_ble_eq_true rfl) ?_
  intro p e s m args below meth c C hw ls hl
  have hx := C.1
  have hb := C.2.1
  have ho := C.2.2.2.1
  have hts := C.2.2.2.2.1
  have hf : Fz D G s.heap := hw.2.2.2.2
  have hS : va_S D s.heap s.heap [] := va_S.rf
  have hl : lv_has ls 8 [(0, .ref β), (1, .int a1), (2, .int a2), (3, .int a3), (4, .int a4), (5, .int a5)] := hl
  have hRf : 4 ≤ rmX8_beatsOthers.frames := Nat.le_refl _
  have hRl : 90 ≤ rmX8_beatsOthers.locals := Nat.le_refl _
  have hcs : 0 ≤ rmX8_beatsOthers.cells ∧ 0 ≤ rmX8_beatsOthers.slots := ⟨Nat.le_refl _, Nat.le_refl _⟩
  refine lv_aload_n hx hb dX8_beatsOthers_0 rfl (lv_at hl 0 rfl) ?_
  refine lv_iload_n hx hb dX8_beatsOthers_1 rfl (lv_at hl 2 rfl) ?_
  refine lv_iload_n hx hb dX8_beatsOthers_2 rfl (lv_at hl 3 rfl) ?_
  refine lv_iload hx hb dX8_beatsOthers_3 (lv_at hl 4 rfl) ?_
  refine lv_iload hx hb dX8_beatsOthers_5 (lv_at hl 5 rfl) ?_
  obtain ⟨v1, h2, hm⟩ := bind_e hm
  refine sX8_376 C h2 hw hS hl.1 (Nat.le_of_ble_eq_true rfl) (Nat.le_trans (Nat.le_of_ble_eq_true rfl) hRf) (Nat.le_trans (Nat.le_of_ble_eq_true rfl) hRl) hcs dX8_beatsOthers_7 (fun H locs hw hS => ?_)
  refine lv_istore (lv' := [(6, .int v1), (0, .ref β), (1, .int a1), (2, .int a2), (3, .int a3), (4, .int a4), (5, .int a5)]) hx hb dX8_beatsOthers_10 hl (by decide) rfl (fun ls hl => ?_)
  refine lv_iconst (v := 0) hx hb dX8_beatsOthers_12 (by decide) ?_
  refine lv_istore (lv' := [(7, .int 0), (6, .int v1), (0, .ref β), (1, .int a1), (2, .int a2), (3, .int a3), (4, .int a4), (5, .int a5)]) hx hb dX8_beatsOthers_13 hl (by decide) rfl (fun ls hl => ?_)
  rcases bs_e hm with ⟨a, hj, hm⟩ | ⟨b, hj, hm⟩
  · refine lX8_beatsOthers_15 C hRf hRl hcs hf x a1 a2 a4 a5 v1 NF _ _ _ _ _ hj hw hS (lv_sub hl [2, 3, 4, 6, 7, 1, 0] rfl) (fun _ e0 => by cases e0) (fun rv e0 H locs ls hw hS => ?_)
    · cases e0
      obtain rfl := Option.some.inj hm
      exact xret_z C (bI_nar _) hw hS dX8_beatsOthers_62
  · refine lX8_beatsOthers_15 C hRf hRl hcs hf x a1 a2 a4 a5 v1 NF _ _ _ _ _ hj hw hS (lv_sub hl [2, 3, 4, 6, 7, 1, 0] rfl) (fun _ e0 H locs ls hw hS hl => ?_) (fun _ e0 => by cases e0)
    refine lv_iconst (v := 1) hx hb dX8_beatsOthers_69 (by decide) ?_
    obtain rfl := Option.some.inj hm
    exact xret_z (v := bI true) C (bI_nar _) hw hS dX8_beatsOthers_70
theorem dX8_gainOf_0 : decode cX8_gainOf 0 = .ok (.iload_n 2, 1) := by decide +kernel
theorem dX8_gainOf_1 : decode cX8_gainOf 1 = .ok (.bipush 100, 2) := by decide +kernel
theorem dX8_gainOf_3 : decode cX8_gainOf 3 = .ok (.idiv, 1) := by decide +kernel
theorem dX8_gainOf_4 : decode cX8_gainOf 4 = .ok (.istore 6, 2) := by decide +kernel
theorem dX8_gainOf_6 : decode cX8_gainOf 6 = .ok (.iload_n 2, 1) := by decide +kernel
theorem dX8_gainOf_7 : decode cX8_gainOf 7 = .ok (.bipush 100, 2) := by decide +kernel
theorem dX8_gainOf_9 : decode cX8_gainOf 9 = .ok (.irem, 1) := by decide +kernel
theorem dX8_gainOf_10 : decode cX8_gainOf 10 = .ok (.istore 7, 2) := by decide +kernel
theorem dX8_gainOf_12 : decode cX8_gainOf 12 = .ok (.aload_n 0, 1) := by decide +kernel
theorem dX8_gainOf_13 : decode cX8_gainOf 13 = .ok (.iload_n 3, 1) := by decide +kernel
theorem dX8_gainOf_14 : decode cX8_gainOf 14 = .ok (.invokevirtual 258, 3) := by decide +kernel
theorem dX8_gainOf_17 : decode cX8_gainOf 17 = .ok (.istore 8, 2) := by decide +kernel
theorem dX8_gainOf_19 : decode cX8_gainOf 19 = .ok (.iconst 0, 1) := by decide +kernel
theorem dX8_gainOf_20 : decode cX8_gainOf 20 = .ok (.istore 9, 2) := by decide +kernel
theorem dX8_gainOf_22 : decode cX8_gainOf 22 = .ok (.iconst 0, 1) := by decide +kernel
theorem dX8_gainOf_23 : decode cX8_gainOf 23 = .ok (.istore 10, 2) := by decide +kernel
theorem dX8_gainOf_25 : decode cX8_gainOf 25 = .ok (.iload 10, 2) := by decide +kernel
theorem dX8_gainOf_27 : decode cX8_gainOf 27 = .ok (.iload 7, 2) := by decide +kernel
theorem dX8_gainOf_29 : decode cX8_gainOf 29 = .ok (.if_icmp .gt 117, 3) := by decide +kernel
theorem dX8_gainOf_32 : decode cX8_gainOf 32 = .ok (.iload 5, 2) := by decide +kernel
theorem dX8_gainOf_34 : decode cX8_gainOf 34 = .ok (.iload 10, 2) := by decide +kernel
theorem dX8_gainOf_36 : decode cX8_gainOf 36 = .ok (.ishr, 1) := by decide +kernel
theorem dX8_gainOf_37 : decode cX8_gainOf 37 = .ok (.iconst 1, 1) := by decide +kernel
theorem dX8_gainOf_38 : decode cX8_gainOf 38 = .ok (.iand, 1) := by decide +kernel
theorem dX8_gainOf_39 : decode cX8_gainOf 39 = .ok (.iconst 1, 1) := by decide +kernel
theorem dX8_gainOf_40 : decode cX8_gainOf 40 = .ok (.if_icmp .ne 7, 3) := by decide +kernel
theorem dX8_gainOf_43 : decode cX8_gainOf 43 = .ok (.iconst 1, 1) := by decide +kernel
theorem dX8_gainOf_44 : decode cX8_gainOf 44 = .ok (.goto 4, 3) := by decide +kernel
theorem dX8_gainOf_47 : decode cX8_gainOf 47 = .ok (.iconst 0, 1) := by decide +kernel
theorem dX8_gainOf_48 : decode cX8_gainOf 48 = .ok (.istore 11, 2) := by decide +kernel
theorem dX8_gainOf_50 : decode cX8_gainOf 50 = .ok (.iload 11, 2) := by decide +kernel
theorem dX8_gainOf_52 : decode cX8_gainOf 52 = .ok (.ifCond .eq 22, 3) := by decide +kernel
theorem dX8_gainOf_55 : decode cX8_gainOf 55 = .ok (.aload_n 0, 1) := by decide +kernel
theorem dX8_gainOf_56 : decode cX8_gainOf 56 = .ok (.iload_n 1, 1) := by decide +kernel
theorem dX8_gainOf_57 : decode cX8_gainOf 57 = .ok (.iload_n 3, 1) := by decide +kernel
theorem dX8_gainOf_58 : decode cX8_gainOf 58 = .ok (.iload 8, 2) := by decide +kernel
theorem dX8_gainOf_60 : decode cX8_gainOf 60 = .ok (.iload 6, 2) := by decide +kernel
theorem dX8_gainOf_62 : decode cX8_gainOf 62 = .ok (.iload 10, 2) := by decide +kernel
theorem dX8_gainOf_64 : decode cX8_gainOf 64 = .ok (.invokevirtual 414, 3) := by decide +kernel
theorem dX8_gainOf_67 : decode cX8_gainOf 67 = .ok (.ifCond .eq 7, 3) := by decide +kernel
theorem dX8_gainOf_70 : decode cX8_gainOf 70 = .ok (.iconst 1, 1) := by decide +kernel
theorem dX8_gainOf_71 : decode cX8_gainOf 71 = .ok (.goto 4, 3) := by decide +kernel
theorem dX8_gainOf_74 : decode cX8_gainOf 74 = .ok (.iconst 0, 1) := by decide +kernel
theorem dX8_gainOf_75 : decode cX8_gainOf 75 = .ok (.istore 12, 2) := by decide +kernel
theorem dX8_gainOf_77 : decode cX8_gainOf 77 = .ok (.iload 12, 2) := by decide +kernel
theorem dX8_gainOf_79 : decode cX8_gainOf 79 = .ok (.ifCond .eq 22, 3) := by decide +kernel
theorem dX8_gainOf_82 : decode cX8_gainOf 82 = .ok (.iload 9, 2) := by decide +kernel
theorem dX8_gainOf_84 : decode cX8_gainOf 84 = .ok (.iload 10, 2) := by decide +kernel
theorem dX8_gainOf_86 : decode cX8_gainOf 86 = .ok (.iload 7, 2) := by decide +kernel
theorem dX8_gainOf_88 : decode cX8_gainOf 88 = .ok (.if_icmp .ne 8, 3) := by decide +kernel
theorem dX8_gainOf_91 : decode cX8_gainOf 91 = .ok (.iload 4, 2) := by decide +kernel
theorem dX8_gainOf_93 : decode cX8_gainOf 93 = .ok (.goto 5, 3) := by decide +kernel
theorem dX8_gainOf_96 : decode cX8_gainOf 96 = .ok (.bipush 10, 2) := by decide +kernel
theorem dX8_gainOf_98 : decode cX8_gainOf 98 = .ok (.iadd, 1) := by decide +kernel
theorem dX8_gainOf_99 : decode cX8_gainOf 99 = .ok (.istore 9, 2) := by decide +kernel
theorem dX8_gainOf_101 : decode cX8_gainOf 101 = .ok (.iload 11, 2) := by decide +kernel
theorem dX8_gainOf_103 : decode cX8_gainOf 103 = .ok (.ifCond .ne 15, 3) := by decide +kernel
theorem dX8_gainOf_106 : decode cX8_gainOf 106 = .ok (.iload 9, 2) := by decide +kernel
theorem dX8_gainOf_108 : decode cX8_gainOf 108 = .ok (.aload_n 0, 1) := by decide +kernel
theorem dX8_gainOf_109 : decode cX8_gainOf 109 = .ok (.iload_n 3, 1) := by decide +kernel
theorem dX8_gainOf_110 : decode cX8_gainOf 110 = .ok (.iload 8, 2) := by decide +kernel
theorem dX8_gainOf_112 : decode cX8_gainOf 112 = .ok (.invokevirtual 180, 3) := by decide +kernel
theorem dX8_gainOf_115 : decode cX8_gainOf 115 = .ok (.isub, 1) := by decide +kernel
theorem dX8_gainOf_116 : decode cX8_gainOf 116 = .ok (.istore 9, 2) := by decide +kernel
theorem dX8_gainOf_118 : decode cX8_gainOf 118 = .ok (.iload 8, 2) := by decide +kernel
theorem dX8_gainOf_120 : decode cX8_gainOf 120 = .ok (.iload 12, 2) := by decide +kernel
theorem dX8_gainOf_122 : decode cX8_gainOf 122 = .ok (.ifCond .eq 7, 3) := by decide +kernel
theorem dX8_gainOf_125 : decode cX8_gainOf 125 = .ok (.iconst 4, 1) := by decide +kernel
theorem dX8_gainOf_126 : decode cX8_gainOf 126 = .ok (.goto 5, 3) := by decide +kernel
theorem dX8_gainOf_129 : decode cX8_gainOf 129 = .ok (.bipush (-2), 2) := by decide +kernel
theorem dX8_gainOf_131 : decode cX8_gainOf 131 = .ok (.iadd, 1) := by decide +kernel
theorem dX8_gainOf_132 : decode cX8_gainOf 132 = .ok (.iconst 0, 1) := by decide +kernel
theorem dX8_gainOf_133 : decode cX8_gainOf 133 = .ok (.bipush 60, 2) := by decide +kernel
theorem dX8_gainOf_135 : decode cX8_gainOf 135 = .ok (.invokestatic 397, 3) := by decide +kernel
theorem dX8_gainOf_138 : decode cX8_gainOf 138 = .ok (.istore 8, 2) := by decide +kernel
theorem dX8_gainOf_140 : decode cX8_gainOf 140 = .ok (.iinc 10 1, 3) := by decide +kernel
theorem dX8_gainOf_143 : decode cX8_gainOf 143 = .ok (.goto (-118), 3) := by decide +kernel
theorem dX8_gainOf_146 : decode cX8_gainOf 146 = .ok (.iload 9, 2) := by decide +kernel
theorem dX8_gainOf_148 : decode cX8_gainOf 148 = .ok (.ireturn, 1) := by decide +kernel
theorem sX8_414 {p : Program} {l : Launch} {e : Env} {R : Room} {s : State} {m : MethodId} {args : Array Value} {below : List Frame} {meth : Method} {c : Code} {H : Heap} {locs : List Loc} {cells slots : Nat} {Q : State → Prop} {cc : ByteArray} {pc nL : Nat} {ls : Array Slot} {rest : List Value} {ret : Option FieldType}  {G : xG} {β : Nat} {D : Nat → Prop} {x : XS} {a1 : Int32} {a2 : Int32} {a3 : Int32} {a4 : Int32} {a5 : Int32} {r : Bool} (C : Cx p s m args meth c RX8 cc nL ret (KK G)) (h : fX8_beatsOthers x a1 a2 a3 a4 a5 = some r) (hw : CW β D G x H) (hS : va_S D s.heap H locs) (hsz : ls.size = nL) (hW : (rest.map fun v => v.category).sum ≤ 8) (hR : 5 ≤ R.frames) (hR2 : 117 ≤ R.locals) (hcs : cells ≤ R.cells ∧ slots ≤ R.slots) (hd : decode cc pc = .ok (.invokevirtual 414, 3)) (kk : ∀ (H1 : Heap) (locs1 : List Loc), CW β D G x H1 → va_S D s.heap H1 locs1 → W p l e R s m args below meth c H1 locs1 cells slots Q (F0 m (pc + 3) ls (.int (bI r) :: rest))) : W p l e R s m args below meth c H locs cells slots Q (F0 m pc ls (.int a5 :: .int a4 :: .int a3 :: .int a2 :: .int a1 :: .ref β :: rest)) := by
  exact xcallV C (As := [.int a1, .int a2, .int a3, .int a4, .int a5]) (rest := rest) (nA := 5) (ci := 8) (kX8_beatsOthers h) (tg 795 (by decide +kernel) rfl) (tg 797 (by decide +kernel) rfl) (sg (List.mem_of_getElem? (i := 49) (by decide +kernel)) rfl) (tg 1 (by decide +kernel) rfl) (tg 798 (by decide +kernel) rfl) ⟨rfl, by decide +kernel, by decide +kernel, by decide +kernel⟩ rfl rfl rfl ⟨hR, hR2⟩ (hw.2.2.1 0 (by decide)) hw hS (fun _ q => q) rfl rfl hsz hW hd hcs (fun H1 locs1 hw hz hk hS => kk H1 locs1 hw hS)
def BX8_gainOf_25 (q1 : Int32) (q3 : Int32) (q4 : Int32) (q5 : Int32) (q6 : Int32) (q7 : Int32) (lp : Int32 → Int32 → Int32 → XS → Option (Int32 × XS)) (u8 : Int32) (u9 : Int32) (u10 : Int32) (x : XS) : Option (Int32 × XS) := if q7 < u10 then some (u9, x) else Option.bind (if ((q5 >>> (u10 &&& 31)) &&& 1) = 1 then some true else some false) fun v5 => Option.bind (if v5 = true then Option.bind (fX8_beatsOthers x q1 q3 u8 q6 u10) fun v6 => if v6 = true then some true else some false else some false) fun v8 => Option.bind (if v8 = true then if u10 = q7 then lt (u9 + q4) fun v10 => some v10 else lt (u9 + 10) fun v9 => some v9 else some u9) fun v11 => bind2 (if v5 = true then some (v11, x) else bind2 (fX8_holdCost x q3 u8) fun v12 x13 => lt (v11 - v12) fun v15 => some (v15, x13)) fun v16 x17 => if v8 = true then Option.bind (fX8_bounded (u8 + 4) 0 60) fun v21 => lt (u10 + 1) fun v23 => lp v21 v16 v23 x17 else Option.bind (fX8_bounded (u8 + (-2)) 0 60) fun v18 => lt (u10 + 1) fun v20 => lp v18 v16 v20 x17
def LX8_gainOf_25 (q1 : Int32) (q3 : Int32) (q4 : Int32) (q5 : Int32) (q6 : Int32) (q7 : Int32) : Nat → Int32 → Int32 → Int32 → XS → Option (Int32 × XS)
  | 0, _, _, _, _ => none
  | n + 1, u8, u9, u10, x => BX8_gainOf_25 q1 q3 q4 q5 q6 q7 (LX8_gainOf_25 q1 q3 q4 q5 q6 q7 n) u8 u9 u10 x
def fX8_gainOf (x : XS) (a1 : Int32) (a2 : Int32) (a3 : Int32) (a4 : Int32) (a5 : Int32) : Option (Int32 × XS) := lt (a2 / 100) fun v1 => lt (irm a2 100) fun v2 => Option.bind (fX8_leadOf x a3) fun v3 => bind2 (LX8_gainOf_25 a1 a3 a4 a5 v1 v2 NF v3 0 0 x) fun v24 x25 => some (v24, x25)
set_option maxHeartbeats 4000000 in
set_option maxRecDepth 100000 in
theorem lX8_gainOf_25 {p : Program} {l : Launch} {e : Env} {R : Room} {s : State} {m : MethodId} {args : Array Value} {below : List Frame} {meth : Method} {c : Code} {cells slots : Nat} {Q : State → Prop} {G : xG} {β : Nat} {D : Nat → Prop} (C : Cx p s m args meth c RX8 cX8_gainOf 13 (some .int) (KK G)) (hRf : 6 ≤ R.frames) (hRl : 141 ≤ R.locals) (hcs : cells ≤ R.cells ∧ slots ≤ R.slots) (hf : Fz D G s.heap) (q1 : Int32) (q3 : Int32) (q4 : Int32) (q5 : Int32) (q6 : Int32) (q7 : Int32) : ∀ (n : Nat) (u8 : Int32) (u9 : Int32) (u10 : Int32) (x : XS) (J : Int32 × XS) (H : Heap) (locs : List Loc) (ls : Array Slot), LX8_gainOf_25 q1 q3 q4 q5 q6 q7 n u8 u9 u10 x = some J → CW β D G x H → va_S D s.heap H locs → lv_has ls 13 [(0, .ref β), (1, .int q1), (3, .int q3), (4, .int q4), (5, .int q5), (6, .int q6), (7, .int q7), (8, .int u8), (9, .int u9), (10, .int u10)] → (∀ (w9 : Int32) (x1 : XS), J = (w9, x1) → ∀ (H : Heap) (locs : List Loc) (ls : Array Slot), CW β D G x1 H → va_S D s.heap H locs → lv_has ls 13 [(9, .int w9)] → W p l e R s m args below meth c H locs cells slots Q (F0 m 146 ls [])) → W p l e R s m args below meth c H locs cells slots Q (F0 m 25 ls []) := by
  have hx := C.1
  have hb := C.2.1
  have ho := C.2.2.2.1
  have hts := C.2.2.2.2.1
  intro n
  induction n with
  | zero =>
    intro u8 u9 u10 x J H locs ls hm
    exact absurd hm (by simp [LX8_gainOf_25])
  | succ n ih =>
    intro u8 u9 u10 x J H locs ls hm hw hS hl ke
    replace hm : BX8_gainOf_25 q1 q3 q4 q5 q6 q7 (LX8_gainOf_25 q1 q3 q4 q5 q6 q7 n) u8 u9 u10 x = some J := hm
    unfold BX8_gainOf_25 at hm
    refine lv_iload hx hb dX8_gainOf_25 (lv_at hl 9 rfl) ?_
    refine lv_iload hx hb dX8_gainOf_27 (lv_at hl 6 rfl) ?_
    refine lv_icmp_gt (tgt := 146) hx hb dX8_gainOf_29 (by decide) (fun cc => ?_) (fun cc => ?_)
    · replace hm := ite_p cc hm
      exact ke _ _ (Option.some.inj hm).symm _ _ _ hw hS (lv_sub hl [8] rfl)
    · replace hm := ite_n cc hm
      refine lv_iload hx hb dX8_gainOf_32 (lv_at hl 4 rfl) ?_
      refine lv_iload hx hb dX8_gainOf_34 (lv_at hl 9 rfl) ?_
      refine lv_ishr hx hb dX8_gainOf_36 ?_
      refine lv_iconst (v := 1) hx hb dX8_gainOf_37 (by decide) ?_
      refine lv_iand hx hb dX8_gainOf_38 ?_
      refine lv_iconst (v := 1) hx hb dX8_gainOf_39 (by decide) ?_
      obtain ⟨v5, hj, hm⟩ := bind_e hm
      have kk : ∀ (H : Heap) (locs : List Loc) (ls : Array Slot), CW β D G x H → va_S D s.heap H locs → lv_has ls 13 [(0, .ref β), (1, .int q1), (3, .int q3), (4, .int q4), (5, .int q5), (6, .int q6), (7, .int q7), (8, .int u8), (9, .int u9), (10, .int u10)] → W p l e R s m args below meth c H locs cells slots Q (F0 m 48 ls [.int (bI v5)]) := by
        intro H locs ls hw hS hl
        refine lv_istore (lv' := [(11, .int (bI v5)), (0, .ref β), (1, .int q1), (3, .int q3), (4, .int q4), (5, .int q5), (6, .int q6), (7, .int q7), (8, .int u8), (9, .int u9), (10, .int u10)]) hx hb dX8_gainOf_48 hl (by decide) rfl (fun ls hl => ?_)
        refine lv_iload hx hb dX8_gainOf_50 (lv_at hl 0 rfl) ?_
        obtain ⟨v8, hj, hm⟩ := bind_e hm
        have kk : ∀ (H : Heap) (locs : List Loc) (ls : Array Slot), CW β D G x H → va_S D s.heap H locs → lv_has ls 13 [(0, .ref β), (1, .int q1), (3, .int q3), (4, .int q4), (5, .int q5), (6, .int q6), (7, .int q7), (8, .int u8), (9, .int u9), (10, .int u10), (11, .int (bI v5))] → W p l e R s m args below meth c H locs cells slots Q (F0 m 75 ls [.int (bI v8)]) := by
          intro H locs ls hw hS hl
          refine lv_istore (lv' := [(12, .int (bI v8)), (0, .ref β), (1, .int q1), (3, .int q3), (4, .int q4), (5, .int q5), (6, .int q6), (7, .int q7), (8, .int u8), (9, .int u9), (10, .int u10), (11, .int (bI v5))]) hx hb dX8_gainOf_75 hl (by decide) rfl (fun ls hl => ?_)
          refine lv_iload hx hb dX8_gainOf_77 (lv_at hl 0 rfl) ?_
          obtain ⟨v11, hj, hm⟩ := bind_e hm
          have kk : ∀ (H : Heap) (locs : List Loc) (ls : Array Slot), CW β D G x H → va_S D s.heap H locs → lv_has ls 13 [(0, .ref β), (1, .int q1), (3, .int q3), (4, .int q4), (5, .int q5), (6, .int q6), (7, .int q7), (8, .int u8), (9, .int v11), (10, .int u10), (11, .int (bI v5)), (12, .int (bI v8))] → W p l e R s m args below meth c H locs cells slots Q (F0 m 101 ls []) := by
            intro H locs ls hw hS hl
            refine lv_iload hx hb dX8_gainOf_101 (lv_at hl 10 rfl) ?_
            obtain ⟨v16, x17, hj, hm⟩ := bind2_e hm
            have kk : ∀ (H : Heap) (locs : List Loc) (ls : Array Slot), CW β D G x17 H → va_S D s.heap H locs → lv_has ls 13 [(0, .ref β), (1, .int q1), (3, .int q3), (4, .int q4), (5, .int q5), (6, .int q6), (7, .int q7), (8, .int u8), (9, .int v16), (10, .int u10), (12, .int (bI v8))] → W p l e R s m args below meth c H locs cells slots Q (F0 m 118 ls []) := by
              intro H locs ls hw hS hl
              refine lv_iload hx hb dX8_gainOf_118 (lv_at hl 7 rfl) ?_
              refine lv_iload hx hb dX8_gainOf_120 (lv_at hl 10 rfl) ?_
              refine x_ifeqB hx hb dX8_gainOf_122 (tgt := 129) (by decide) (fun cc => ?_) (fun cc => ?_)
              · replace hm := ite_n cc hm
                refine lv_bipush (v := (-2)) hx hb dX8_gainOf_129 (by decide) ?_
                refine lv_iadd hx hb dX8_gainOf_131 ?_
                refine lv_iconst (v := 0) hx hb dX8_gainOf_132 (by decide) ?_
                refine lv_bipush (v := 60) hx hb dX8_gainOf_133 (by decide) ?_
                obtain ⟨v18, h19, hm⟩ := bind_e hm
                refine sX8_397 C h19 hw hS hl.1 (Nat.le_of_ble_eq_true rfl) (Nat.le_trans (Nat.le_of_ble_eq_true rfl) hRf) (Nat.le_trans (Nat.le_of_ble_eq_true rfl) hRl) hcs dX8_gainOf_135 (fun H locs hw hS => ?_)
                refine lv_istore (lv' := [(8, .int v18), (0, .ref β), (1, .int q1), (3, .int q3), (4, .int q4), (5, .int q5), (6, .int q6), (7, .int q7), (9, .int v16), (10, .int u10), (12, .int (bI v8))]) hx hb dX8_gainOf_138 hl (by decide) rfl (fun ls hl => ?_)
                obtain ⟨v20, ev, hm⟩ := lt_e hm
                refine lv_iinc (v := v20) (lv' := [(10, .int v20), (8, .int v18), (0, .ref β), (1, .int q1), (3, .int q3), (4, .int q4), (5, .int q5), (6, .int q6), (7, .int q7), (9, .int v16), (12, .int (bI v8))]) hx hb dX8_gainOf_140 hl (k := 9) rfl (by rw [ev]; rfl) (by decide) rfl (fun ls hl => ?_)
                clear ev
                refine lv_goto (tgt := 25) hx hb dX8_gainOf_143 (by decide) ?_
                exact ih _ _ _ _ _ _ _ _ hm hw hS (lv_sub hl [2, 3, 4, 5, 6, 7, 8, 1, 9, 0] rfl) ke
              · replace hm := ite_p cc hm
                refine lv_iconst (v := 4) hx hb dX8_gainOf_125 (by decide) ?_
                refine lv_goto (tgt := 131) hx hb dX8_gainOf_126 (by decide) ?_
                refine lv_iadd hx hb dX8_gainOf_131 ?_
                refine lv_iconst (v := 0) hx hb dX8_gainOf_132 (by decide) ?_
                refine lv_bipush (v := 60) hx hb dX8_gainOf_133 (by decide) ?_
                obtain ⟨v21, h22, hm⟩ := bind_e hm
                refine sX8_397 C h22 hw hS hl.1 (Nat.le_of_ble_eq_true rfl) (Nat.le_trans (Nat.le_of_ble_eq_true rfl) hRf) (Nat.le_trans (Nat.le_of_ble_eq_true rfl) hRl) hcs dX8_gainOf_135 (fun H locs hw hS => ?_)
                refine lv_istore (lv' := [(8, .int v21), (0, .ref β), (1, .int q1), (3, .int q3), (4, .int q4), (5, .int q5), (6, .int q6), (7, .int q7), (9, .int v16), (10, .int u10), (12, .int (bI v8))]) hx hb dX8_gainOf_138 hl (by decide) rfl (fun ls hl => ?_)
                obtain ⟨v23, ev, hm⟩ := lt_e hm
                refine lv_iinc (v := v23) (lv' := [(10, .int v23), (8, .int v21), (0, .ref β), (1, .int q1), (3, .int q3), (4, .int q4), (5, .int q5), (6, .int q6), (7, .int q7), (9, .int v16), (12, .int (bI v8))]) hx hb dX8_gainOf_140 hl (k := 9) rfl (by rw [ev]; rfl) (by decide) rfl (fun ls hl => ?_)
                clear ev
                refine lv_goto (tgt := 25) hx hb dX8_gainOf_143 (by decide) ?_
                exact ih _ _ _ _ _ _ _ _ hm hw hS (lv_sub hl [2, 3, 4, 5, 6, 7, 8, 1, 9, 0] rfl) ke
            clear hm
            replace hm := hj
            clear hj
            refine x_ifneB hx hb dX8_gainOf_103 (tgt := 118) (by decide) (fun cc => ?_) (fun cc => ?_)
            · replace hm := ite_p cc hm
              obtain ⟨rfl, rfl⟩ := inj2 hm
              exact kk _ _ _ hw hS (lv_sub hl [0, 1, 2, 3, 4, 5, 6, 7, 8, 9, 11] rfl)
            · replace hm := ite_n cc hm
              refine lv_iload hx hb dX8_gainOf_106 (lv_at hl 8 rfl) ?_
              refine lv_aload_n hx hb dX8_gainOf_108 rfl (lv_at hl 0 rfl) ?_
              refine lv_iload_n hx hb dX8_gainOf_109 rfl (lv_at hl 2 rfl) ?_
              refine lv_iload hx hb dX8_gainOf_110 (lv_at hl 7 rfl) ?_
              obtain ⟨v12, x13, h14, hm⟩ := bind2_e hm
              refine sX8_180 C h14 hw hS hl.1 (Nat.le_of_ble_eq_true rfl) (Nat.le_trans (Nat.le_of_ble_eq_true rfl) hRf) (Nat.le_trans (Nat.le_of_ble_eq_true rfl) hRl) hcs dX8_gainOf_112 (fun H locs hw hS => ?_)
              refine lv_isub hx hb dX8_gainOf_115 ?_
              refine topI hm (fun v15 hm => ?_)
              refine lv_istore (lv' := [(9, .int v15), (0, .ref β), (1, .int q1), (3, .int q3), (4, .int q4), (5, .int q5), (6, .int q6), (7, .int q7), (8, .int u8), (10, .int u10), (11, .int (bI v5)), (12, .int (bI v8))]) hx hb dX8_gainOf_116 hl (by decide) rfl (fun ls hl => ?_)
              obtain ⟨rfl, rfl⟩ := inj2 hm
              exact kk _ _ _ hw hS (lv_sub hl [1, 2, 3, 4, 5, 6, 7, 8, 0, 9, 11] rfl)
          clear hm
          replace hm := hj
          clear hj
          refine x_ifeqB hx hb dX8_gainOf_79 (tgt := 101) (by decide) (fun cc => ?_) (fun cc => ?_)
          · replace hm := ite_n cc hm
            obtain rfl := Option.some.inj hm
            exact kk _ _ _ hw hS (lv_sub hl [1, 2, 3, 4, 5, 6, 7, 8, 9, 10, 11, 0] rfl)
          · replace hm := ite_p cc hm
            refine lv_iload hx hb dX8_gainOf_82 (lv_at hl 9 rfl) ?_
            refine lv_iload hx hb dX8_gainOf_84 (lv_at hl 10 rfl) ?_
            refine lv_iload hx hb dX8_gainOf_86 (lv_at hl 7 rfl) ?_
            refine lv_icmp_ne (tgt := 96) hx hb dX8_gainOf_88 (by decide) (fun cc => ?_) (fun cc => ?_)
            · replace hm := ite_n cc hm
              refine lv_bipush (v := 10) hx hb dX8_gainOf_96 (by decide) ?_
              refine lv_iadd hx hb dX8_gainOf_98 ?_
              refine topI hm (fun v9 hm => ?_)
              refine lv_istore (lv' := [(9, .int v9), (12, .int (bI v8)), (0, .ref β), (1, .int q1), (3, .int q3), (4, .int q4), (5, .int q5), (6, .int q6), (7, .int q7), (8, .int u8), (10, .int u10), (11, .int (bI v5))]) hx hb dX8_gainOf_99 hl (by decide) rfl (fun ls hl => ?_)
              obtain rfl := Option.some.inj hm
              exact kk _ _ _ hw hS (lv_sub hl [2, 3, 4, 5, 6, 7, 8, 9, 0, 10, 11, 1] rfl)
            · replace hm := ite_p cc hm
              refine lv_iload hx hb dX8_gainOf_91 (lv_at hl 4 rfl) ?_
              refine lv_goto (tgt := 98) hx hb dX8_gainOf_93 (by decide) ?_
              refine lv_iadd hx hb dX8_gainOf_98 ?_
              refine topI hm (fun v10 hm => ?_)
              refine lv_istore (lv' := [(9, .int v10), (12, .int (bI v8)), (0, .ref β), (1, .int q1), (3, .int q3), (4, .int q4), (5, .int q5), (6, .int q6), (7, .int q7), (8, .int u8), (10, .int u10), (11, .int (bI v5))]) hx hb dX8_gainOf_99 hl (by decide) rfl (fun ls hl => ?_)
              obtain rfl := Option.some.inj hm
              exact kk _ _ _ hw hS (lv_sub hl [2, 3, 4, 5, 6, 7, 8, 9, 0, 10, 11, 1] rfl)
        clear hm
        replace hm := hj
        clear hj
        refine x_ifeqB hx hb dX8_gainOf_52 (tgt := 74) (by decide) (fun cc => ?_) (fun cc => ?_)
        · replace hm := ite_n cc hm
          refine lv_iconst (v := 0) hx hb dX8_gainOf_74 (by decide) ?_
          obtain rfl := Option.some.inj hm
          exact kk _ _ _ hw hS (lv_sub hl [1, 2, 3, 4, 5, 6, 7, 8, 9, 10, 0] rfl)
        · replace hm := ite_p cc hm
          refine lv_aload_n hx hb dX8_gainOf_55 rfl (lv_at hl 1 rfl) ?_
          refine lv_iload_n hx hb dX8_gainOf_56 rfl (lv_at hl 2 rfl) ?_
          refine lv_iload_n hx hb dX8_gainOf_57 rfl (lv_at hl 3 rfl) ?_
          refine lv_iload hx hb dX8_gainOf_58 (lv_at hl 8 rfl) ?_
          refine lv_iload hx hb dX8_gainOf_60 (lv_at hl 6 rfl) ?_
          refine lv_iload hx hb dX8_gainOf_62 (lv_at hl 10 rfl) ?_
          obtain ⟨v6, h7, hm⟩ := bind_e hm
          refine sX8_414 C h7 hw hS hl.1 (Nat.le_of_ble_eq_true rfl) (Nat.le_trans (Nat.le_of_ble_eq_true rfl) hRf) (Nat.le_trans (Nat.le_of_ble_eq_true rfl) hRl) hcs dX8_gainOf_64 (fun H locs hw hS => ?_)
          refine x_ifeqB hx hb dX8_gainOf_67 (tgt := 74) (by decide) (fun cc => ?_) (fun cc => ?_)
          · replace hm := ite_n cc hm
            refine lv_iconst (v := 0) hx hb dX8_gainOf_74 (by decide) ?_
            obtain rfl := Option.some.inj hm
            exact kk _ _ _ hw hS (lv_sub hl [1, 2, 3, 4, 5, 6, 7, 8, 9, 10, 0] rfl)
          · replace hm := ite_p cc hm
            refine lv_iconst (v := 1) hx hb dX8_gainOf_70 (by decide) ?_
            refine lv_goto (tgt := 75) hx hb dX8_gainOf_71 (by decide) ?_
            obtain rfl := Option.some.inj hm
            exact kk _ _ _ hw hS (lv_sub hl [1, 2, 3, 4, 5, 6, 7, 8, 9, 10, 0] rfl)
      clear hm
      replace hm := hj
      clear hj
      refine lv_icmp_ne (tgt := 47) hx hb dX8_gainOf_40 (by decide) (fun cc => ?_) (fun cc => ?_)
      · replace hm := ite_n cc hm
        refine lv_iconst (v := 0) hx hb dX8_gainOf_47 (by decide) ?_
        obtain rfl := Option.some.inj hm
        exact kk _ _ _ hw hS (lv_sub hl [0, 1, 2, 3, 4, 5, 6, 7, 8, 9] rfl)
      · replace hm := ite_p cc hm
        refine lv_iconst (v := 1) hx hb dX8_gainOf_43 (by decide) ?_
        refine lv_goto (tgt := 48) hx hb dX8_gainOf_44 (by decide) ?_
        obtain rfl := Option.some.inj hm
        exact kk _ _ _ hw hS (lv_sub hl [0, 1, 2, 3, 4, 5, 6, 7, 8, 9] rfl)
abbrev rmX8_gainOf : Room := { frames := 6, cells := 0, slots := 0, locals := 141 }
set_option maxHeartbeats 4000000 in
set_option maxRecDepth 100000 in
theorem kX8_gainOf {l : Launch} {G : xG} {β : Nat} {D : Nat → Prop} {x x' : XS} {a1 : Int32} {a2 : Int32} {a3 : Int32} {a4 : Int32} {a5 : Int32} {r : Int32} (hm : fX8_gainOf x a1 a2 a3 a4 a5 = some (r, x')) : Met l yX8_gainOf (.code yX8_gainOf cX8_gainOf 13 (some .int) :: GT) rmX8_gainOf (PcW [.ref β, .int a1, .int a2, .int a3, .int a4, .int a5] (CW β D G x) (KK G)) (QcW D (some (.int r)) (CW β D G x')) 0 0 D := by
  unfold fX8_gainOf at hm
  refine xpro (own := RX8) (by decide +kernel) rfl (Nat.le_of_ble_eq_true rfl) ?_
  intro p e s m args below meth c C hw ls hl
  have hx := C.1
  have hb := C.2.1
  have ho := C.2.2.2.1
  have hts := C.2.2.2.2.1
  have hf : Fz D G s.heap := hw.2.2.2.2
  have hS : va_S D s.heap s.heap [] := va_S.rf
  have hl : lv_has ls 13 [(0, .ref β), (1, .int a1), (2, .int a2), (3, .int a3), (4, .int a4), (5, .int a5)] := hl
  have hRf : 6 ≤ rmX8_gainOf.frames := Nat.le_refl _
  have hRl : 141 ≤ rmX8_gainOf.locals := Nat.le_refl _
  have hcs : 0 ≤ rmX8_gainOf.cells ∧ 0 ≤ rmX8_gainOf.slots := ⟨Nat.le_refl _, Nat.le_refl _⟩
  refine lv_iload_n hx hb dX8_gainOf_0 rfl (lv_at hl 2 rfl) ?_
  refine lv_bipush (v := 100) hx hb dX8_gainOf_1 (by decide) ?_
  refine lv_idiv hx hb dX8_gainOf_3 (by decide) ?_
  refine topI hm (fun v1 hm => ?_)
  refine lv_istore (lv' := [(6, .int v1), (0, .ref β), (1, .int a1), (2, .int a2), (3, .int a3), (4, .int a4), (5, .int a5)]) hx hb dX8_gainOf_4 hl (by decide) rfl (fun ls hl => ?_)
  refine lv_iload_n hx hb dX8_gainOf_6 rfl (lv_at hl 3 rfl) ?_
  refine lv_bipush (v := 100) hx hb dX8_gainOf_7 (by decide) ?_
  refine lv_irem hx hb dX8_gainOf_9 (by decide) ?_
  refine topI hm (fun v2 hm => ?_)
  refine lv_istore (lv' := [(7, .int v2), (6, .int v1), (0, .ref β), (1, .int a1), (2, .int a2), (3, .int a3), (4, .int a4), (5, .int a5)]) hx hb dX8_gainOf_10 hl (by decide) rfl (fun ls hl => ?_)
  refine lv_aload_n hx hb dX8_gainOf_12 rfl (lv_at hl 2 rfl) ?_
  refine lv_iload_n hx hb dX8_gainOf_13 rfl (lv_at hl 5 rfl) ?_
  obtain ⟨v3, h4, hm⟩ := bind_e hm
  refine sX8_258 C h4 hw hS hl.1 (Nat.le_of_ble_eq_true rfl) (Nat.le_trans (Nat.le_of_ble_eq_true rfl) hRf) (Nat.le_trans (Nat.le_of_ble_eq_true rfl) hRl) hcs dX8_gainOf_14 (fun H locs hw hS => ?_)
  refine lv_istore (lv' := [(8, .int v3), (7, .int v2), (6, .int v1), (0, .ref β), (1, .int a1), (2, .int a2), (3, .int a3), (4, .int a4), (5, .int a5)]) hx hb dX8_gainOf_17 hl (by decide) rfl (fun ls hl => ?_)
  refine lv_iconst (v := 0) hx hb dX8_gainOf_19 (by decide) ?_
  refine lv_istore (lv' := [(9, .int 0), (8, .int v3), (7, .int v2), (6, .int v1), (0, .ref β), (1, .int a1), (2, .int a2), (3, .int a3), (4, .int a4), (5, .int a5)]) hx hb dX8_gainOf_20 hl (by decide) rfl (fun ls hl => ?_)
  refine lv_iconst (v := 0) hx hb dX8_gainOf_22 (by decide) ?_
  refine lv_istore (lv' := [(10, .int 0), (9, .int 0), (8, .int v3), (7, .int v2), (6, .int v1), (0, .ref β), (1, .int a1), (2, .int a2), (3, .int a3), (4, .int a4), (5, .int a5)]) hx hb dX8_gainOf_23 hl (by decide) rfl (fun ls hl => ?_)
  obtain ⟨v24, x25, hj, hm⟩ := bind2_e hm
  refine lX8_gainOf_25 C hRf hRl hcs hf a1 a3 a4 a5 v1 v2 NF _ _ _ _ _ _ _ _ hj hw hS (lv_sub hl [5, 6, 8, 9, 10, 4, 3, 2, 1, 0] rfl) (fun v24_ x25_ e0 H locs ls hw hS hl => ?_)
  cases e0
  refine lv_iload hx hb dX8_gainOf_146 (lv_at hl 0 rfl) ?_
  obtain ⟨rfl, rfl⟩ := inj2 hm
  exact xret_i C hw hS dX8_gainOf_148
theorem dX8_holding_0 : decode cX8_holding 0 = .ok (.aload_n 0, 1) := by decide +kernel
theorem dX8_holding_1 : decode cX8_holding 1 = .ok (.iload_n 1, 1) := by decide +kernel
theorem dX8_holding_2 : decode cX8_holding 2 = .ok (.invokevirtual 187, 3) := by decide +kernel
theorem dX8_holding_5 : decode cX8_holding 5 = .ok (.ifCond .eq 49, 3) := by decide +kernel
theorem dX8_holding_8 : decode cX8_holding 8 = .ok (.iload_n 2, 1) := by decide +kernel
theorem dX8_holding_9 : decode cX8_holding 9 = .ok (.invokestatic 190, 3) := by decide +kernel
theorem dX8_holding_12 : decode cX8_holding 12 = .ok (.ifCond .eq 42, 3) := by decide +kernel
theorem dX8_holding_15 : decode cX8_holding 15 = .ok (.iload_n 2, 1) := by decide +kernel
theorem dX8_holding_16 : decode cX8_holding 16 = .ok (.bipush 100, 2) := by decide +kernel
theorem dX8_holding_18 : decode cX8_holding 18 = .ok (.irem, 1) := by decide +kernel
theorem dX8_holding_19 : decode cX8_holding 19 = .ok (.iconst 5, 1) := by decide +kernel
theorem dX8_holding_20 : decode cX8_holding 20 = .ok (.if_icmp .gt 34, 3) := by decide +kernel
theorem dX8_holding_23 : decode cX8_holding 23 = .ok (.aload_n 0, 1) := by decide +kernel
theorem dX8_holding_24 : decode cX8_holding 24 = .ok (.iload_n 1, 1) := by decide +kernel
theorem dX8_holding_25 : decode cX8_holding 25 = .ok (.iload_n 3, 1) := by decide +kernel
theorem dX8_holding_26 : decode cX8_holding 26 = .ok (.invokevirtual 193, 3) := by decide +kernel
theorem dX8_holding_29 : decode cX8_holding 29 = .ok (.ifCond .eq 25, 3) := by decide +kernel
theorem dX8_holding_32 : decode cX8_holding 32 = .ok (.iload 4, 2) := by decide +kernel
theorem dX8_holding_34 : decode cX8_holding 34 = .ok (.iconst 0, 1) := by decide +kernel
theorem dX8_holding_35 : decode cX8_holding 35 = .ok (.sipush 999, 3) := by decide +kernel
theorem dX8_holding_38 : decode cX8_holding 38 = .ok (.invokestatic 138, 3) := by decide +kernel
theorem dX8_holding_41 : decode cX8_holding 41 = .ok (.ifCond .eq 13, 3) := by decide +kernel
theorem dX8_holding_44 : decode cX8_holding 44 = .ok (.iload 5, 2) := by decide +kernel
theorem dX8_holding_46 : decode cX8_holding 46 = .ok (.iconst 0, 1) := by decide +kernel
theorem dX8_holding_47 : decode cX8_holding 47 = .ok (.iconst 1, 1) := by decide +kernel
theorem dX8_holding_48 : decode cX8_holding 48 = .ok (.invokestatic 138, 3) := by decide +kernel
theorem dX8_holding_51 : decode cX8_holding 51 = .ok (.ifCond .ne 7, 3) := by decide +kernel
theorem dX8_holding_54 : decode cX8_holding 54 = .ok (.ldc2_w 157, 3) := by decide +kernel
theorem dX8_holding_57 : decode cX8_holding 57 = .ok (.lreturn, 1) := by decide +kernel
theorem dX8_holding_58 : decode cX8_holding 58 = .ok (.iconst 0, 1) := by decide +kernel
theorem dX8_holding_59 : decode cX8_holding 59 = .ok (.istore 6, 2) := by decide +kernel
theorem dX8_holding_61 : decode cX8_holding 61 = .ok (.aload_n 0, 1) := by decide +kernel
theorem dX8_holding_62 : decode cX8_holding 62 = .ok (.iload_n 1, 1) := by decide +kernel
theorem dX8_holding_63 : decode cX8_holding 63 = .ok (.iload_n 2, 1) := by decide +kernel
theorem dX8_holding_64 : decode cX8_holding 64 = .ok (.iload_n 3, 1) := by decide +kernel
theorem dX8_holding_65 : decode cX8_holding 65 = .ok (.iload 4, 2) := by decide +kernel
theorem dX8_holding_67 : decode cX8_holding 67 = .ok (.iconst 0, 1) := by decide +kernel
theorem dX8_holding_68 : decode cX8_holding 68 = .ok (.invokevirtual 283, 3) := by decide +kernel
theorem dX8_holding_71 : decode cX8_holding 71 = .ok (.istore 7, 2) := by decide +kernel
theorem dX8_holding_73 : decode cX8_holding 73 = .ok (.iconst 1, 1) := by decide +kernel
theorem dX8_holding_74 : decode cX8_holding 74 = .ok (.istore 8, 2) := by decide +kernel
theorem dX8_holding_76 : decode cX8_holding 76 = .ok (.iload 8, 2) := by decide +kernel
theorem dX8_holding_78 : decode cX8_holding 78 = .ok (.iconst 2, 1) := by decide +kernel
theorem dX8_holding_79 : decode cX8_holding 79 = .ok (.iload_n 2, 1) := by decide +kernel
theorem dX8_holding_80 : decode cX8_holding 80 = .ok (.bipush 100, 2) := by decide +kernel
theorem dX8_holding_82 : decode cX8_holding 82 = .ok (.irem, 1) := by decide +kernel
theorem dX8_holding_83 : decode cX8_holding 83 = .ok (.ishl, 1) := by decide +kernel
theorem dX8_holding_84 : decode cX8_holding 84 = .ok (.if_icmp .ge 37, 3) := by decide +kernel
theorem dX8_holding_87 : decode cX8_holding 87 = .ok (.aload_n 0, 1) := by decide +kernel
theorem dX8_holding_88 : decode cX8_holding 88 = .ok (.iload_n 1, 1) := by decide +kernel
theorem dX8_holding_89 : decode cX8_holding 89 = .ok (.iload_n 2, 1) := by decide +kernel
theorem dX8_holding_90 : decode cX8_holding 90 = .ok (.iload_n 3, 1) := by decide +kernel
theorem dX8_holding_91 : decode cX8_holding 91 = .ok (.iload 4, 2) := by decide +kernel
theorem dX8_holding_93 : decode cX8_holding 93 = .ok (.iload 8, 2) := by decide +kernel
theorem dX8_holding_95 : decode cX8_holding 95 = .ok (.invokevirtual 283, 3) := by decide +kernel
theorem dX8_holding_98 : decode cX8_holding 98 = .ok (.istore 9, 2) := by decide +kernel
theorem dX8_holding_100 : decode cX8_holding 100 = .ok (.iload 9, 2) := by decide +kernel
theorem dX8_holding_102 : decode cX8_holding 102 = .ok (.iload 7, 2) := by decide +kernel
theorem dX8_holding_104 : decode cX8_holding 104 = .ok (.if_icmp .le 11, 3) := by decide +kernel
theorem dX8_holding_107 : decode cX8_holding 107 = .ok (.iload 9, 2) := by decide +kernel
theorem dX8_holding_109 : decode cX8_holding 109 = .ok (.istore 7, 2) := by decide +kernel
theorem dX8_holding_111 : decode cX8_holding 111 = .ok (.iload 8, 2) := by decide +kernel
theorem dX8_holding_113 : decode cX8_holding 113 = .ok (.istore 6, 2) := by decide +kernel
theorem dX8_holding_115 : decode cX8_holding 115 = .ok (.iinc 8 1, 3) := by decide +kernel
theorem dX8_holding_118 : decode cX8_holding 118 = .ok (.goto (-42), 3) := by decide +kernel
theorem dX8_holding_121 : decode cX8_holding 121 = .ok (.iload 5, 2) := by decide +kernel
theorem dX8_holding_123 : decode cX8_holding 123 = .ok (.ifCond .ne 9, 3) := by decide +kernel
theorem dX8_holding_126 : decode cX8_holding 126 = .ok (.iload 6, 2) := by decide +kernel
theorem dX8_holding_128 : decode cX8_holding 128 = .ok (.i2l, 1) := by decide +kernel
theorem dX8_holding_129 : decode cX8_holding 129 = .ok (.goto 6, 3) := by decide +kernel
theorem dX8_holding_132 : decode cX8_holding 132 = .ok (.iload 7, 2) := by decide +kernel
theorem dX8_holding_134 : decode cX8_holding 134 = .ok (.i2l, 1) := by decide +kernel
theorem dX8_holding_135 : decode cX8_holding 135 = .ok (.lreturn, 1) := by decide +kernel
theorem sX8_283 {p : Program} {l : Launch} {e : Env} {R : Room} {s : State} {m : MethodId} {args : Array Value} {below : List Frame} {meth : Method} {c : Code} {H : Heap} {locs : List Loc} {cells slots : Nat} {Q : State → Prop} {cc : ByteArray} {pc nL : Nat} {ls : Array Slot} {rest : List Value} {ret : Option FieldType}  {G : xG} {β : Nat} {D : Nat → Prop} {x x' : XS} {a1 : Int32} {a2 : Int32} {a3 : Int32} {a4 : Int32} {a5 : Int32} {r : Int32} (C : Cx p s m args meth c RX8 cc nL ret (KK G)) (h : fX8_gainOf x a1 a2 a3 a4 a5 = some (r, x')) (hw : CW β D G x H) (hS : va_S D s.heap H locs) (hsz : ls.size = nL) (hW : (rest.map fun v => v.category).sum ≤ 8) (hR : 7 ≤ R.frames) (hR2 : 173 ≤ R.locals) (hcs : cells ≤ R.cells ∧ slots ≤ R.slots) (hd : decode cc pc = .ok (.invokevirtual 283, 3)) (kk : ∀ (H1 : Heap) (locs1 : List Loc), CW β D G x' H1 → va_S D s.heap H1 locs1 → W p l e R s m args below meth c H1 locs1 cells slots Q (F0 m (pc + 3) ls (.int r :: rest))) : W p l e R s m args below meth c H locs cells slots Q (F0 m pc ls (.int a5 :: .int a4 :: .int a3 :: .int a2 :: .int a1 :: .ref β :: rest)) := by
  exact xcallV C (As := [.int a1, .int a2, .int a3, .int a4, .int a5]) (rest := rest) (nA := 5) (ci := 8) (kX8_gainOf h) (tg 791 (by decide +kernel) rfl) (tg 793 (by decide +kernel) rfl) (sg (List.mem_of_getElem? (i := 48) (by decide +kernel)) rfl) (tg 1 (by decide +kernel) rfl) (tg 794 (by decide +kernel) rfl) ⟨rfl, by decide +kernel, by decide +kernel, by decide +kernel⟩ rfl rfl rfl ⟨hR, hR2⟩ (hw.2.2.1 0 (by decide)) hw hS (fun _ q => q) rfl rfl hsz hW hd hcs (fun H1 locs1 hw hz hk hS => kk H1 locs1 hw hS)
def BX8_holding_76 (q1 : Int32) (q2 : Int32) (q3 : Int32) (q4 : Int32) (q5 : Int32) (lp : Int32 → Int32 → Int32 → XS → Option (Int32 × Int32 × XS)) (u6 : Int32) (u7 : Int32) (u8 : Int32) (x : XS) : Option (Int32 × Int32 × XS) := if ((2 : Int32) <<< ((irm q2 100) &&& 31)) ≤ u8 then some (u6, u7, x) else bind2 (fX8_gainOf x q1 q2 q3 q4 u8) fun v14 x15 => if v14 ≤ u7 then lt (u8 + 1) fun v17 => lp u6 u7 v17 x15 else lt (u8 + 1) fun v18 => lp u8 v14 v18 x15
def LX8_holding_76 (q1 : Int32) (q2 : Int32) (q3 : Int32) (q4 : Int32) (q5 : Int32) : Nat → Int32 → Int32 → Int32 → XS → Option (Int32 × Int32 × XS)
  | 0, _, _, _, _ => none
  | n + 1, u6, u7, u8, x => BX8_holding_76 q1 q2 q3 q4 q5 (LX8_holding_76 q1 q2 q3 q4 q5 n) u6 u7 u8 x
def fX8_holding (x : XS) (a1 : Int32) (a2 : Int32) (a3 : Int32) (a4 : Int32) (a5 : Int32) : Option (Int64 × XS) := Option.bind (fX8_isField x a1) fun v1 => if v1 = true then Option.bind (fX8_isWhen a2) fun v3 => if v3 = true then if 5 < (irm a2 100) then some ((-4611686018427387904), x) else Option.bind (fX8_isIn x a1 a3) fun v5 => if v5 = true then Option.bind (fX8_isWithin a4 0 999) fun v7 => if v7 = true then Option.bind (fX8_isWithin a5 0 1) fun v9 => if v9 = true then bind2 (fX8_gainOf x a1 a2 a3 a4 0) fun v11 x12 => bind3 (LX8_holding_76 a1 a2 a3 a4 a5 NF 0 v11 1 x12) fun v19 v20 x21 => if a5 = 0 then some (v19.toInt64, x21) else some (v20.toInt64, x21) else some ((-4611686018427387904), x) else some ((-4611686018427387904), x) else some ((-4611686018427387904), x) else some ((-4611686018427387904), x) else some ((-4611686018427387904), x)
set_option maxHeartbeats 4000000 in
set_option maxRecDepth 100000 in
theorem lX8_holding_76 {p : Program} {l : Launch} {e : Env} {R : Room} {s : State} {m : MethodId} {args : Array Value} {below : List Frame} {meth : Method} {c : Code} {cells slots : Nat} {Q : State → Prop} {G : xG} {β : Nat} {D : Nat → Prop} (C : Cx p s m args meth c RX8 cX8_holding 10 (some .long) (KK G)) (hRf : 7 ≤ R.frames) (hRl : 173 ≤ R.locals) (hcs : cells ≤ R.cells ∧ slots ≤ R.slots) (hf : Fz D G s.heap) (q1 : Int32) (q2 : Int32) (q3 : Int32) (q4 : Int32) (q5 : Int32) : ∀ (n : Nat) (u6 : Int32) (u7 : Int32) (u8 : Int32) (x : XS) (J : Int32 × Int32 × XS) (H : Heap) (locs : List Loc) (ls : Array Slot), LX8_holding_76 q1 q2 q3 q4 q5 n u6 u7 u8 x = some J → CW β D G x H → va_S D s.heap H locs → lv_has ls 10 [(0, .ref β), (1, .int q1), (2, .int q2), (3, .int q3), (4, .int q4), (5, .int q5), (6, .int u6), (7, .int u7), (8, .int u8)] → (∀ (w6 : Int32) (w7 : Int32) (x1 : XS), J = (w6, w7, x1) → ∀ (H : Heap) (locs : List Loc) (ls : Array Slot), CW β D G x1 H → va_S D s.heap H locs → lv_has ls 10 [(5, .int q5), (6, .int w6), (7, .int w7)] → W p l e R s m args below meth c H locs cells slots Q (F0 m 121 ls [])) → W p l e R s m args below meth c H locs cells slots Q (F0 m 76 ls []) := by
  have hx := C.1
  have hb := C.2.1
  have ho := C.2.2.2.1
  have hts := C.2.2.2.2.1
  intro n
  induction n with
  | zero =>
    intro u6 u7 u8 x J H locs ls hm
    exact absurd hm (by simp [LX8_holding_76])
  | succ n ih =>
    intro u6 u7 u8 x J H locs ls hm hw hS hl ke
    replace hm : BX8_holding_76 q1 q2 q3 q4 q5 (LX8_holding_76 q1 q2 q3 q4 q5 n) u6 u7 u8 x = some J := hm
    unfold BX8_holding_76 at hm
    refine lv_iload hx hb dX8_holding_76 (lv_at hl 8 rfl) ?_
    refine lv_iconst (v := 2) hx hb dX8_holding_78 (by decide) ?_
    refine lv_iload_n hx hb dX8_holding_79 rfl (lv_at hl 2 rfl) ?_
    refine lv_bipush (v := 100) hx hb dX8_holding_80 (by decide) ?_
    refine lv_irem hx hb dX8_holding_82 (by decide) ?_
    refine lv_ishl hx hb dX8_holding_83 ?_
    refine lv_icmp_ge (tgt := 121) hx hb dX8_holding_84 (by decide) (fun cc => ?_) (fun cc => ?_)
    · replace hm := ite_p cc hm
      exact ke _ _ _ (Option.some.inj hm).symm _ _ _ hw hS (lv_sub hl [5, 6, 7] rfl)
    · replace hm := ite_n cc hm
      refine lv_aload_n hx hb dX8_holding_87 rfl (lv_at hl 0 rfl) ?_
      refine lv_iload_n hx hb dX8_holding_88 rfl (lv_at hl 1 rfl) ?_
      refine lv_iload_n hx hb dX8_holding_89 rfl (lv_at hl 2 rfl) ?_
      refine lv_iload_n hx hb dX8_holding_90 rfl (lv_at hl 3 rfl) ?_
      refine lv_iload hx hb dX8_holding_91 (lv_at hl 4 rfl) ?_
      refine lv_iload hx hb dX8_holding_93 (lv_at hl 8 rfl) ?_
      obtain ⟨v14, x15, h16, hm⟩ := bind2_e hm
      refine sX8_283 C h16 hw hS hl.1 (Nat.le_of_ble_eq_true rfl) (Nat.le_trans (Nat.le_of_ble_eq_true rfl) hRf) (Nat.le_trans (Nat.le_of_ble_eq_true rfl) hRl) hcs dX8_holding_95 (fun H locs hw hS => ?_)
      refine lv_istore (lv' := [(9, .int v14), (0, .ref β), (1, .int q1), (2, .int q2), (3, .int q3), (4, .int q4), (5, .int q5), (6, .int u6), (7, .int u7), (8, .int u8)]) hx hb dX8_holding_98 hl (by decide) rfl (fun ls hl => ?_)
      refine lv_iload hx hb dX8_holding_100 (lv_at hl 0 rfl) ?_
      refine lv_iload hx hb dX8_holding_102 (lv_at hl 8 rfl) ?_
      refine lv_icmp_le (tgt := 115) hx hb dX8_holding_104 (by decide) (fun cc => ?_) (fun cc => ?_)
      · replace hm := ite_p cc hm
        obtain ⟨v17, ev, hm⟩ := lt_e hm
        refine lv_iinc (v := v17) (lv' := [(8, .int v17), (9, .int v14), (0, .ref β), (1, .int q1), (2, .int q2), (3, .int q3), (4, .int q4), (5, .int q5), (6, .int u6), (7, .int u7)]) hx hb dX8_holding_115 hl (k := 9) rfl (by rw [ev]; rfl) (by decide) rfl (fun ls hl => ?_)
        clear ev
        refine lv_goto (tgt := 76) hx hb dX8_holding_118 (by decide) ?_
        exact ih _ _ _ _ _ _ _ _ hm hw hS (lv_sub hl [2, 3, 4, 5, 6, 7, 8, 9, 0] rfl) ke
      · replace hm := ite_n cc hm
        refine lv_iload hx hb dX8_holding_107 (lv_at hl 0 rfl) ?_
        refine lv_istore (lv' := [(7, .int v14), (9, .int v14), (0, .ref β), (1, .int q1), (2, .int q2), (3, .int q3), (4, .int q4), (5, .int q5), (6, .int u6), (8, .int u8)]) hx hb dX8_holding_109 hl (by decide) rfl (fun ls hl => ?_)
        refine lv_iload hx hb dX8_holding_111 (lv_at hl 9 rfl) ?_
        refine lv_istore (lv' := [(6, .int u8), (7, .int v14), (9, .int v14), (0, .ref β), (1, .int q1), (2, .int q2), (3, .int q3), (4, .int q4), (5, .int q5), (8, .int u8)]) hx hb dX8_holding_113 hl (by decide) rfl (fun ls hl => ?_)
        obtain ⟨v18, ev, hm⟩ := lt_e hm
        refine lv_iinc (v := v18) (lv' := [(8, .int v18), (6, .int u8), (7, .int v14), (9, .int v14), (0, .ref β), (1, .int q1), (2, .int q2), (3, .int q3), (4, .int q4), (5, .int q5)]) hx hb dX8_holding_115 hl (k := 9) rfl (by rw [ev]; rfl) (by decide) rfl (fun ls hl => ?_)
        clear ev
        refine lv_goto (tgt := 76) hx hb dX8_holding_118 (by decide) ?_
        exact ih _ _ _ _ _ _ _ _ hm hw hS (lv_sub hl [4, 5, 6, 7, 8, 9, 1, 2, 0] rfl) ke
abbrev rmX8_holding : Room := { frames := 7, cells := 0, slots := 0, locals := 173 }
set_option maxHeartbeats 4000000 in
set_option maxRecDepth 100000 in
theorem kX8_holding {l : Launch} {G : xG} {β : Nat} {D : Nat → Prop} {x x' : XS} {a1 : Int32} {a2 : Int32} {a3 : Int32} {a4 : Int32} {a5 : Int32} {r : Int64} (hm : fX8_holding x a1 a2 a3 a4 a5 = some (r, x')) : Met l yX8_holding (.code yX8_holding cX8_holding 10 (some .long) :: GT) rmX8_holding (PcW [.ref β, .int a1, .int a2, .int a3, .int a4, .int a5] (CW β D G x) (KK G)) (QcW D (some (.long r)) (CW β D G x')) 0 0 D := by
  unfold fX8_holding at hm
  refine xpro (own := RX8) (by decide +kernel) rfl (Nat.le_of_ble_eq_true rfl) ?_
  intro p e s m args below meth c C hw ls hl
  have hx := C.1
  have hb := C.2.1
  have ho := C.2.2.2.1
  have hts := C.2.2.2.2.1
  have hf : Fz D G s.heap := hw.2.2.2.2
  have hS : va_S D s.heap s.heap [] := va_S.rf
  have hl : lv_has ls 10 [(0, .ref β), (1, .int a1), (2, .int a2), (3, .int a3), (4, .int a4), (5, .int a5)] := hl
  have hRf : 7 ≤ rmX8_holding.frames := Nat.le_refl _
  have hRl : 173 ≤ rmX8_holding.locals := Nat.le_refl _
  have hcs : 0 ≤ rmX8_holding.cells ∧ 0 ≤ rmX8_holding.slots := ⟨Nat.le_refl _, Nat.le_refl _⟩
  refine lv_aload_n hx hb dX8_holding_0 rfl (lv_at hl 0 rfl) ?_
  refine lv_iload_n hx hb dX8_holding_1 rfl (lv_at hl 1 rfl) ?_
  obtain ⟨v1, h2, hm⟩ := bind_e hm
  refine sX8_187 C h2 hw hS hl.1 (Nat.le_of_ble_eq_true rfl) (Nat.le_trans (Nat.le_of_ble_eq_true rfl) hRf) (Nat.le_trans (Nat.le_of_ble_eq_true rfl) hRl) hcs dX8_holding_2 (fun H locs hw hS => ?_)
  refine x_ifeqB hx hb dX8_holding_5 (tgt := 54) (by decide) (fun cc => ?_) (fun cc => ?_)
  · replace hm := ite_n cc hm
    refine lv_ldc2 (v := (-4611686018427387904)) hx hb ho (hts (.constantLong RX8 157 (-4611686018427387904)) (tg 476 (by decide +kernel) rfl)) dX8_holding_54 ?_
    obtain ⟨rfl, rfl⟩ := inj2 hm
    exact xret_l C hw hS dX8_holding_57
  · replace hm := ite_p cc hm
    refine lv_iload_n hx hb dX8_holding_8 rfl (lv_at hl 2 rfl) ?_
    obtain ⟨v3, h4, hm⟩ := bind_e hm
    refine sX8_190 C h4 hw hS hl.1 (Nat.le_of_ble_eq_true rfl) (Nat.le_trans (Nat.le_of_ble_eq_true rfl) hRf) (Nat.le_trans (Nat.le_of_ble_eq_true rfl) hRl) hcs dX8_holding_9 (fun H locs hw hS => ?_)
    refine x_ifeqB hx hb dX8_holding_12 (tgt := 54) (by decide) (fun cc => ?_) (fun cc => ?_)
    · replace hm := ite_n cc hm
      refine lv_ldc2 (v := (-4611686018427387904)) hx hb ho (hts (.constantLong RX8 157 (-4611686018427387904)) (tg 476 (by decide +kernel) rfl)) dX8_holding_54 ?_
      obtain ⟨rfl, rfl⟩ := inj2 hm
      exact xret_l C hw hS dX8_holding_57
    · replace hm := ite_p cc hm
      refine lv_iload_n hx hb dX8_holding_15 rfl (lv_at hl 2 rfl) ?_
      refine lv_bipush (v := 100) hx hb dX8_holding_16 (by decide) ?_
      refine lv_irem hx hb dX8_holding_18 (by decide) ?_
      refine lv_iconst (v := 5) hx hb dX8_holding_19 (by decide) ?_
      refine lv_icmp_gt (tgt := 54) hx hb dX8_holding_20 (by decide) (fun cc => ?_) (fun cc => ?_)
      · replace hm := ite_p cc hm
        refine lv_ldc2 (v := (-4611686018427387904)) hx hb ho (hts (.constantLong RX8 157 (-4611686018427387904)) (tg 476 (by decide +kernel) rfl)) dX8_holding_54 ?_
        obtain ⟨rfl, rfl⟩ := inj2 hm
        exact xret_l C hw hS dX8_holding_57
      · replace hm := ite_n cc hm
        refine lv_aload_n hx hb dX8_holding_23 rfl (lv_at hl 0 rfl) ?_
        refine lv_iload_n hx hb dX8_holding_24 rfl (lv_at hl 1 rfl) ?_
        refine lv_iload_n hx hb dX8_holding_25 rfl (lv_at hl 3 rfl) ?_
        obtain ⟨v5, h6, hm⟩ := bind_e hm
        refine sX8_193 C h6 hw hS hl.1 (Nat.le_of_ble_eq_true rfl) (Nat.le_trans (Nat.le_of_ble_eq_true rfl) hRf) (Nat.le_trans (Nat.le_of_ble_eq_true rfl) hRl) hcs dX8_holding_26 (fun H locs hw hS => ?_)
        refine x_ifeqB hx hb dX8_holding_29 (tgt := 54) (by decide) (fun cc => ?_) (fun cc => ?_)
        · replace hm := ite_n cc hm
          refine lv_ldc2 (v := (-4611686018427387904)) hx hb ho (hts (.constantLong RX8 157 (-4611686018427387904)) (tg 476 (by decide +kernel) rfl)) dX8_holding_54 ?_
          obtain ⟨rfl, rfl⟩ := inj2 hm
          exact xret_l C hw hS dX8_holding_57
        · replace hm := ite_p cc hm
          refine lv_iload hx hb dX8_holding_32 (lv_at hl 4 rfl) ?_
          refine lv_iconst (v := 0) hx hb dX8_holding_34 (by decide) ?_
          refine lv_sipush (v := 999) hx hb dX8_holding_35 (by decide) ?_
          obtain ⟨v7, h8, hm⟩ := bind_e hm
          refine sX8_138 C h8 hw hS hl.1 (Nat.le_of_ble_eq_true rfl) (Nat.le_trans (Nat.le_of_ble_eq_true rfl) hRf) (Nat.le_trans (Nat.le_of_ble_eq_true rfl) hRl) hcs dX8_holding_38 (fun H locs hw hS => ?_)
          refine x_ifeqB hx hb dX8_holding_41 (tgt := 54) (by decide) (fun cc => ?_) (fun cc => ?_)
          · replace hm := ite_n cc hm
            refine lv_ldc2 (v := (-4611686018427387904)) hx hb ho (hts (.constantLong RX8 157 (-4611686018427387904)) (tg 476 (by decide +kernel) rfl)) dX8_holding_54 ?_
            obtain ⟨rfl, rfl⟩ := inj2 hm
            exact xret_l C hw hS dX8_holding_57
          · replace hm := ite_p cc hm
            refine lv_iload hx hb dX8_holding_44 (lv_at hl 5 rfl) ?_
            refine lv_iconst (v := 0) hx hb dX8_holding_46 (by decide) ?_
            refine lv_iconst (v := 1) hx hb dX8_holding_47 (by decide) ?_
            obtain ⟨v9, h10, hm⟩ := bind_e hm
            refine sX8_138 C h10 hw hS hl.1 (Nat.le_of_ble_eq_true rfl) (Nat.le_trans (Nat.le_of_ble_eq_true rfl) hRf) (Nat.le_trans (Nat.le_of_ble_eq_true rfl) hRl) hcs dX8_holding_48 (fun H locs hw hS => ?_)
            refine x_ifneB hx hb dX8_holding_51 (tgt := 58) (by decide) (fun cc => ?_) (fun cc => ?_)
            · replace hm := ite_p cc hm
              refine lv_iconst (v := 0) hx hb dX8_holding_58 (by decide) ?_
              refine lv_istore (lv' := [(6, .int 0), (0, .ref β), (1, .int a1), (2, .int a2), (3, .int a3), (4, .int a4), (5, .int a5)]) hx hb dX8_holding_59 hl (by decide) rfl (fun ls hl => ?_)
              refine lv_aload_n hx hb dX8_holding_61 rfl (lv_at hl 1 rfl) ?_
              refine lv_iload_n hx hb dX8_holding_62 rfl (lv_at hl 2 rfl) ?_
              refine lv_iload_n hx hb dX8_holding_63 rfl (lv_at hl 3 rfl) ?_
              refine lv_iload_n hx hb dX8_holding_64 rfl (lv_at hl 4 rfl) ?_
              refine lv_iload hx hb dX8_holding_65 (lv_at hl 5 rfl) ?_
              refine lv_iconst (v := 0) hx hb dX8_holding_67 (by decide) ?_
              obtain ⟨v11, x12, h13, hm⟩ := bind2_e hm
              refine sX8_283 C h13 hw hS hl.1 (Nat.le_of_ble_eq_true rfl) (Nat.le_trans (Nat.le_of_ble_eq_true rfl) hRf) (Nat.le_trans (Nat.le_of_ble_eq_true rfl) hRl) hcs dX8_holding_68 (fun H locs hw hS => ?_)
              refine lv_istore (lv' := [(7, .int v11), (6, .int 0), (0, .ref β), (1, .int a1), (2, .int a2), (3, .int a3), (4, .int a4), (5, .int a5)]) hx hb dX8_holding_71 hl (by decide) rfl (fun ls hl => ?_)
              refine lv_iconst (v := 1) hx hb dX8_holding_73 (by decide) ?_
              refine lv_istore (lv' := [(8, .int 1), (7, .int v11), (6, .int 0), (0, .ref β), (1, .int a1), (2, .int a2), (3, .int a3), (4, .int a4), (5, .int a5)]) hx hb dX8_holding_74 hl (by decide) rfl (fun ls hl => ?_)
              obtain ⟨v19, v20, x21, hj, hm⟩ := bind3_e hm
              refine lX8_holding_76 C hRf hRl hcs hf a1 a2 a3 a4 a5 NF _ _ _ _ _ _ _ _ hj hw hS (lv_sub hl [3, 4, 5, 6, 7, 8, 2, 1, 0] rfl) (fun v19_ v20_ x21_ e0 H locs ls hw hS hl => ?_)
              cases e0
              refine lv_iload hx hb dX8_holding_121 (lv_at hl 0 rfl) ?_
              refine lv_if_ne (tgt := 132) hx hb dX8_holding_123 (by decide) (fun cc => ?_) (fun cc => ?_)
              · replace hm := ite_n cc hm
                refine lv_iload hx hb dX8_holding_132 (lv_at hl 2 rfl) ?_
                refine lv_i2l hx hb dX8_holding_134 rfl ?_
                obtain ⟨rfl, rfl⟩ := inj2 hm
                exact xret_l C hw hS dX8_holding_135
              · replace hm := ite_p cc hm
                refine lv_iload hx hb dX8_holding_126 (lv_at hl 1 rfl) ?_
                refine lv_i2l hx hb dX8_holding_128 rfl ?_
                refine lv_goto (tgt := 135) hx hb dX8_holding_129 (by decide) ?_
                obtain ⟨rfl, rfl⟩ := inj2 hm
                exact xret_l C hw hS dX8_holding_135
            · replace hm := ite_n cc hm
              refine lv_ldc2 (v := (-4611686018427387904)) hx hb ho (hts (.constantLong RX8 157 (-4611686018427387904)) (tg 476 (by decide +kernel) rfl)) dX8_holding_54 ?_
              obtain ⟨rfl, rfl⟩ := inj2 hm
              exact xret_l C hw hS dX8_holding_57
theorem dX8_yards_0 : decode cX8_yards 0 = .ok (.aload_n 0, 1) := by decide +kernel
theorem dX8_yards_1 : decode cX8_yards 1 = .ok (.iload_n 1, 1) := by decide +kernel
theorem dX8_yards_2 : decode cX8_yards 2 = .ok (.invokevirtual 187, 3) := by decide +kernel
theorem dX8_yards_5 : decode cX8_yards 5 = .ok (.ifCond .eq 19, 3) := by decide +kernel
theorem dX8_yards_8 : decode cX8_yards 8 = .ok (.iload_n 2, 1) := by decide +kernel
theorem dX8_yards_9 : decode cX8_yards 9 = .ok (.invokestatic 150, 3) := by decide +kernel
theorem dX8_yards_12 : decode cX8_yards 12 = .ok (.ifCond .eq 12, 3) := by decide +kernel
theorem dX8_yards_15 : decode cX8_yards 15 = .ok (.aload_n 0, 1) := by decide +kernel
theorem dX8_yards_16 : decode cX8_yards 16 = .ok (.iload_n 1, 1) := by decide +kernel
theorem dX8_yards_17 : decode cX8_yards 17 = .ok (.iload_n 3, 1) := by decide +kernel
theorem dX8_yards_18 : decode cX8_yards 18 = .ok (.invokevirtual 193, 3) := by decide +kernel
theorem dX8_yards_21 : decode cX8_yards 21 = .ok (.ifCond .ne 6, 3) := by decide +kernel
theorem dX8_yards_24 : decode cX8_yards 24 = .ok (.bipush (-2), 2) := by decide +kernel
theorem dX8_yards_26 : decode cX8_yards 26 = .ok (.ireturn, 1) := by decide +kernel
theorem dX8_yards_27 : decode cX8_yards 27 = .ok (.aload_n 0, 1) := by decide +kernel
theorem dX8_yards_28 : decode cX8_yards 28 = .ok (.aload_n 0, 1) := by decide +kernel
theorem dX8_yards_29 : decode cX8_yards 29 = .ok (.iload_n 3, 1) := by decide +kernel
theorem dX8_yards_30 : decode cX8_yards 30 = .ok (.invokevirtual 258, 3) := by decide +kernel
theorem dX8_yards_33 : decode cX8_yards 33 = .ok (.iload_n 2, 1) := by decide +kernel
theorem dX8_yards_34 : decode cX8_yards 34 = .ok (.invokevirtual 287, 3) := by decide +kernel
theorem dX8_yards_37 : decode cX8_yards 37 = .ok (.istore 4, 2) := by decide +kernel
theorem dX8_yards_39 : decode cX8_yards 39 = .ok (.iconst 0, 1) := by decide +kernel
theorem dX8_yards_40 : decode cX8_yards 40 = .ok (.istore 5, 2) := by decide +kernel
theorem dX8_yards_42 : decode cX8_yards 42 = .ok (.iload 5, 2) := by decide +kernel
theorem dX8_yards_44 : decode cX8_yards 44 = .ok (.aload_n 0, 1) := by decide +kernel
theorem dX8_yards_45 : decode cX8_yards 45 = .ok (.getfield 15, 3) := by decide +kernel
theorem dX8_yards_48 : decode cX8_yards 48 = .ok (.if_icmp .ge 37, 3) := by decide +kernel
theorem dX8_yards_51 : decode cX8_yards 51 = .ok (.aload_n 0, 1) := by decide +kernel
theorem dX8_yards_52 : decode cX8_yards 52 = .ok (.iload_n 1, 1) := by decide +kernel
theorem dX8_yards_53 : decode cX8_yards 53 = .ok (.iload 5, 2) := by decide +kernel
theorem dX8_yards_55 : decode cX8_yards 55 = .ok (.invokevirtual 193, 3) := by decide +kernel
theorem dX8_yards_58 : decode cX8_yards 58 = .ok (.ifCond .eq 21, 3) := by decide +kernel
theorem dX8_yards_61 : decode cX8_yards 61 = .ok (.iload 4, 2) := by decide +kernel
theorem dX8_yards_63 : decode cX8_yards 63 = .ok (.aload_n 0, 1) := by decide +kernel
theorem dX8_yards_64 : decode cX8_yards 64 = .ok (.aload_n 0, 1) := by decide +kernel
theorem dX8_yards_65 : decode cX8_yards 65 = .ok (.iload 5, 2) := by decide +kernel
theorem dX8_yards_67 : decode cX8_yards 67 = .ok (.invokevirtual 258, 3) := by decide +kernel
theorem dX8_yards_70 : decode cX8_yards 70 = .ok (.iload_n 2, 1) := by decide +kernel
theorem dX8_yards_71 : decode cX8_yards 71 = .ok (.invokevirtual 287, 3) := by decide +kernel
theorem dX8_yards_74 : decode cX8_yards 74 = .ok (.invokestatic 290, 3) := by decide +kernel
theorem dX8_yards_77 : decode cX8_yards 77 = .ok (.istore 4, 2) := by decide +kernel
theorem dX8_yards_79 : decode cX8_yards 79 = .ok (.iinc 5 1, 3) := by decide +kernel
theorem dX8_yards_82 : decode cX8_yards 82 = .ok (.goto (-40), 3) := by decide +kernel
theorem dX8_yards_85 : decode cX8_yards 85 = .ok (.aload_n 0, 1) := by decide +kernel
theorem dX8_yards_86 : decode cX8_yards 86 = .ok (.aload_n 0, 1) := by decide +kernel
theorem dX8_yards_87 : decode cX8_yards 87 = .ok (.iload_n 3, 1) := by decide +kernel
theorem dX8_yards_88 : decode cX8_yards 88 = .ok (.invokevirtual 258, 3) := by decide +kernel
theorem dX8_yards_91 : decode cX8_yards 91 = .ok (.iload_n 2, 1) := by decide +kernel
theorem dX8_yards_92 : decode cX8_yards 92 = .ok (.invokevirtual 287, 3) := by decide +kernel
theorem dX8_yards_95 : decode cX8_yards 95 = .ok (.iload 4, 2) := by decide +kernel
theorem dX8_yards_97 : decode cX8_yards 97 = .ok (.isub, 1) := by decide +kernel
theorem dX8_yards_98 : decode cX8_yards 98 = .ok (.iconst 3, 1) := by decide +kernel
theorem dX8_yards_99 : decode cX8_yards 99 = .ok (.imul, 1) := by decide +kernel
theorem dX8_yards_100 : decode cX8_yards 100 = .ok (.ireturn, 1) := by decide +kernel
def BX8_yards_42 (x : XS) (q1 : Int32) (q2 : Int32) (q3 : Int32) (lp : Int32 → Int32 → Option (Int32)) (u4 : Int32) (u5 : Int32) : Option (Int32) := if (x.1 0 1) ≤ u5 then some u4 else Option.bind (fX8_isIn x q1 u5) fun v11 => if v11 = true then Option.bind (fX8_leadOf x u5) fun v14 => Option.bind (fX8_worthOf x v14 q2) fun v16 => lt (imin u4 v16) fun v18 => lt (u5 + 1) fun v19 => lp v18 v19 else lt (u5 + 1) fun v13 => lp u4 v13
def LX8_yards_42 (x : XS) (q1 : Int32) (q2 : Int32) (q3 : Int32) : Nat → Int32 → Int32 → Option (Int32)
  | 0, _, _ => none
  | n + 1, u4, u5 => BX8_yards_42 x q1 q2 q3 (LX8_yards_42 x q1 q2 q3 n) u4 u5
def fX8_yards (x : XS) (a1 : Int32) (a2 : Int32) (a3 : Int32) : Option (Int32) := Option.bind (fX8_isField x a1) fun v1 => if v1 = true then Option.bind (fX8_isGround a2) fun v3 => if v3 = true then Option.bind (fX8_isIn x a1 a3) fun v5 => if v5 = true then Option.bind (fX8_leadOf x a3) fun v7 => Option.bind (fX8_worthOf x v7 a2) fun v9 => Option.bind (LX8_yards_42 x a1 a2 a3 NF v9 0) fun v20 => Option.bind (fX8_leadOf x a3) fun v21 => Option.bind (fX8_worthOf x v21 a2) fun v23 => some ((v23 - v20) * 3) else some (-2) else some (-2) else some (-2)
set_option maxHeartbeats 4000000 in
set_option maxRecDepth 100000 in
theorem lX8_yards_42 {p : Program} {l : Launch} {e : Env} {R : Room} {s : State} {m : MethodId} {args : Array Value} {below : List Frame} {meth : Method} {c : Code} {cells slots : Nat} {Q : State → Prop} {G : xG} {β : Nat} {D : Nat → Prop} (C : Cx p s m args meth c RX8 cX8_yards 6 (some .int) (KK G)) (hRf : 3 ≤ R.frames) (hRl : 65 ≤ R.locals) (hcs : cells ≤ R.cells ∧ slots ≤ R.slots) (hf : Fz D G s.heap) (x : XS) (q1 : Int32) (q2 : Int32) (q3 : Int32) : ∀ (n : Nat) (u4 : Int32) (u5 : Int32) (J : Int32) (H : Heap) (locs : List Loc) (ls : Array Slot), LX8_yards_42 x q1 q2 q3 n u4 u5 = some J → CW β D G x H → va_S D s.heap H locs → lv_has ls 6 [(0, .ref β), (1, .int q1), (2, .int q2), (3, .int q3), (4, .int u4), (5, .int u5)] → (∀ (w4 : Int32), J = w4 → ∀ (H : Heap) (locs : List Loc) (ls : Array Slot), CW β D G x H → va_S D s.heap H locs → lv_has ls 6 [(0, .ref β), (2, .int q2), (3, .int q3), (4, .int w4)] → W p l e R s m args below meth c H locs cells slots Q (F0 m 85 ls [])) → W p l e R s m args below meth c H locs cells slots Q (F0 m 42 ls []) := by
  have hx := C.1
  have hb := C.2.1
  have ho := C.2.2.2.1
  have hts := C.2.2.2.2.1
  intro n
  induction n with
  | zero =>
    intro u4 u5 J H locs ls hm
    exact absurd hm (by simp [LX8_yards_42])
  | succ n ih =>
    intro u4 u5 J H locs ls hm hw hS hl ke
    replace hm : BX8_yards_42 x q1 q2 q3 (LX8_yards_42 x q1 q2 q3 n) u4 u5 = some J := hm
    unfold BX8_yards_42 at hm
    refine lv_iload hx hb dX8_yards_42 (lv_at hl 5 rfl) ?_
    refine lv_aload_n hx hb dX8_yards_44 rfl (lv_at hl 0 rfl) ?_
    refine gX8_15 C hw dX8_yards_45 ?_
    refine lv_icmp_ge (tgt := 85) hx hb dX8_yards_48 (by decide) (fun cc => ?_) (fun cc => ?_)
    · replace hm := ite_p cc hm
      exact ke _ (Option.some.inj hm).symm _ _ _ hw hS (lv_sub hl [0, 2, 3, 4] rfl)
    · replace hm := ite_n cc hm
      refine lv_aload_n hx hb dX8_yards_51 rfl (lv_at hl 0 rfl) ?_
      refine lv_iload_n hx hb dX8_yards_52 rfl (lv_at hl 1 rfl) ?_
      refine lv_iload hx hb dX8_yards_53 (lv_at hl 5 rfl) ?_
      obtain ⟨v11, h12, hm⟩ := bind_e hm
      refine sX8_193 C h12 hw hS hl.1 (Nat.le_of_ble_eq_true rfl) (Nat.le_trans (Nat.le_of_ble_eq_true rfl) hRf) (Nat.le_trans (Nat.le_of_ble_eq_true rfl) hRl) hcs dX8_yards_55 (fun H locs hw hS => ?_)
      refine x_ifeqB hx hb dX8_yards_58 (tgt := 79) (by decide) (fun cc => ?_) (fun cc => ?_)
      · replace hm := ite_n cc hm
        obtain ⟨v13, ev, hm⟩ := lt_e hm
        refine lv_iinc (v := v13) (lv' := [(5, .int v13), (0, .ref β), (1, .int q1), (2, .int q2), (3, .int q3), (4, .int u4)]) hx hb dX8_yards_79 hl (k := 5) rfl (by rw [ev]; rfl) (by decide) rfl (fun ls hl => ?_)
        clear ev
        refine lv_goto (tgt := 42) hx hb dX8_yards_82 (by decide) ?_
        exact ih _ _ _ _ _ _ hm hw hS (lv_sub hl [1, 2, 3, 4, 5, 0] rfl) ke
      · replace hm := ite_p cc hm
        refine lv_iload hx hb dX8_yards_61 (lv_at hl 4 rfl) ?_
        refine lv_aload_n hx hb dX8_yards_63 rfl (lv_at hl 0 rfl) ?_
        refine lv_aload_n hx hb dX8_yards_64 rfl (lv_at hl 0 rfl) ?_
        refine lv_iload hx hb dX8_yards_65 (lv_at hl 5 rfl) ?_
        obtain ⟨v14, h15, hm⟩ := bind_e hm
        refine sX8_258 C h15 hw hS hl.1 (Nat.le_of_ble_eq_true rfl) (Nat.le_trans (Nat.le_of_ble_eq_true rfl) hRf) (Nat.le_trans (Nat.le_of_ble_eq_true rfl) hRl) hcs dX8_yards_67 (fun H locs hw hS => ?_)
        refine lv_iload_n hx hb dX8_yards_70 rfl (lv_at hl 2 rfl) ?_
        obtain ⟨v16, h17, hm⟩ := bind_e hm
        refine sX8_287 C h17 hw hS hl.1 (Nat.le_of_ble_eq_true rfl) (Nat.le_trans (Nat.le_of_ble_eq_true rfl) hRf) (Nat.le_trans (Nat.le_of_ble_eq_true rfl) hRl) hcs dX8_yards_71 (fun H locs hw hS => ?_)
        refine mmX8_290 C hl.1 (Nat.le_trans (Nat.le_of_ble_eq_true rfl) hRf) (Nat.le_trans (Nat.le_of_ble_eq_true rfl) hRl) hcs dX8_yards_74 ?_
        refine topI hm (fun v18 hm => ?_)
        refine lv_istore (lv' := [(4, .int v18), (0, .ref β), (1, .int q1), (2, .int q2), (3, .int q3), (5, .int u5)]) hx hb dX8_yards_77 hl (by decide) rfl (fun ls hl => ?_)
        obtain ⟨v19, ev, hm⟩ := lt_e hm
        refine lv_iinc (v := v19) (lv' := [(5, .int v19), (4, .int v18), (0, .ref β), (1, .int q1), (2, .int q2), (3, .int q3)]) hx hb dX8_yards_79 hl (k := 5) rfl (by rw [ev]; rfl) (by decide) rfl (fun ls hl => ?_)
        clear ev
        refine lv_goto (tgt := 42) hx hb dX8_yards_82 (by decide) ?_
        exact ih _ _ _ _ _ _ hm hw hS (lv_sub hl [2, 3, 4, 5, 1, 0] rfl) ke
abbrev rmX8_yards : Room := { frames := 3, cells := 0, slots := 0, locals := 65 }
set_option maxHeartbeats 4000000 in
set_option maxRecDepth 100000 in
theorem kX8_yards {l : Launch} {G : xG} {β : Nat} {D : Nat → Prop} {x : XS} {a1 : Int32} {a2 : Int32} {a3 : Int32} {r : Int32} (hm : fX8_yards x a1 a2 a3 = some r) : Met l yX8_yards (.code yX8_yards cX8_yards 6 (some .int) :: GT) rmX8_yards (PcW [.ref β, .int a1, .int a2, .int a3] (CW β D G x) (KK G)) (QcW D (some (.int r)) (CW β D G x)) 0 0 D := by
  unfold fX8_yards at hm
  refine xpro (own := RX8) (by decide +kernel) rfl (Nat.le_of_ble_eq_true rfl) ?_
  intro p e s m args below meth c C hw ls hl
  have hx := C.1
  have hb := C.2.1
  have ho := C.2.2.2.1
  have hts := C.2.2.2.2.1
  have hf : Fz D G s.heap := hw.2.2.2.2
  have hS : va_S D s.heap s.heap [] := va_S.rf
  have hl : lv_has ls 6 [(0, .ref β), (1, .int a1), (2, .int a2), (3, .int a3)] := hl
  have hRf : 3 ≤ rmX8_yards.frames := Nat.le_refl _
  have hRl : 65 ≤ rmX8_yards.locals := Nat.le_refl _
  have hcs : 0 ≤ rmX8_yards.cells ∧ 0 ≤ rmX8_yards.slots := ⟨Nat.le_refl _, Nat.le_refl _⟩
  refine lv_aload_n hx hb dX8_yards_0 rfl (lv_at hl 0 rfl) ?_
  refine lv_iload_n hx hb dX8_yards_1 rfl (lv_at hl 1 rfl) ?_
  obtain ⟨v1, h2, hm⟩ := bind_e hm
  refine sX8_187 C h2 hw hS hl.1 (Nat.le_of_ble_eq_true rfl) (Nat.le_trans (Nat.le_of_ble_eq_true rfl) hRf) (Nat.le_trans (Nat.le_of_ble_eq_true rfl) hRl) hcs dX8_yards_2 (fun H locs hw hS => ?_)
  refine x_ifeqB hx hb dX8_yards_5 (tgt := 24) (by decide) (fun cc => ?_) (fun cc => ?_)
  · replace hm := ite_n cc hm
    refine lv_bipush (v := (-2)) hx hb dX8_yards_24 (by decide) ?_
    obtain rfl := Option.some.inj hm
    exact xret_i C hw hS dX8_yards_26
  · replace hm := ite_p cc hm
    refine lv_iload_n hx hb dX8_yards_8 rfl (lv_at hl 2 rfl) ?_
    obtain ⟨v3, h4, hm⟩ := bind_e hm
    refine sX8_150 C h4 hw hS hl.1 (Nat.le_of_ble_eq_true rfl) (Nat.le_trans (Nat.le_of_ble_eq_true rfl) hRf) (Nat.le_trans (Nat.le_of_ble_eq_true rfl) hRl) hcs dX8_yards_9 (fun H locs hw hS => ?_)
    refine x_ifeqB hx hb dX8_yards_12 (tgt := 24) (by decide) (fun cc => ?_) (fun cc => ?_)
    · replace hm := ite_n cc hm
      refine lv_bipush (v := (-2)) hx hb dX8_yards_24 (by decide) ?_
      obtain rfl := Option.some.inj hm
      exact xret_i C hw hS dX8_yards_26
    · replace hm := ite_p cc hm
      refine lv_aload_n hx hb dX8_yards_15 rfl (lv_at hl 0 rfl) ?_
      refine lv_iload_n hx hb dX8_yards_16 rfl (lv_at hl 1 rfl) ?_
      refine lv_iload_n hx hb dX8_yards_17 rfl (lv_at hl 3 rfl) ?_
      obtain ⟨v5, h6, hm⟩ := bind_e hm
      refine sX8_193 C h6 hw hS hl.1 (Nat.le_of_ble_eq_true rfl) (Nat.le_trans (Nat.le_of_ble_eq_true rfl) hRf) (Nat.le_trans (Nat.le_of_ble_eq_true rfl) hRl) hcs dX8_yards_18 (fun H locs hw hS => ?_)
      refine x_ifneB hx hb dX8_yards_21 (tgt := 27) (by decide) (fun cc => ?_) (fun cc => ?_)
      · replace hm := ite_p cc hm
        refine lv_aload_n hx hb dX8_yards_27 rfl (lv_at hl 0 rfl) ?_
        refine lv_aload_n hx hb dX8_yards_28 rfl (lv_at hl 0 rfl) ?_
        refine lv_iload_n hx hb dX8_yards_29 rfl (lv_at hl 3 rfl) ?_
        obtain ⟨v7, h8, hm⟩ := bind_e hm
        refine sX8_258 C h8 hw hS hl.1 (Nat.le_of_ble_eq_true rfl) (Nat.le_trans (Nat.le_of_ble_eq_true rfl) hRf) (Nat.le_trans (Nat.le_of_ble_eq_true rfl) hRl) hcs dX8_yards_30 (fun H locs hw hS => ?_)
        refine lv_iload_n hx hb dX8_yards_33 rfl (lv_at hl 2 rfl) ?_
        obtain ⟨v9, h10, hm⟩ := bind_e hm
        refine sX8_287 C h10 hw hS hl.1 (Nat.le_of_ble_eq_true rfl) (Nat.le_trans (Nat.le_of_ble_eq_true rfl) hRf) (Nat.le_trans (Nat.le_of_ble_eq_true rfl) hRl) hcs dX8_yards_34 (fun H locs hw hS => ?_)
        refine lv_istore (lv' := [(4, .int v9), (0, .ref β), (1, .int a1), (2, .int a2), (3, .int a3)]) hx hb dX8_yards_37 hl (by decide) rfl (fun ls hl => ?_)
        refine lv_iconst (v := 0) hx hb dX8_yards_39 (by decide) ?_
        refine lv_istore (lv' := [(5, .int 0), (4, .int v9), (0, .ref β), (1, .int a1), (2, .int a2), (3, .int a3)]) hx hb dX8_yards_40 hl (by decide) rfl (fun ls hl => ?_)
        obtain ⟨v20, hj, hm⟩ := bind_e hm
        refine lX8_yards_42 C hRf hRl hcs hf x a1 a2 a3 NF _ _ _ _ _ _ hj hw hS (lv_sub hl [2, 3, 4, 5, 1, 0] rfl) (fun v20_ e0 H locs ls hw hS hl => ?_)
        cases e0
        refine lv_aload_n hx hb dX8_yards_85 rfl (lv_at hl 0 rfl) ?_
        refine lv_aload_n hx hb dX8_yards_86 rfl (lv_at hl 0 rfl) ?_
        refine lv_iload_n hx hb dX8_yards_87 rfl (lv_at hl 2 rfl) ?_
        obtain ⟨v21, h22, hm⟩ := bind_e hm
        refine sX8_258 C h22 hw hS hl.1 (Nat.le_of_ble_eq_true rfl) (Nat.le_trans (Nat.le_of_ble_eq_true rfl) hRf) (Nat.le_trans (Nat.le_of_ble_eq_true rfl) hRl) hcs dX8_yards_88 (fun H locs hw hS => ?_)
        refine lv_iload_n hx hb dX8_yards_91 rfl (lv_at hl 1 rfl) ?_
        obtain ⟨v23, h24, hm⟩ := bind_e hm
        refine sX8_287 C h24 hw hS hl.1 (Nat.le_of_ble_eq_true rfl) (Nat.le_trans (Nat.le_of_ble_eq_true rfl) hRf) (Nat.le_trans (Nat.le_of_ble_eq_true rfl) hRl) hcs dX8_yards_92 (fun H locs hw hS => ?_)
        refine lv_iload hx hb dX8_yards_95 (lv_at hl 3 rfl) ?_
        refine lv_isub hx hb dX8_yards_97 ?_
        refine lv_iconst (v := 3) hx hb dX8_yards_98 (by decide) ?_
        refine lv_imul hx hb dX8_yards_99 ?_
        obtain rfl := Option.some.inj hm
        exact xret_i C hw hS dX8_yards_100
      · replace hm := ite_n cc hm
        refine lv_bipush (v := (-2)) hx hb dX8_yards_24 (by decide) ?_
        obtain rfl := Option.some.inj hm
        exact xret_i C hw hS dX8_yards_26
theorem dX8_drawRuns_0 : decode cX8_drawRuns 0 = .ok (.lload 4, 2) := by decide +kernel
theorem dX8_drawRuns_2 : decode cX8_drawRuns 2 = .ok (.lstore 6, 2) := by decide +kernel
theorem dX8_drawRuns_4 : decode cX8_drawRuns 4 = .ok (.iconst 0, 1) := by decide +kernel
theorem dX8_drawRuns_5 : decode cX8_drawRuns 5 = .ok (.istore 8, 2) := by decide +kernel
theorem dX8_drawRuns_7 : decode cX8_drawRuns 7 = .ok (.iload 8, 2) := by decide +kernel
theorem dX8_drawRuns_9 : decode cX8_drawRuns 9 = .ok (.aload_n 0, 1) := by decide +kernel
theorem dX8_drawRuns_10 : decode cX8_drawRuns 10 = .ok (.getfield 15, 3) := by decide +kernel
theorem dX8_drawRuns_13 : decode cX8_drawRuns 13 = .ok (.if_icmp .ge 76, 3) := by decide +kernel
theorem dX8_drawRuns_16 : decode cX8_drawRuns 16 = .ok (.aload_n 0, 1) := by decide +kernel
theorem dX8_drawRuns_17 : decode cX8_drawRuns 17 = .ok (.iload_n 1, 1) := by decide +kernel
theorem dX8_drawRuns_18 : decode cX8_drawRuns 18 = .ok (.iload 8, 2) := by decide +kernel
theorem dX8_drawRuns_20 : decode cX8_drawRuns 20 = .ok (.invokevirtual 193, 3) := by decide +kernel
theorem dX8_drawRuns_23 : decode cX8_drawRuns 23 = .ok (.ifCond .eq 60, 3) := by decide +kernel
theorem dX8_drawRuns_26 : decode cX8_drawRuns 26 = .ok (.lload 6, 2) := by decide +kernel
theorem dX8_drawRuns_28 : decode cX8_drawRuns 28 = .ok (.ldc2_w 418, 3) := by decide +kernel
theorem dX8_drawRuns_31 : decode cX8_drawRuns 31 = .ok (.lmul, 1) := by decide +kernel
theorem dX8_drawRuns_32 : decode cX8_drawRuns 32 = .ok (.ldc2_w 420, 3) := by decide +kernel
theorem dX8_drawRuns_35 : decode cX8_drawRuns 35 = .ok (.lrem, 1) := by decide +kernel
theorem dX8_drawRuns_36 : decode cX8_drawRuns 36 = .ok (.lstore 6, 2) := by decide +kernel
theorem dX8_drawRuns_38 : decode cX8_drawRuns 38 = .ok (.lload 6, 2) := by decide +kernel
theorem dX8_drawRuns_40 : decode cX8_drawRuns 40 = .ok (.iconst 2, 1) := by decide +kernel
theorem dX8_drawRuns_41 : decode cX8_drawRuns 41 = .ok (.aload_n 0, 1) := by decide +kernel
theorem dX8_drawRuns_42 : decode cX8_drawRuns 42 = .ok (.getfield 23, 3) := by decide +kernel
theorem dX8_drawRuns_45 : decode cX8_drawRuns 45 = .ok (.imul, 1) := by decide +kernel
theorem dX8_drawRuns_46 : decode cX8_drawRuns 46 = .ok (.iconst 1, 1) := by decide +kernel
theorem dX8_drawRuns_47 : decode cX8_drawRuns 47 = .ok (.iadd, 1) := by decide +kernel
theorem dX8_drawRuns_48 : decode cX8_drawRuns 48 = .ok (.i2l, 1) := by decide +kernel
theorem dX8_drawRuns_49 : decode cX8_drawRuns 49 = .ok (.lrem, 1) := by decide +kernel
theorem dX8_drawRuns_50 : decode cX8_drawRuns 50 = .ok (.l2i, 1) := by decide +kernel
theorem dX8_drawRuns_51 : decode cX8_drawRuns 51 = .ok (.aload_n 0, 1) := by decide +kernel
theorem dX8_drawRuns_52 : decode cX8_drawRuns 52 = .ok (.getfield 23, 3) := by decide +kernel
theorem dX8_drawRuns_55 : decode cX8_drawRuns 55 = .ok (.isub, 1) := by decide +kernel
theorem dX8_drawRuns_56 : decode cX8_drawRuns 56 = .ok (.istore 9, 2) := by decide +kernel
theorem dX8_drawRuns_58 : decode cX8_drawRuns 58 = .ok (.aload_n 0, 1) := by decide +kernel
theorem dX8_drawRuns_59 : decode cX8_drawRuns 59 = .ok (.getfield 95, 3) := by decide +kernel
theorem dX8_drawRuns_62 : decode cX8_drawRuns 62 = .ok (.iload 8, 2) := by decide +kernel
theorem dX8_drawRuns_64 : decode cX8_drawRuns 64 = .ok (.aload_n 0, 1) := by decide +kernel
theorem dX8_drawRuns_65 : decode cX8_drawRuns 65 = .ok (.iload 8, 2) := by decide +kernel
theorem dX8_drawRuns_67 : decode cX8_drawRuns 67 = .ok (.aload_n 0, 1) := by decide +kernel
theorem dX8_drawRuns_68 : decode cX8_drawRuns 68 = .ok (.getfield 89, 3) := by decide +kernel
theorem dX8_drawRuns_71 : decode cX8_drawRuns 71 = .ok (.iload 8, 2) := by decide +kernel
theorem dX8_drawRuns_73 : decode cX8_drawRuns 73 = .ok (.iaload, 1) := by decide +kernel
theorem dX8_drawRuns_74 : decode cX8_drawRuns 74 = .ok (.iload_n 2, 1) := by decide +kernel
theorem dX8_drawRuns_75 : decode cX8_drawRuns 75 = .ok (.iload_n 3, 1) := by decide +kernel
theorem dX8_drawRuns_76 : decode cX8_drawRuns 76 = .ok (.invokevirtual 376, 3) := by decide +kernel
theorem dX8_drawRuns_79 : decode cX8_drawRuns 79 = .ok (.iload 9, 2) := by decide +kernel
theorem dX8_drawRuns_81 : decode cX8_drawRuns 81 = .ok (.iadd, 1) := by decide +kernel
theorem dX8_drawRuns_82 : decode cX8_drawRuns 82 = .ok (.iastore, 1) := by decide +kernel
theorem dX8_drawRuns_83 : decode cX8_drawRuns 83 = .ok (.iinc 8 1, 3) := by decide +kernel
theorem dX8_drawRuns_86 : decode cX8_drawRuns 86 = .ok (.goto (-79), 3) := by decide +kernel
theorem dX8_drawRuns_89 : decode cX8_drawRuns 89 = .ok (.lload 6, 2) := by decide +kernel
theorem dX8_drawRuns_91 : decode cX8_drawRuns 91 = .ok (.lreturn, 1) := by decide +kernel
theorem gX8_95 {p : Program} {l : Launch} {e : Env} {R : Room} {s : State} {m : MethodId} {args : Array Value} {below : List Frame} {meth : Method} {c : Code} {H : Heap} {locs : List Loc} {cells slots : Nat} {Q : State → Prop} {cc : ByteArray} {pc nL : Nat} {ls : Array Slot} {rest : List Value} {ret : Option FieldType} {G : xG} {β : Nat} {D : Nat → Prop} {x : XS} (C : Cx p s m args meth c RX8 cc nL ret (KK G)) (hw : CW β D G x H) (hd : decode cc pc = .ok (.getfield 95, 3)) (kk : W p l e R s m args below meth c H locs cells slots Q (F0 m (pc + 3) ls (.ref (β + 26) :: rest))) : W p l e R s m args below meth c H locs cells slots Q (F0 m pc ls (.ref β :: rest)) :=
  va_get C.1 C.2.1 C.2.2.2.2.1 iwX8 C.2.2.2.1 C.K.1 (xP1 (hw.2.2.1 0 (by decide))) 0 rfl rfl 18 (by decide) (C.2.2.2.2.1 (.fieldLink RX8 95 RX8 "trialRuns" "[I") (tg 365 (by decide +kernel) rfl)) (fun _ h9 => h9) rfl hd kk
theorem asX_26 {p : Program} {l : Launch} {e : Env} {R : Room} {s : State} {m : MethodId} {args : Array Value} {below : List Frame} {meth : Method} {c : Code} {H : Heap} {locs : List Loc} {cells slots : Nat} {Q : State → Prop} {cc : ByteArray} {pc nL : Nat} {ls : Array Slot} {rest : List Value} {ret : Option FieldType} {G : xG} {β : Nat} {D : Nat → Prop} {x : XS} {own : String} {i : Int32} {v : Int32} (C : Cx p s m args meth c own cc nL ret (KK G)) (hw : CW β D G x H) (hS : va_S D s.heap H locs) (hin : ib i 10) (hd : decode cc pc = .ok (.iastore, 1)) (kk : ∀ (H1 : Heap) (locs1 : List Loc), CW β D G (xsA x 26 i.toNatClampNeg v) H1 → va_S D s.heap H1 locs1 → W p l e R s m args below meth c H1 locs1 cells slots Q (F0 m (pc + 1) ls (rest))) : W p l e R s m args below meth c H locs cells slots Q (F0 m pc ls (.int v :: .int i :: .ref (β + 26) :: rest)) :=
  x_iast C.1 C.2.1 C.K.1 hS 0 (hw.2.2.1 26 (by decide)) (hw.2.1 26 (by decide)) rfl hin hd (fun H1 locs1 hat ho hS => kk H1 locs1 (hw.setA 26 _ _ hat ho) hS)
def BX8_drawRuns_7 (q1 : Int32) (q2 : Int32) (q3 : Int32) (lp : Int64 → Int32 → XS → Option (Int64 × XS)) (u6 : Int64) (u8 : Int32) (x : XS) : Option (Int64 × XS) := if (x.1 0 1) ≤ u8 then some (u6, x) else Option.bind (fX8_isIn x q1 u8) fun v1 => if v1 = true then lt (lrm (u6 * 48271) 2147483647) fun v4 => if ¬ (((2 * (x.1 0 3)) + 1).toInt64) = 0 then lt (((lrm v4 (((2 * (x.1 0 3)) + 1).toInt64)).toInt32) - (x.1 0 3)) fun v6 => if ib u8 10 then Option.bind (fX8_ratingOf x u8 (x.2.1 24 u8.toNatClampNeg) q2 q3) fun v8 => if ib u8 10 then lt (xsA x 26 u8.toNatClampNeg (v8 + v6)) fun x11 => lt (u8 + 1) fun v12 => lp v4 v12 x11 else none else none else none else lt (u8 + 1) fun v3 => lp u6 v3 x
def LX8_drawRuns_7 (q1 : Int32) (q2 : Int32) (q3 : Int32) : Nat → Int64 → Int32 → XS → Option (Int64 × XS)
  | 0, _, _, _ => none
  | n + 1, u6, u8, x => BX8_drawRuns_7 q1 q2 q3 (LX8_drawRuns_7 q1 q2 q3 n) u6 u8 x
def fX8_drawRuns (x : XS) (a1 : Int32) (a2 : Int32) (a3 : Int32) (a4 : Int64) : Option (Int64 × XS) := bind2 (LX8_drawRuns_7 a1 a2 a3 NF a4 0 x) fun v13 x14 => some (v13, x14)
set_option maxHeartbeats 4000000 in
set_option maxRecDepth 100000 in
theorem lX8_drawRuns_7 {p : Program} {l : Launch} {e : Env} {R : Room} {s : State} {m : MethodId} {args : Array Value} {below : List Frame} {meth : Method} {c : Code} {cells slots : Nat} {Q : State → Prop} {G : xG} {β : Nat} {D : Nat → Prop} (C : Cx p s m args meth c RX8 cX8_drawRuns 10 (some .long) (KK G)) (hRf : 4 ≤ R.frames) (hRl : 90 ≤ R.locals) (hcs : cells ≤ R.cells ∧ slots ≤ R.slots) (hf : Fz D G s.heap) (q1 : Int32) (q2 : Int32) (q3 : Int32) : ∀ (n : Nat) (u6 : Int64) (u8 : Int32) (x : XS) (J : Int64 × XS) (H : Heap) (locs : List Loc) (ls : Array Slot), LX8_drawRuns_7 q1 q2 q3 n u6 u8 x = some J → CW β D G x H → va_S D s.heap H locs → lv_has ls 10 [(0, .ref β), (1, .int q1), (2, .int q2), (3, .int q3), (6, .long u6), (8, .int u8)] → (∀ (w6 : Int64) (x1 : XS), J = (w6, x1) → ∀ (H : Heap) (locs : List Loc) (ls : Array Slot), CW β D G x1 H → va_S D s.heap H locs → lv_has ls 10 [(6, .long w6)] → W p l e R s m args below meth c H locs cells slots Q (F0 m 89 ls [])) → W p l e R s m args below meth c H locs cells slots Q (F0 m 7 ls []) := by
  have hx := C.1
  have hb := C.2.1
  have ho := C.2.2.2.1
  have hts := C.2.2.2.2.1
  intro n
  induction n with
  | zero =>
    intro u6 u8 x J H locs ls hm
    exact absurd hm (by simp [LX8_drawRuns_7])
  | succ n ih =>
    intro u6 u8 x J H locs ls hm hw hS hl ke
    replace hm : BX8_drawRuns_7 q1 q2 q3 (LX8_drawRuns_7 q1 q2 q3 n) u6 u8 x = some J := hm
    unfold BX8_drawRuns_7 at hm
    refine lv_iload hx hb dX8_drawRuns_7 (lv_at hl 5 rfl) ?_
    refine lv_aload_n hx hb dX8_drawRuns_9 rfl (lv_at hl 0 rfl) ?_
    refine gX8_15 C hw dX8_drawRuns_10 ?_
    refine lv_icmp_ge (tgt := 89) hx hb dX8_drawRuns_13 (by decide) (fun cc => ?_) (fun cc => ?_)
    · replace hm := ite_p cc hm
      exact ke _ _ (Option.some.inj hm).symm _ _ _ hw hS (lv_sub hl [4] rfl)
    · replace hm := ite_n cc hm
      refine lv_aload_n hx hb dX8_drawRuns_16 rfl (lv_at hl 0 rfl) ?_
      refine lv_iload_n hx hb dX8_drawRuns_17 rfl (lv_at hl 1 rfl) ?_
      refine lv_iload hx hb dX8_drawRuns_18 (lv_at hl 5 rfl) ?_
      obtain ⟨v1, h2, hm⟩ := bind_e hm
      refine sX8_193 C h2 hw hS hl.1 (Nat.le_of_ble_eq_true rfl) (Nat.le_trans (Nat.le_of_ble_eq_true rfl) hRf) (Nat.le_trans (Nat.le_of_ble_eq_true rfl) hRl) hcs dX8_drawRuns_20 (fun H locs hw hS => ?_)
      refine x_ifeqB hx hb dX8_drawRuns_23 (tgt := 83) (by decide) (fun cc => ?_) (fun cc => ?_)
      · replace hm := ite_n cc hm
        obtain ⟨v3, ev, hm⟩ := lt_e hm
        refine lv_iinc (v := v3) (lv' := [(8, .int v3), (0, .ref β), (1, .int q1), (2, .int q2), (3, .int q3), (6, .long u6)]) hx hb dX8_drawRuns_83 hl (k := 5) rfl (by rw [ev]; rfl) (by decide) rfl (fun ls hl => ?_)
        clear ev
        refine lv_goto (tgt := 7) hx hb dX8_drawRuns_86 (by decide) ?_
        exact ih _ _ _ _ _ _ _ hm hw hS (lv_sub hl [1, 2, 3, 4, 5, 0] rfl) ke
      · replace hm := ite_p cc hm
        refine lv_lload hx hb dX8_drawRuns_26 (lv_at hl 4 rfl) ?_
        refine lv_ldc2 (v := 48271) hx hb ho (hts (.constantLong RX8 418 48271) (tg 812 (by decide +kernel) rfl)) dX8_drawRuns_28 ?_
        refine lv_lmul hx hb dX8_drawRuns_31 ?_
        refine lv_ldc2 (v := 2147483647) hx hb ho (hts (.constantLong RX8 420 2147483647) (tg 813 (by decide +kernel) rfl)) dX8_drawRuns_32 ?_
        refine lv_lrem hx hb dX8_drawRuns_35 (by decide) ?_
        refine topJ hm (fun v4 hm => ?_)
        refine lv_lstore (lv' := [(6, .long v4), (0, .ref β), (1, .int q1), (2, .int q2), (3, .int q3), (8, .int u8)]) hx hb dX8_drawRuns_36 hl (by decide) rfl (fun ls hl => ?_)
        refine lv_lload hx hb dX8_drawRuns_38 (lv_at hl 0 rfl) ?_
        refine lv_iconst (v := 2) hx hb dX8_drawRuns_40 (by decide) ?_
        refine lv_aload_n hx hb dX8_drawRuns_41 rfl (lv_at hl 1 rfl) ?_
        refine gX8_23 C hw dX8_drawRuns_42 ?_
        refine lv_imul hx hb dX8_drawRuns_45 ?_
        refine lv_iconst (v := 1) hx hb dX8_drawRuns_46 (by decide) ?_
        refine lv_iadd hx hb dX8_drawRuns_47 ?_
        refine lv_i2l hx hb dX8_drawRuns_48 rfl ?_
        obtain ⟨h5, hm⟩ := chk_e hm
        refine lv_lrem hx hb dX8_drawRuns_49 h5 ?_
        refine lv_l2i hx hb dX8_drawRuns_50 rfl ?_
        refine lv_aload_n hx hb dX8_drawRuns_51 rfl (lv_at hl 1 rfl) ?_
        refine gX8_23 C hw dX8_drawRuns_52 ?_
        refine lv_isub hx hb dX8_drawRuns_55 ?_
        refine topI hm (fun v6 hm => ?_)
        refine lv_istore (lv' := [(9, .int v6), (6, .long v4), (0, .ref β), (1, .int q1), (2, .int q2), (3, .int q3), (8, .int u8)]) hx hb dX8_drawRuns_56 hl (by decide) rfl (fun ls hl => ?_)
        refine lv_aload_n hx hb dX8_drawRuns_58 rfl (lv_at hl 2 rfl) ?_
        refine gX8_95 C hw dX8_drawRuns_59 ?_
        refine lv_iload hx hb dX8_drawRuns_62 (lv_at hl 6 rfl) ?_
        refine lv_aload_n hx hb dX8_drawRuns_64 rfl (lv_at hl 2 rfl) ?_
        refine lv_iload hx hb dX8_drawRuns_65 (lv_at hl 6 rfl) ?_
        refine lv_aload_n hx hb dX8_drawRuns_67 rfl (lv_at hl 2 rfl) ?_
        refine gX8_89 C hw dX8_drawRuns_68 ?_
        refine lv_iload hx hb dX8_drawRuns_71 (lv_at hl 6 rfl) ?_
        obtain ⟨h7, hm⟩ := chk_e hm
        refine alX_24 C hw h7 dX8_drawRuns_73 ?_
        refine lv_iload_n hx hb dX8_drawRuns_74 rfl (lv_at hl 4 rfl) ?_
        refine lv_iload_n hx hb dX8_drawRuns_75 rfl (lv_at hl 5 rfl) ?_
        obtain ⟨v8, h9, hm⟩ := bind_e hm
        refine sX8_376 C h9 hw hS hl.1 (Nat.le_of_ble_eq_true rfl) (Nat.le_trans (Nat.le_of_ble_eq_true rfl) hRf) (Nat.le_trans (Nat.le_of_ble_eq_true rfl) hRl) hcs dX8_drawRuns_76 (fun H locs hw hS => ?_)
        refine lv_iload hx hb dX8_drawRuns_79 (lv_at hl 0 rfl) ?_
        refine lv_iadd hx hb dX8_drawRuns_81 ?_
        obtain ⟨h10, hm⟩ := chk_e hm
        refine asX_26 C hw hS h10 dX8_drawRuns_82 (fun H locs hw hS => ?_)
        obtain ⟨x11, ev, hm⟩ := lt_e hm
        rw [← ev] at hw
        clear ev
        obtain ⟨v12, ev, hm⟩ := lt_e hm
        refine lv_iinc (v := v12) (lv' := [(8, .int v12), (9, .int v6), (6, .long v4), (0, .ref β), (1, .int q1), (2, .int q2), (3, .int q3)]) hx hb dX8_drawRuns_83 hl (k := 6) rfl (by rw [ev]; rfl) (by decide) rfl (fun ls hl => ?_)
        clear ev
        refine lv_goto (tgt := 7) hx hb dX8_drawRuns_86 (by decide) ?_
        exact ih _ _ _ _ _ _ _ hm hw hS (lv_sub hl [3, 4, 5, 6, 2, 0] rfl) ke
abbrev rmX8_drawRuns : Room := { frames := 4, cells := 0, slots := 0, locals := 90 }
set_option maxHeartbeats 4000000 in
set_option maxRecDepth 100000 in
theorem kX8_drawRuns {l : Launch} {G : xG} {β : Nat} {D : Nat → Prop} {x x' : XS} {a1 : Int32} {a2 : Int32} {a3 : Int32} {a4 : Int64} {r : Int64} (hm : fX8_drawRuns x a1 a2 a3 a4 = some (r, x')) : Met l yX8_drawRuns (.code yX8_drawRuns cX8_drawRuns 10 (some .long) :: GT) rmX8_drawRuns (PcW [.ref β, .int a1, .int a2, .int a3, .long a4] (CW β D G x) (KK G)) (QcW D (some (.long r)) (CW β D G x')) 0 0 D := by
  unfold fX8_drawRuns at hm
  refine xpro (own := RX8) (by decide +kernel) rfl (Nat.le_of_ble_eq_true rfl) ?_
  intro p e s m args below meth c C hw ls hl
  have hx := C.1
  have hb := C.2.1
  have ho := C.2.2.2.1
  have hts := C.2.2.2.2.1
  have hf : Fz D G s.heap := hw.2.2.2.2
  have hS : va_S D s.heap s.heap [] := va_S.rf
  have hl : lv_has ls 10 [(0, .ref β), (1, .int a1), (2, .int a2), (3, .int a3), (4, .long a4)] := hl
  have hRf : 4 ≤ rmX8_drawRuns.frames := Nat.le_refl _
  have hRl : 90 ≤ rmX8_drawRuns.locals := Nat.le_refl _
  have hcs : 0 ≤ rmX8_drawRuns.cells ∧ 0 ≤ rmX8_drawRuns.slots := ⟨Nat.le_refl _, Nat.le_refl _⟩
  refine lv_lload hx hb dX8_drawRuns_0 (lv_at hl 4 rfl) ?_
  refine lv_lstore (lv' := [(6, .long a4), (0, .ref β), (1, .int a1), (2, .int a2), (3, .int a3), (4, .long a4)]) hx hb dX8_drawRuns_2 hl (by decide) rfl (fun ls hl => ?_)
  refine lv_iconst (v := 0) hx hb dX8_drawRuns_4 (by decide) ?_
  refine lv_istore (lv' := [(8, .int 0), (6, .long a4), (0, .ref β), (1, .int a1), (2, .int a2), (3, .int a3), (4, .long a4)]) hx hb dX8_drawRuns_5 hl (by decide) rfl (fun ls hl => ?_)
  obtain ⟨v13, x14, hj, hm⟩ := bind2_e hm
  refine lX8_drawRuns_7 C hRf hRl hcs hf a1 a2 a3 NF _ _ _ _ _ _ _ hj hw hS (lv_sub hl [2, 3, 4, 5, 1, 0] rfl) (fun v13_ x14_ e0 H locs ls hw hS hl => ?_)
  cases e0
  refine lv_lload hx hb dX8_drawRuns_89 (lv_at hl 0 rfl) ?_
  obtain ⟨rfl, rfl⟩ := inj2 hm
  exact xret_l C hw hS dX8_drawRuns_91
theorem dX8_nextLead_0 : decode cX8_nextLead 0 = .ok (.aload_n 0, 1) := by decide +kernel
theorem dX8_nextLead_1 : decode cX8_nextLead 1 = .ok (.iconst 0, 1) := by decide +kernel
theorem dX8_nextLead_2 : decode cX8_nextLead 2 = .ok (.iload_n 1, 1) := by decide +kernel
theorem dX8_nextLead_3 : decode cX8_nextLead 3 = .ok (.iload_n 2, 1) := by decide +kernel
theorem dX8_nextLead_4 : decode cX8_nextLead 4 = .ok (.iload_n 3, 1) := by decide +kernel
theorem dX8_nextLead_5 : decode cX8_nextLead 5 = .ok (.iload 4, 2) := by decide +kernel
theorem dX8_nextLead_7 : decode cX8_nextLead 7 = .ok (.iload 5, 2) := by decide +kernel
theorem dX8_nextLead_9 : decode cX8_nextLead 9 = .ok (.invokevirtual 393, 3) := by decide +kernel
theorem dX8_nextLead_12 : decode cX8_nextLead 12 = .ok (.iconst 0, 1) := by decide +kernel
theorem dX8_nextLead_13 : decode cX8_nextLead 13 = .ok (.bipush 60, 2) := by decide +kernel
theorem dX8_nextLead_15 : decode cX8_nextLead 15 = .ok (.invokestatic 397, 3) := by decide +kernel
theorem dX8_nextLead_18 : decode cX8_nextLead 18 = .ok (.ireturn, 1) := by decide +kernel
def fX8_nextLead (x : XS) (a1 : Int32) (a2 : Int32) (a3 : Int32) (a4 : Int32) (a5 : Int32) : Option (Int32 × XS) := bind2 (fX8_ruled x 0 a1 a2 a3 a4 a5) fun v1 x2 => Option.bind (fX8_bounded v1 0 60) fun v4 => some (v4, x2)
abbrev rmX8_nextLead : Room := { frames := 4, cells := 0, slots := 0, locals := 96 }
set_option maxHeartbeats 4000000 in
set_option maxRecDepth 100000 in
theorem kX8_nextLead {l : Launch} {G : xG} {β : Nat} {D : Nat → Prop} {x x' : XS} {a1 : Int32} {a2 : Int32} {a3 : Int32} {a4 : Int32} {a5 : Int32} {r : Int32} (hm : fX8_nextLead x a1 a2 a3 a4 a5 = some (r, x')) : Met l yX8_nextLead (.code yX8_nextLead cX8_nextLead 6 (some .int) :: GT) rmX8_nextLead (PcW [.ref β, .int a1, .int a2, .int a3, .int a4, .int a5] (CW β D G x) (KK G)) (QcW D (some (.int r)) (CW β D G x')) 0 0 D := by
  unfold fX8_nextLead at hm
  refine xpro (own := RX8) (by decide +kernel) rfl (Nat.le_of_ble_eq_true rfl) ?_
  intro p e s m args below meth c C hw ls hl
  have hx := C.1
  have hb := C.2.1
  have ho := C.2.2.2.1
  have hts := C.2.2.2.2.1
  have hf : Fz D G s.heap := hw.2.2.2.2
  have hS : va_S D s.heap s.heap [] := va_S.rf
  have hl : lv_has ls 6 [(0, .ref β), (1, .int a1), (2, .int a2), (3, .int a3), (4, .int a4), (5, .int a5)] := hl
  have hRf : 4 ≤ rmX8_nextLead.frames := Nat.le_refl _
  have hRl : 96 ≤ rmX8_nextLead.locals := Nat.le_refl _
  have hcs : 0 ≤ rmX8_nextLead.cells ∧ 0 ≤ rmX8_nextLead.slots := ⟨Nat.le_refl _, Nat.le_refl _⟩
  refine lv_aload_n hx hb dX8_nextLead_0 rfl (lv_at hl 0 rfl) ?_
  refine lv_iconst (v := 0) hx hb dX8_nextLead_1 (by decide) ?_
  refine lv_iload_n hx hb dX8_nextLead_2 rfl (lv_at hl 1 rfl) ?_
  refine lv_iload_n hx hb dX8_nextLead_3 rfl (lv_at hl 2 rfl) ?_
  refine lv_iload_n hx hb dX8_nextLead_4 rfl (lv_at hl 3 rfl) ?_
  refine lv_iload hx hb dX8_nextLead_5 (lv_at hl 4 rfl) ?_
  refine lv_iload hx hb dX8_nextLead_7 (lv_at hl 5 rfl) ?_
  obtain ⟨v1, x2, h3, hm⟩ := bind2_e hm
  refine sX8_393 C h3 hw hS hl.1 (Nat.le_of_ble_eq_true rfl) (Nat.le_trans (Nat.le_of_ble_eq_true rfl) hRf) (Nat.le_trans (Nat.le_of_ble_eq_true rfl) hRl) hcs dX8_nextLead_9 (fun H locs hw hS => ?_)
  refine lv_iconst (v := 0) hx hb dX8_nextLead_12 (by decide) ?_
  refine lv_bipush (v := 60) hx hb dX8_nextLead_13 (by decide) ?_
  obtain ⟨v4, h5, hm⟩ := bind_e hm
  refine sX8_397 C h5 hw hS hl.1 (Nat.le_of_ble_eq_true rfl) (Nat.le_trans (Nat.le_of_ble_eq_true rfl) hRf) (Nat.le_trans (Nat.le_of_ble_eq_true rfl) hRl) hcs dX8_nextLead_15 (fun H locs hw hS => ?_)
  obtain ⟨rfl, rfl⟩ := inj2 hm
  exact xret_i C hw hS dX8_nextLead_18
theorem dX8_placeByRun_0 : decode cX8_placeByRun 0 = .ok (.iconst 0, 1) := by decide +kernel
theorem dX8_placeByRun_1 : decode cX8_placeByRun 1 = .ok (.istore_n 3, 1) := by decide +kernel
theorem dX8_placeByRun_2 : decode cX8_placeByRun 2 = .ok (.iconst 0, 1) := by decide +kernel
theorem dX8_placeByRun_3 : decode cX8_placeByRun 3 = .ok (.istore 4, 2) := by decide +kernel
theorem dX8_placeByRun_5 : decode cX8_placeByRun 5 = .ok (.iload 4, 2) := by decide +kernel
theorem dX8_placeByRun_7 : decode cX8_placeByRun 7 = .ok (.aload_n 0, 1) := by decide +kernel
theorem dX8_placeByRun_8 : decode cX8_placeByRun 8 = .ok (.getfield 15, 3) := by decide +kernel
theorem dX8_placeByRun_11 : decode cX8_placeByRun 11 = .ok (.if_icmp .ge 60, 3) := by decide +kernel
theorem dX8_placeByRun_14 : decode cX8_placeByRun 14 = .ok (.aload_n 0, 1) := by decide +kernel
theorem dX8_placeByRun_15 : decode cX8_placeByRun 15 = .ok (.iload_n 1, 1) := by decide +kernel
theorem dX8_placeByRun_16 : decode cX8_placeByRun 16 = .ok (.iload 4, 2) := by decide +kernel
theorem dX8_placeByRun_18 : decode cX8_placeByRun 18 = .ok (.invokevirtual 193, 3) := by decide +kernel
theorem dX8_placeByRun_21 : decode cX8_placeByRun 21 = .ok (.ifCond .eq 44, 3) := by decide +kernel
theorem dX8_placeByRun_24 : decode cX8_placeByRun 24 = .ok (.aload_n 0, 1) := by decide +kernel
theorem dX8_placeByRun_25 : decode cX8_placeByRun 25 = .ok (.getfield 95, 3) := by decide +kernel
theorem dX8_placeByRun_28 : decode cX8_placeByRun 28 = .ok (.iload 4, 2) := by decide +kernel
theorem dX8_placeByRun_30 : decode cX8_placeByRun 30 = .ok (.iaload, 1) := by decide +kernel
theorem dX8_placeByRun_31 : decode cX8_placeByRun 31 = .ok (.aload_n 0, 1) := by decide +kernel
theorem dX8_placeByRun_32 : decode cX8_placeByRun 32 = .ok (.getfield 95, 3) := by decide +kernel
theorem dX8_placeByRun_35 : decode cX8_placeByRun 35 = .ok (.iload_n 2, 1) := by decide +kernel
theorem dX8_placeByRun_36 : decode cX8_placeByRun 36 = .ok (.iaload, 1) := by decide +kernel
theorem dX8_placeByRun_37 : decode cX8_placeByRun 37 = .ok (.if_icmp .gt 25, 3) := by decide +kernel
theorem dX8_placeByRun_40 : decode cX8_placeByRun 40 = .ok (.aload_n 0, 1) := by decide +kernel
theorem dX8_placeByRun_41 : decode cX8_placeByRun 41 = .ok (.getfield 95, 3) := by decide +kernel
theorem dX8_placeByRun_44 : decode cX8_placeByRun 44 = .ok (.iload 4, 2) := by decide +kernel
theorem dX8_placeByRun_46 : decode cX8_placeByRun 46 = .ok (.iaload, 1) := by decide +kernel
theorem dX8_placeByRun_47 : decode cX8_placeByRun 47 = .ok (.aload_n 0, 1) := by decide +kernel
theorem dX8_placeByRun_48 : decode cX8_placeByRun 48 = .ok (.getfield 95, 3) := by decide +kernel
theorem dX8_placeByRun_51 : decode cX8_placeByRun 51 = .ok (.iload_n 2, 1) := by decide +kernel
theorem dX8_placeByRun_52 : decode cX8_placeByRun 52 = .ok (.iaload, 1) := by decide +kernel
theorem dX8_placeByRun_53 : decode cX8_placeByRun 53 = .ok (.if_icmp .ne 12, 3) := by decide +kernel
theorem dX8_placeByRun_56 : decode cX8_placeByRun 56 = .ok (.iload 4, 2) := by decide +kernel
theorem dX8_placeByRun_58 : decode cX8_placeByRun 58 = .ok (.iload_n 2, 1) := by decide +kernel
theorem dX8_placeByRun_59 : decode cX8_placeByRun 59 = .ok (.if_icmp .ge 6, 3) := by decide +kernel
theorem dX8_placeByRun_62 : decode cX8_placeByRun 62 = .ok (.iinc 3 1, 3) := by decide +kernel
theorem dX8_placeByRun_65 : decode cX8_placeByRun 65 = .ok (.iinc 4 1, 3) := by decide +kernel
theorem dX8_placeByRun_68 : decode cX8_placeByRun 68 = .ok (.goto (-63), 3) := by decide +kernel
theorem dX8_placeByRun_71 : decode cX8_placeByRun 71 = .ok (.iload_n 3, 1) := by decide +kernel
theorem dX8_placeByRun_72 : decode cX8_placeByRun 72 = .ok (.ireturn, 1) := by decide +kernel
theorem alX_26 {p : Program} {l : Launch} {e : Env} {R : Room} {s : State} {m : MethodId} {args : Array Value} {below : List Frame} {meth : Method} {c : Code} {H : Heap} {locs : List Loc} {cells slots : Nat} {Q : State → Prop} {cc : ByteArray} {pc nL : Nat} {ls : Array Slot} {rest : List Value} {ret : Option FieldType} {G : xG} {β : Nat} {D : Nat → Prop} {x : XS} {own : String} {i : Int32} (C : Cx p s m args meth c own cc nL ret (KK G)) (hw : CW β D G x H) (hin : ib i 10) (hd : decode cc pc = .ok (.iaload, 1)) (kk : W p l e R s m args below meth c H locs cells slots Q (F0 m (pc + 1) ls (.int (x.2.1 26 i.toNatClampNeg) :: rest))) : W p l e R s m args below meth c H locs cells slots Q (F0 m pc ls (.int i :: .ref (β + 26) :: rest)) :=
  va_iald C.1 C.2.1 C.K.1 (xP1 (hw.2.2.1 26 (by decide))) 0 0 rfl rfl hin hd kk
def BX8_placeByRun_5 (x : XS) (q1 : Int32) (q2 : Int32) (lp : Int32 → Int32 → Option (Int32)) (u3 : Int32) (u4 : Int32) : Option (Int32) := if (x.1 0 1) ≤ u4 then some u3 else Option.bind (fX8_isIn x q1 u4) fun v1 => if v1 = true then if ib u4 10 then if ib q2 10 then if (x.2.1 26 q2.toNatClampNeg) < (x.2.1 26 u4.toNatClampNeg) then lt (u3 + 1) fun v6 => lt (u4 + 1) fun v7 => lp v6 v7 else if ib u4 10 then if ib q2 10 then if (x.2.1 26 u4.toNatClampNeg) = (x.2.1 26 q2.toNatClampNeg) then if q2 ≤ u4 then lt (u4 + 1) fun v11 => lp u3 v11 else lt (u3 + 1) fun v12 => lt (u4 + 1) fun v13 => lp v12 v13 else lt (u4 + 1) fun v10 => lp u3 v10 else none else none else none else none else lt (u4 + 1) fun v3 => lp u3 v3
def LX8_placeByRun_5 (x : XS) (q1 : Int32) (q2 : Int32) : Nat → Int32 → Int32 → Option (Int32)
  | 0, _, _ => none
  | n + 1, u3, u4 => BX8_placeByRun_5 x q1 q2 (LX8_placeByRun_5 x q1 q2 n) u3 u4
def fX8_placeByRun (x : XS) (a1 : Int32) (a2 : Int32) : Option (Int32) := Option.bind (LX8_placeByRun_5 x a1 a2 NF 0 0) fun v14 => some v14
set_option maxHeartbeats 4000000 in
set_option maxRecDepth 100000 in
theorem lX8_placeByRun_5 {p : Program} {l : Launch} {e : Env} {R : Room} {s : State} {m : MethodId} {args : Array Value} {below : List Frame} {meth : Method} {c : Code} {cells slots : Nat} {Q : State → Prop} {G : xG} {β : Nat} {D : Nat → Prop} (C : Cx p s m args meth c RX8 cX8_placeByRun 5 (some .int) (KK G)) (hRf : 3 ≤ R.frames) (hRl : 65 ≤ R.locals) (hcs : cells ≤ R.cells ∧ slots ≤ R.slots) (hf : Fz D G s.heap) (x : XS) (q1 : Int32) (q2 : Int32) : ∀ (n : Nat) (u3 : Int32) (u4 : Int32) (J : Int32) (H : Heap) (locs : List Loc) (ls : Array Slot), LX8_placeByRun_5 x q1 q2 n u3 u4 = some J → CW β D G x H → va_S D s.heap H locs → lv_has ls 5 [(0, .ref β), (1, .int q1), (2, .int q2), (3, .int u3), (4, .int u4)] → (∀ (w3 : Int32), J = w3 → ∀ (H : Heap) (locs : List Loc) (ls : Array Slot), CW β D G x H → va_S D s.heap H locs → lv_has ls 5 [(3, .int w3)] → W p l e R s m args below meth c H locs cells slots Q (F0 m 71 ls [])) → W p l e R s m args below meth c H locs cells slots Q (F0 m 5 ls []) := by
  have hx := C.1
  have hb := C.2.1
  have ho := C.2.2.2.1
  have hts := C.2.2.2.2.1
  intro n
  induction n with
  | zero =>
    intro u3 u4 J H locs ls hm
    exact absurd hm (by simp [LX8_placeByRun_5])
  | succ n ih =>
    intro u3 u4 J H locs ls hm hw hS hl ke
    replace hm : BX8_placeByRun_5 x q1 q2 (LX8_placeByRun_5 x q1 q2 n) u3 u4 = some J := hm
    unfold BX8_placeByRun_5 at hm
    refine lv_iload hx hb dX8_placeByRun_5 (lv_at hl 4 rfl) ?_
    refine lv_aload_n hx hb dX8_placeByRun_7 rfl (lv_at hl 0 rfl) ?_
    refine gX8_15 C hw dX8_placeByRun_8 ?_
    refine lv_icmp_ge (tgt := 71) hx hb dX8_placeByRun_11 (by decide) (fun cc => ?_) (fun cc => ?_)
    · replace hm := ite_p cc hm
      exact ke _ (Option.some.inj hm).symm _ _ _ hw hS (lv_sub hl [3] rfl)
    · replace hm := ite_n cc hm
      refine lv_aload_n hx hb dX8_placeByRun_14 rfl (lv_at hl 0 rfl) ?_
      refine lv_iload_n hx hb dX8_placeByRun_15 rfl (lv_at hl 1 rfl) ?_
      refine lv_iload hx hb dX8_placeByRun_16 (lv_at hl 4 rfl) ?_
      obtain ⟨v1, h2, hm⟩ := bind_e hm
      refine sX8_193 C h2 hw hS hl.1 (Nat.le_of_ble_eq_true rfl) (Nat.le_trans (Nat.le_of_ble_eq_true rfl) hRf) (Nat.le_trans (Nat.le_of_ble_eq_true rfl) hRl) hcs dX8_placeByRun_18 (fun H locs hw hS => ?_)
      refine x_ifeqB hx hb dX8_placeByRun_21 (tgt := 65) (by decide) (fun cc => ?_) (fun cc => ?_)
      · replace hm := ite_n cc hm
        obtain ⟨v3, ev, hm⟩ := lt_e hm
        refine lv_iinc (v := v3) (lv' := [(4, .int v3), (0, .ref β), (1, .int q1), (2, .int q2), (3, .int u3)]) hx hb dX8_placeByRun_65 hl (k := 4) rfl (by rw [ev]; rfl) (by decide) rfl (fun ls hl => ?_)
        clear ev
        refine lv_goto (tgt := 5) hx hb dX8_placeByRun_68 (by decide) ?_
        exact ih _ _ _ _ _ _ hm hw hS (lv_sub hl [1, 2, 3, 4, 0] rfl) ke
      · replace hm := ite_p cc hm
        refine lv_aload_n hx hb dX8_placeByRun_24 rfl (lv_at hl 0 rfl) ?_
        refine gX8_95 C hw dX8_placeByRun_25 ?_
        refine lv_iload hx hb dX8_placeByRun_28 (lv_at hl 4 rfl) ?_
        obtain ⟨h4, hm⟩ := chk_e hm
        refine alX_26 C hw h4 dX8_placeByRun_30 ?_
        refine lv_aload_n hx hb dX8_placeByRun_31 rfl (lv_at hl 0 rfl) ?_
        refine gX8_95 C hw dX8_placeByRun_32 ?_
        refine lv_iload_n hx hb dX8_placeByRun_35 rfl (lv_at hl 2 rfl) ?_
        obtain ⟨h5, hm⟩ := chk_e hm
        refine alX_26 C hw h5 dX8_placeByRun_36 ?_
        refine lv_icmp_gt (tgt := 62) hx hb dX8_placeByRun_37 (by decide) (fun cc => ?_) (fun cc => ?_)
        · replace hm := ite_p cc hm
          obtain ⟨v6, ev, hm⟩ := lt_e hm
          refine lv_iinc (v := v6) (lv' := [(3, .int v6), (0, .ref β), (1, .int q1), (2, .int q2), (4, .int u4)]) hx hb dX8_placeByRun_62 hl (k := 3) rfl (by rw [ev]; rfl) (by decide) rfl (fun ls hl => ?_)
          clear ev
          obtain ⟨v7, ev, hm⟩ := lt_e hm
          refine lv_iinc (v := v7) (lv' := [(4, .int v7), (3, .int v6), (0, .ref β), (1, .int q1), (2, .int q2)]) hx hb dX8_placeByRun_65 hl (k := 4) rfl (by rw [ev]; rfl) (by decide) rfl (fun ls hl => ?_)
          clear ev
          refine lv_goto (tgt := 5) hx hb dX8_placeByRun_68 (by decide) ?_
          exact ih _ _ _ _ _ _ hm hw hS (lv_sub hl [2, 3, 4, 1, 0] rfl) ke
        · replace hm := ite_n cc hm
          refine lv_aload_n hx hb dX8_placeByRun_40 rfl (lv_at hl 0 rfl) ?_
          refine gX8_95 C hw dX8_placeByRun_41 ?_
          refine lv_iload hx hb dX8_placeByRun_44 (lv_at hl 4 rfl) ?_
          obtain ⟨h8, hm⟩ := chk_e hm
          refine alX_26 C hw h8 dX8_placeByRun_46 ?_
          refine lv_aload_n hx hb dX8_placeByRun_47 rfl (lv_at hl 0 rfl) ?_
          refine gX8_95 C hw dX8_placeByRun_48 ?_
          refine lv_iload_n hx hb dX8_placeByRun_51 rfl (lv_at hl 2 rfl) ?_
          obtain ⟨h9, hm⟩ := chk_e hm
          refine alX_26 C hw h9 dX8_placeByRun_52 ?_
          refine lv_icmp_ne (tgt := 65) hx hb dX8_placeByRun_53 (by decide) (fun cc => ?_) (fun cc => ?_)
          · replace hm := ite_n cc hm
            obtain ⟨v10, ev, hm⟩ := lt_e hm
            refine lv_iinc (v := v10) (lv' := [(4, .int v10), (0, .ref β), (1, .int q1), (2, .int q2), (3, .int u3)]) hx hb dX8_placeByRun_65 hl (k := 4) rfl (by rw [ev]; rfl) (by decide) rfl (fun ls hl => ?_)
            clear ev
            refine lv_goto (tgt := 5) hx hb dX8_placeByRun_68 (by decide) ?_
            exact ih _ _ _ _ _ _ hm hw hS (lv_sub hl [1, 2, 3, 4, 0] rfl) ke
          · replace hm := ite_p cc hm
            refine lv_iload hx hb dX8_placeByRun_56 (lv_at hl 4 rfl) ?_
            refine lv_iload_n hx hb dX8_placeByRun_58 rfl (lv_at hl 2 rfl) ?_
            refine lv_icmp_ge (tgt := 65) hx hb dX8_placeByRun_59 (by decide) (fun cc => ?_) (fun cc => ?_)
            · replace hm := ite_p cc hm
              obtain ⟨v11, ev, hm⟩ := lt_e hm
              refine lv_iinc (v := v11) (lv' := [(4, .int v11), (0, .ref β), (1, .int q1), (2, .int q2), (3, .int u3)]) hx hb dX8_placeByRun_65 hl (k := 4) rfl (by rw [ev]; rfl) (by decide) rfl (fun ls hl => ?_)
              clear ev
              refine lv_goto (tgt := 5) hx hb dX8_placeByRun_68 (by decide) ?_
              exact ih _ _ _ _ _ _ hm hw hS (lv_sub hl [1, 2, 3, 4, 0] rfl) ke
            · replace hm := ite_n cc hm
              obtain ⟨v12, ev, hm⟩ := lt_e hm
              refine lv_iinc (v := v12) (lv' := [(3, .int v12), (0, .ref β), (1, .int q1), (2, .int q2), (4, .int u4)]) hx hb dX8_placeByRun_62 hl (k := 3) rfl (by rw [ev]; rfl) (by decide) rfl (fun ls hl => ?_)
              clear ev
              obtain ⟨v13, ev, hm⟩ := lt_e hm
              refine lv_iinc (v := v13) (lv' := [(4, .int v13), (3, .int v12), (0, .ref β), (1, .int q1), (2, .int q2)]) hx hb dX8_placeByRun_65 hl (k := 4) rfl (by rw [ev]; rfl) (by decide) rfl (fun ls hl => ?_)
              clear ev
              refine lv_goto (tgt := 5) hx hb dX8_placeByRun_68 (by decide) ?_
              exact ih _ _ _ _ _ _ hm hw hS (lv_sub hl [2, 3, 4, 1, 0] rfl) ke
abbrev rmX8_placeByRun : Room := { frames := 3, cells := 0, slots := 0, locals := 65 }
set_option maxHeartbeats 4000000 in
set_option maxRecDepth 100000 in
theorem kX8_placeByRun {l : Launch} {G : xG} {β : Nat} {D : Nat → Prop} {x : XS} {a1 : Int32} {a2 : Int32} {r : Int32} (hm : fX8_placeByRun x a1 a2 = some r) : Met l yX8_placeByRun (.code yX8_placeByRun cX8_placeByRun 5 (some .int) :: GT) rmX8_placeByRun (PcW [.ref β, .int a1, .int a2] (CW β D G x) (KK G)) (QcW D (some (.int r)) (CW β D G x)) 0 0 D := by
  unfold fX8_placeByRun at hm
  refine xpro (own := RX8) (by decide +kernel) rfl (Nat.le_of_ble_eq_true rfl) ?_
  intro p e s m args below meth c C hw ls hl
  have hx := C.1
  have hb := C.2.1
  have ho := C.2.2.2.1
  have hts := C.2.2.2.2.1
  have hf : Fz D G s.heap := hw.2.2.2.2
  have hS : va_S D s.heap s.heap [] := va_S.rf
  have hl : lv_has ls 5 [(0, .ref β), (1, .int a1), (2, .int a2)] := hl
  have hRf : 3 ≤ rmX8_placeByRun.frames := Nat.le_refl _
  have hRl : 65 ≤ rmX8_placeByRun.locals := Nat.le_refl _
  have hcs : 0 ≤ rmX8_placeByRun.cells ∧ 0 ≤ rmX8_placeByRun.slots := ⟨Nat.le_refl _, Nat.le_refl _⟩
  refine lv_iconst (v := 0) hx hb dX8_placeByRun_0 (by decide) ?_
  refine lv_istore_n (lv' := [(3, .int 0), (0, .ref β), (1, .int a1), (2, .int a2)]) hx hb dX8_placeByRun_1 rfl hl (by decide) rfl (fun ls hl => ?_)
  refine lv_iconst (v := 0) hx hb dX8_placeByRun_2 (by decide) ?_
  refine lv_istore (lv' := [(4, .int 0), (3, .int 0), (0, .ref β), (1, .int a1), (2, .int a2)]) hx hb dX8_placeByRun_3 hl (by decide) rfl (fun ls hl => ?_)
  obtain ⟨v14, hj, hm⟩ := bind_e hm
  refine lX8_placeByRun_5 C hRf hRl hcs hf x a1 a2 NF _ _ _ _ _ _ hj hw hS (lv_sub hl [2, 3, 4, 1, 0] rfl) (fun v14_ e0 H locs ls hw hS hl => ?_)
  cases e0
  refine lv_iload_n hx hb dX8_placeByRun_71 rfl (lv_at hl 0 rfl) ?_
  obtain rfl := Option.some.inj hm
  exact xret_i C hw hS dX8_placeByRun_72
theorem dX8_settleRuns_0 : decode cX8_settleRuns 0 = .ok (.iconst 0, 1) := by decide +kernel
theorem dX8_settleRuns_1 : decode cX8_settleRuns 1 = .ok (.istore_n 3, 1) := by decide +kernel
theorem dX8_settleRuns_2 : decode cX8_settleRuns 2 = .ok (.iload_n 3, 1) := by decide +kernel
theorem dX8_settleRuns_3 : decode cX8_settleRuns 3 = .ok (.aload_n 0, 1) := by decide +kernel
theorem dX8_settleRuns_4 : decode cX8_settleRuns 4 = .ok (.getfield 15, 3) := by decide +kernel
theorem dX8_settleRuns_7 : decode cX8_settleRuns 7 = .ok (.if_icmp .ge 77, 3) := by decide +kernel
theorem dX8_settleRuns_10 : decode cX8_settleRuns 10 = .ok (.aload_n 0, 1) := by decide +kernel
theorem dX8_settleRuns_11 : decode cX8_settleRuns 11 = .ok (.iload_n 1, 1) := by decide +kernel
theorem dX8_settleRuns_12 : decode cX8_settleRuns 12 = .ok (.iload_n 3, 1) := by decide +kernel
theorem dX8_settleRuns_13 : decode cX8_settleRuns 13 = .ok (.invokevirtual 193, 3) := by decide +kernel
theorem dX8_settleRuns_16 : decode cX8_settleRuns 16 = .ok (.ifCond .eq 62, 3) := by decide +kernel
theorem dX8_settleRuns_19 : decode cX8_settleRuns 19 = .ok (.aload_n 0, 1) := by decide +kernel
theorem dX8_settleRuns_20 : decode cX8_settleRuns 20 = .ok (.iload_n 1, 1) := by decide +kernel
theorem dX8_settleRuns_21 : decode cX8_settleRuns 21 = .ok (.iload_n 3, 1) := by decide +kernel
theorem dX8_settleRuns_22 : decode cX8_settleRuns 22 = .ok (.invokevirtual 422, 3) := by decide +kernel
theorem dX8_settleRuns_25 : decode cX8_settleRuns 25 = .ok (.istore 4, 2) := by decide +kernel
theorem dX8_settleRuns_27 : decode cX8_settleRuns 27 = .ok (.iload 4, 2) := by decide +kernel
theorem dX8_settleRuns_29 : decode cX8_settleRuns 29 = .ok (.ifCond .ne 13, 3) := by decide +kernel
theorem dX8_settleRuns_32 : decode cX8_settleRuns 32 = .ok (.aload_n 0, 1) := by decide +kernel
theorem dX8_settleRuns_33 : decode cX8_settleRuns 33 = .ok (.getfield 92, 3) := by decide +kernel
theorem dX8_settleRuns_36 : decode cX8_settleRuns 36 = .ok (.iload_n 3, 1) := by decide +kernel
theorem dX8_settleRuns_37 : decode cX8_settleRuns 37 = .ok (.dup2, 1) := by decide +kernel
theorem dX8_settleRuns_38 : decode cX8_settleRuns 38 = .ok (.iaload, 1) := by decide +kernel
theorem dX8_settleRuns_39 : decode cX8_settleRuns 39 = .ok (.iconst 1, 1) := by decide +kernel
theorem dX8_settleRuns_40 : decode cX8_settleRuns 40 = .ok (.iadd, 1) := by decide +kernel
theorem dX8_settleRuns_41 : decode cX8_settleRuns 41 = .ok (.iastore, 1) := by decide +kernel
theorem dX8_settleRuns_42 : decode cX8_settleRuns 42 = .ok (.aload_n 0, 1) := by decide +kernel
theorem dX8_settleRuns_43 : decode cX8_settleRuns 43 = .ok (.iload_n 3, 1) := by decide +kernel
theorem dX8_settleRuns_44 : decode cX8_settleRuns 44 = .ok (.invokevirtual 173, 3) := by decide +kernel
theorem dX8_settleRuns_47 : decode cX8_settleRuns 47 = .ok (.aload_n 0, 1) := by decide +kernel
theorem dX8_settleRuns_48 : decode cX8_settleRuns 48 = .ok (.getfield 92, 3) := by decide +kernel
theorem dX8_settleRuns_51 : decode cX8_settleRuns 51 = .ok (.iload_n 3, 1) := by decide +kernel
theorem dX8_settleRuns_52 : decode cX8_settleRuns 52 = .ok (.iaload, 1) := by decide +kernel
theorem dX8_settleRuns_53 : decode cX8_settleRuns 53 = .ok (.iadd, 1) := by decide +kernel
theorem dX8_settleRuns_54 : decode cX8_settleRuns 54 = .ok (.istore 5, 2) := by decide +kernel
theorem dX8_settleRuns_56 : decode cX8_settleRuns 56 = .ok (.aload_n 0, 1) := by decide +kernel
theorem dX8_settleRuns_57 : decode cX8_settleRuns 57 = .ok (.getfield 89, 3) := by decide +kernel
theorem dX8_settleRuns_60 : decode cX8_settleRuns 60 = .ok (.iload_n 3, 1) := by decide +kernel
theorem dX8_settleRuns_61 : decode cX8_settleRuns 61 = .ok (.aload_n 0, 1) := by decide +kernel
theorem dX8_settleRuns_62 : decode cX8_settleRuns 62 = .ok (.iload_n 3, 1) := by decide +kernel
theorem dX8_settleRuns_63 : decode cX8_settleRuns 63 = .ok (.aload_n 0, 1) := by decide +kernel
theorem dX8_settleRuns_64 : decode cX8_settleRuns 64 = .ok (.getfield 89, 3) := by decide +kernel
theorem dX8_settleRuns_67 : decode cX8_settleRuns 67 = .ok (.iload_n 3, 1) := by decide +kernel
theorem dX8_settleRuns_68 : decode cX8_settleRuns 68 = .ok (.iaload, 1) := by decide +kernel
theorem dX8_settleRuns_69 : decode cX8_settleRuns 69 = .ok (.iload 5, 2) := by decide +kernel
theorem dX8_settleRuns_71 : decode cX8_settleRuns 71 = .ok (.iload 4, 2) := by decide +kernel
theorem dX8_settleRuns_73 : decode cX8_settleRuns 73 = .ok (.iload_n 2, 1) := by decide +kernel
theorem dX8_settleRuns_74 : decode cX8_settleRuns 74 = .ok (.invokevirtual 400, 3) := by decide +kernel
theorem dX8_settleRuns_77 : decode cX8_settleRuns 77 = .ok (.iastore, 1) := by decide +kernel
theorem dX8_settleRuns_78 : decode cX8_settleRuns 78 = .ok (.iinc 3 1, 3) := by decide +kernel
theorem dX8_settleRuns_81 : decode cX8_settleRuns 81 = .ok (.goto (-79), 3) := by decide +kernel
theorem dX8_settleRuns_84 : decode cX8_settleRuns 84 = .ok (.return_, 1) := by decide +kernel
theorem sX8_422 {p : Program} {l : Launch} {e : Env} {R : Room} {s : State} {m : MethodId} {args : Array Value} {below : List Frame} {meth : Method} {c : Code} {H : Heap} {locs : List Loc} {cells slots : Nat} {Q : State → Prop} {cc : ByteArray} {pc nL : Nat} {ls : Array Slot} {rest : List Value} {ret : Option FieldType}  {G : xG} {β : Nat} {D : Nat → Prop} {x : XS} {a1 : Int32} {a2 : Int32} {r : Int32} (C : Cx p s m args meth c RX8 cc nL ret (KK G)) (h : fX8_placeByRun x a1 a2 = some r) (hw : CW β D G x H) (hS : va_S D s.heap H locs) (hsz : ls.size = nL) (hW : (rest.map fun v => v.category).sum ≤ 8) (hR : 4 ≤ R.frames) (hR2 : 89 ≤ R.locals) (hcs : cells ≤ R.cells ∧ slots ≤ R.slots) (hd : decode cc pc = .ok (.invokevirtual 422, 3)) (kk : ∀ (H1 : Heap) (locs1 : List Loc), CW β D G x H1 → va_S D s.heap H1 locs1 → W p l e R s m args below meth c H1 locs1 cells slots Q (F0 m (pc + 3) ls (.int r :: rest))) : W p l e R s m args below meth c H locs cells slots Q (F0 m pc ls (.int a2 :: .int a1 :: .ref β :: rest)) := by
  exact xcallV C (As := [.int a1, .int a2]) (rest := rest) (nA := 2) (ci := 8) (kX8_placeByRun h) (tg 818 (by decide +kernel) rfl) (tg 820 (by decide +kernel) rfl) (sg (List.mem_of_getElem? (i := 52) (by decide +kernel)) rfl) (tg 1 (by decide +kernel) rfl) (tg 821 (by decide +kernel) rfl) ⟨rfl, by decide +kernel, by decide +kernel, by decide +kernel⟩ rfl rfl rfl ⟨hR, hR2⟩ (hw.2.2.1 0 (by decide)) hw hS (fun _ q => q) rfl rfl hsz hW hd hcs (fun H1 locs1 hw hz hk hS => kk H1 locs1 hw hS)
theorem gX8_92 {p : Program} {l : Launch} {e : Env} {R : Room} {s : State} {m : MethodId} {args : Array Value} {below : List Frame} {meth : Method} {c : Code} {H : Heap} {locs : List Loc} {cells slots : Nat} {Q : State → Prop} {cc : ByteArray} {pc nL : Nat} {ls : Array Slot} {rest : List Value} {ret : Option FieldType} {G : xG} {β : Nat} {D : Nat → Prop} {x : XS} (C : Cx p s m args meth c RX8 cc nL ret (KK G)) (hw : CW β D G x H) (hd : decode cc pc = .ok (.getfield 92, 3)) (kk : W p l e R s m args below meth c H locs cells slots Q (F0 m (pc + 3) ls (.ref (β + 25) :: rest))) : W p l e R s m args below meth c H locs cells slots Q (F0 m pc ls (.ref β :: rest)) :=
  va_get C.1 C.2.1 C.2.2.2.2.1 iwX8 C.2.2.2.1 C.K.1 (xP1 (hw.2.2.1 0 (by decide))) 0 rfl rfl 17 (by decide) (C.2.2.2.2.1 (.fieldLink RX8 92 RX8 "trialWins" "[I") (tg 364 (by decide +kernel) rfl)) (fun _ h9 => h9) rfl hd kk
theorem alX_25 {p : Program} {l : Launch} {e : Env} {R : Room} {s : State} {m : MethodId} {args : Array Value} {below : List Frame} {meth : Method} {c : Code} {H : Heap} {locs : List Loc} {cells slots : Nat} {Q : State → Prop} {cc : ByteArray} {pc nL : Nat} {ls : Array Slot} {rest : List Value} {ret : Option FieldType} {G : xG} {β : Nat} {D : Nat → Prop} {x : XS} {own : String} {i : Int32} (C : Cx p s m args meth c own cc nL ret (KK G)) (hw : CW β D G x H) (hin : ib i 10) (hd : decode cc pc = .ok (.iaload, 1)) (kk : W p l e R s m args below meth c H locs cells slots Q (F0 m (pc + 1) ls (.int (x.2.1 25 i.toNatClampNeg) :: rest))) : W p l e R s m args below meth c H locs cells slots Q (F0 m pc ls (.int i :: .ref (β + 25) :: rest)) :=
  va_iald C.1 C.2.1 C.K.1 (xP1 (hw.2.2.1 25 (by decide))) 0 0 rfl rfl hin hd kk
theorem asX_25 {p : Program} {l : Launch} {e : Env} {R : Room} {s : State} {m : MethodId} {args : Array Value} {below : List Frame} {meth : Method} {c : Code} {H : Heap} {locs : List Loc} {cells slots : Nat} {Q : State → Prop} {cc : ByteArray} {pc nL : Nat} {ls : Array Slot} {rest : List Value} {ret : Option FieldType} {G : xG} {β : Nat} {D : Nat → Prop} {x : XS} {own : String} {i : Int32} {v : Int32} (C : Cx p s m args meth c own cc nL ret (KK G)) (hw : CW β D G x H) (hS : va_S D s.heap H locs) (hin : ib i 10) (hd : decode cc pc = .ok (.iastore, 1)) (kk : ∀ (H1 : Heap) (locs1 : List Loc), CW β D G (xsA x 25 i.toNatClampNeg v) H1 → va_S D s.heap H1 locs1 → W p l e R s m args below meth c H1 locs1 cells slots Q (F0 m (pc + 1) ls (rest))) : W p l e R s m args below meth c H locs cells slots Q (F0 m pc ls (.int v :: .int i :: .ref (β + 25) :: rest)) :=
  x_iast C.1 C.2.1 C.K.1 hS 0 (hw.2.2.1 25 (by decide)) (hw.2.1 25 (by decide)) rfl hin hd (fun H1 locs1 hat ho hS => kk H1 locs1 (hw.setA 25 _ _ hat ho) hS)
theorem sX8_400 {p : Program} {l : Launch} {e : Env} {R : Room} {s : State} {m : MethodId} {args : Array Value} {below : List Frame} {meth : Method} {c : Code} {H : Heap} {locs : List Loc} {cells slots : Nat} {Q : State → Prop} {cc : ByteArray} {pc nL : Nat} {ls : Array Slot} {rest : List Value} {ret : Option FieldType}  {G : xG} {β : Nat} {D : Nat → Prop} {x x' : XS} {a1 : Int32} {a2 : Int32} {a3 : Int32} {a4 : Int32} {a5 : Int32} {r : Int32} (C : Cx p s m args meth c RX8 cc nL ret (KK G)) (h : fX8_nextLead x a1 a2 a3 a4 a5 = some (r, x')) (hw : CW β D G x H) (hS : va_S D s.heap H locs) (hsz : ls.size = nL) (hW : (rest.map fun v => v.category).sum ≤ 8) (hR : 5 ≤ R.frames) (hR2 : 121 ≤ R.locals) (hcs : cells ≤ R.cells ∧ slots ≤ R.slots) (hd : decode cc pc = .ok (.invokevirtual 400, 3)) (kk : ∀ (H1 : Heap) (locs1 : List Loc), CW β D G x' H1 → va_S D s.heap H1 locs1 → W p l e R s m args below meth c H1 locs1 cells slots Q (F0 m (pc + 3) ls (.int r :: rest))) : W p l e R s m args below meth c H locs cells slots Q (F0 m pc ls (.int a5 :: .int a4 :: .int a3 :: .int a2 :: .int a1 :: .ref β :: rest)) := by
  exact xcallV C (As := [.int a1, .int a2, .int a3, .int a4, .int a5]) (rest := rest) (nA := 5) (ci := 8) (kX8_nextLead h) (tg 751 (by decide +kernel) rfl) (tg 753 (by decide +kernel) rfl) (sg (List.mem_of_getElem? (i := 43) (by decide +kernel)) rfl) (tg 1 (by decide +kernel) rfl) (tg 754 (by decide +kernel) rfl) ⟨rfl, by decide +kernel, by decide +kernel, by decide +kernel⟩ rfl rfl rfl ⟨hR, hR2⟩ (hw.2.2.1 0 (by decide)) hw hS (fun _ q => q) rfl rfl hsz hW hd hcs (fun H1 locs1 hw hz hk hS => kk H1 locs1 hw hS)
def BX8_settleRuns_2 (q1 : Int32) (q2 : Int32) (lp : Int32 → XS → Option (XS)) (u3 : Int32) (x : XS) : Option (XS) := if (x.1 0 1) ≤ u3 then some x else Option.bind (fX8_isIn x q1 u3) fun v1 => if v1 = true then Option.bind (fX8_placeByRun x q1 u3) fun v4 => Option.bind (if v4 = 0 then if ib u3 10 then if ib u3 10 then lt (xsA x 25 u3.toNatClampNeg ((x.2.1 25 u3.toNatClampNeg) + 1)) fun x8 => some x8 else none else none else some x) fun x9 => Option.bind (fX8_racesWon x9 u3) fun v10 => if ib u3 10 then lt (v10 + (x9.2.1 25 u3.toNatClampNeg)) fun v13 => if ib u3 10 then bind2 (fX8_nextLead x9 u3 (x9.2.1 24 u3.toNatClampNeg) v13 v4 q2) fun v15 x16 => if ib u3 10 then lt (xsA x16 24 u3.toNatClampNeg v15) fun x19 => lt (u3 + 1) fun v20 => lp v20 x19 else none else none else none else lt (u3 + 1) fun v3 => lp v3 x
def LX8_settleRuns_2 (q1 : Int32) (q2 : Int32) : Nat → Int32 → XS → Option (XS)
  | 0, _, _ => none
  | n + 1, u3, x => BX8_settleRuns_2 q1 q2 (LX8_settleRuns_2 q1 q2 n) u3 x
def fX8_settleRuns (x : XS) (a1 : Int32) (a2 : Int32) : Option (XS) := Option.bind (LX8_settleRuns_2 a1 a2 NF 0 x) fun x21 => some x21
set_option maxHeartbeats 4000000 in
set_option maxRecDepth 100000 in
theorem lX8_settleRuns_2 {p : Program} {l : Launch} {e : Env} {R : Room} {s : State} {m : MethodId} {args : Array Value} {below : List Frame} {meth : Method} {c : Code} {cells slots : Nat} {Q : State → Prop} {G : xG} {β : Nat} {D : Nat → Prop} (C : Cx p s m args meth c RX8 cX8_settleRuns 6 none (KK G)) (hRf : 5 ≤ R.frames) (hRl : 121 ≤ R.locals) (hcs : cells ≤ R.cells ∧ slots ≤ R.slots) (hf : Fz D G s.heap) (q1 : Int32) (q2 : Int32) : ∀ (n : Nat) (u3 : Int32) (x : XS) (J : XS) (H : Heap) (locs : List Loc) (ls : Array Slot), LX8_settleRuns_2 q1 q2 n u3 x = some J → CW β D G x H → va_S D s.heap H locs → lv_has ls 6 [(0, .ref β), (1, .int q1), (2, .int q2), (3, .int u3)] → (∀ (x1 : XS), J = x1 → ∀ (H : Heap) (locs : List Loc) (ls : Array Slot), CW β D G x1 H → va_S D s.heap H locs → lv_has ls 6 [] → W p l e R s m args below meth c H locs cells slots Q (F0 m 84 ls [])) → W p l e R s m args below meth c H locs cells slots Q (F0 m 2 ls []) := by
  have hx := C.1
  have hb := C.2.1
  have ho := C.2.2.2.1
  have hts := C.2.2.2.2.1
  intro n
  induction n with
  | zero =>
    intro u3 x J H locs ls hm
    exact absurd hm (by simp [LX8_settleRuns_2])
  | succ n ih =>
    intro u3 x J H locs ls hm hw hS hl ke
    replace hm : BX8_settleRuns_2 q1 q2 (LX8_settleRuns_2 q1 q2 n) u3 x = some J := hm
    unfold BX8_settleRuns_2 at hm
    refine lv_iload_n hx hb dX8_settleRuns_2 rfl (lv_at hl 3 rfl) ?_
    refine lv_aload_n hx hb dX8_settleRuns_3 rfl (lv_at hl 0 rfl) ?_
    refine gX8_15 C hw dX8_settleRuns_4 ?_
    refine lv_icmp_ge (tgt := 84) hx hb dX8_settleRuns_7 (by decide) (fun cc => ?_) (fun cc => ?_)
    · replace hm := ite_p cc hm
      exact ke _ (Option.some.inj hm).symm _ _ _ hw hS (lv_sub hl [] rfl)
    · replace hm := ite_n cc hm
      refine lv_aload_n hx hb dX8_settleRuns_10 rfl (lv_at hl 0 rfl) ?_
      refine lv_iload_n hx hb dX8_settleRuns_11 rfl (lv_at hl 1 rfl) ?_
      refine lv_iload_n hx hb dX8_settleRuns_12 rfl (lv_at hl 3 rfl) ?_
      obtain ⟨v1, h2, hm⟩ := bind_e hm
      refine sX8_193 C h2 hw hS hl.1 (Nat.le_of_ble_eq_true rfl) (Nat.le_trans (Nat.le_of_ble_eq_true rfl) hRf) (Nat.le_trans (Nat.le_of_ble_eq_true rfl) hRl) hcs dX8_settleRuns_13 (fun H locs hw hS => ?_)
      refine x_ifeqB hx hb dX8_settleRuns_16 (tgt := 78) (by decide) (fun cc => ?_) (fun cc => ?_)
      · replace hm := ite_n cc hm
        obtain ⟨v3, ev, hm⟩ := lt_e hm
        refine lv_iinc (v := v3) (lv' := [(3, .int v3), (0, .ref β), (1, .int q1), (2, .int q2)]) hx hb dX8_settleRuns_78 hl (k := 3) rfl (by rw [ev]; rfl) (by decide) rfl (fun ls hl => ?_)
        clear ev
        refine lv_goto (tgt := 2) hx hb dX8_settleRuns_81 (by decide) ?_
        exact ih _ _ _ _ _ _ hm hw hS (lv_sub hl [1, 2, 3, 0] rfl) ke
      · replace hm := ite_p cc hm
        refine lv_aload_n hx hb dX8_settleRuns_19 rfl (lv_at hl 0 rfl) ?_
        refine lv_iload_n hx hb dX8_settleRuns_20 rfl (lv_at hl 1 rfl) ?_
        refine lv_iload_n hx hb dX8_settleRuns_21 rfl (lv_at hl 3 rfl) ?_
        obtain ⟨v4, h5, hm⟩ := bind_e hm
        refine sX8_422 C h5 hw hS hl.1 (Nat.le_of_ble_eq_true rfl) (Nat.le_trans (Nat.le_of_ble_eq_true rfl) hRf) (Nat.le_trans (Nat.le_of_ble_eq_true rfl) hRl) hcs dX8_settleRuns_22 (fun H locs hw hS => ?_)
        refine lv_istore (lv' := [(4, .int v4), (0, .ref β), (1, .int q1), (2, .int q2), (3, .int u3)]) hx hb dX8_settleRuns_25 hl (by decide) rfl (fun ls hl => ?_)
        refine lv_iload hx hb dX8_settleRuns_27 (lv_at hl 0 rfl) ?_
        obtain ⟨x9, hj, hm⟩ := bind_e hm
        have kk : ∀ (H : Heap) (locs : List Loc) (ls : Array Slot), CW β D G x9 H → va_S D s.heap H locs → lv_has ls 6 [(0, .ref β), (1, .int q1), (2, .int q2), (3, .int u3), (4, .int v4)] → W p l e R s m args below meth c H locs cells slots Q (F0 m 42 ls []) := by
          intro H locs ls hw hS hl
          refine lv_aload_n hx hb dX8_settleRuns_42 rfl (lv_at hl 0 rfl) ?_
          refine lv_iload_n hx hb dX8_settleRuns_43 rfl (lv_at hl 3 rfl) ?_
          obtain ⟨v10, h11, hm⟩ := bind_e hm
          refine sX8_173 C h11 hw hS hl.1 (Nat.le_of_ble_eq_true rfl) (Nat.le_trans (Nat.le_of_ble_eq_true rfl) hRf) (Nat.le_trans (Nat.le_of_ble_eq_true rfl) hRl) hcs dX8_settleRuns_44 (fun H locs hw hS => ?_)
          refine lv_aload_n hx hb dX8_settleRuns_47 rfl (lv_at hl 0 rfl) ?_
          refine gX8_92 C hw dX8_settleRuns_48 ?_
          refine lv_iload_n hx hb dX8_settleRuns_51 rfl (lv_at hl 3 rfl) ?_
          obtain ⟨h12, hm⟩ := chk_e hm
          refine alX_25 C hw h12 dX8_settleRuns_52 ?_
          refine lv_iadd hx hb dX8_settleRuns_53 ?_
          refine topI hm (fun v13 hm => ?_)
          refine lv_istore (lv' := [(5, .int v13), (0, .ref β), (1, .int q1), (2, .int q2), (3, .int u3), (4, .int v4)]) hx hb dX8_settleRuns_54 hl (by decide) rfl (fun ls hl => ?_)
          refine lv_aload_n hx hb dX8_settleRuns_56 rfl (lv_at hl 1 rfl) ?_
          refine gX8_89 C hw dX8_settleRuns_57 ?_
          refine lv_iload_n hx hb dX8_settleRuns_60 rfl (lv_at hl 4 rfl) ?_
          refine lv_aload_n hx hb dX8_settleRuns_61 rfl (lv_at hl 1 rfl) ?_
          refine lv_iload_n hx hb dX8_settleRuns_62 rfl (lv_at hl 4 rfl) ?_
          refine lv_aload_n hx hb dX8_settleRuns_63 rfl (lv_at hl 1 rfl) ?_
          refine gX8_89 C hw dX8_settleRuns_64 ?_
          refine lv_iload_n hx hb dX8_settleRuns_67 rfl (lv_at hl 4 rfl) ?_
          obtain ⟨h14, hm⟩ := chk_e hm
          refine alX_24 C hw h14 dX8_settleRuns_68 ?_
          refine lv_iload hx hb dX8_settleRuns_69 (lv_at hl 0 rfl) ?_
          refine lv_iload hx hb dX8_settleRuns_71 (lv_at hl 5 rfl) ?_
          refine lv_iload_n hx hb dX8_settleRuns_73 rfl (lv_at hl 3 rfl) ?_
          obtain ⟨v15, x16, h17, hm⟩ := bind2_e hm
          refine sX8_400 C h17 hw hS hl.1 (Nat.le_of_ble_eq_true rfl) (Nat.le_trans (Nat.le_of_ble_eq_true rfl) hRf) (Nat.le_trans (Nat.le_of_ble_eq_true rfl) hRl) hcs dX8_settleRuns_74 (fun H locs hw hS => ?_)
          obtain ⟨h18, hm⟩ := chk_e hm
          refine asX_24 C hw hS h18 dX8_settleRuns_77 (fun H locs hw hS => ?_)
          obtain ⟨x19, ev, hm⟩ := lt_e hm
          rw [← ev] at hw
          clear ev
          obtain ⟨v20, ev, hm⟩ := lt_e hm
          refine lv_iinc (v := v20) (lv' := [(3, .int v20), (5, .int v13), (0, .ref β), (1, .int q1), (2, .int q2), (4, .int v4)]) hx hb dX8_settleRuns_78 hl (k := 4) rfl (by rw [ev]; rfl) (by decide) rfl (fun ls hl => ?_)
          clear ev
          refine lv_goto (tgt := 2) hx hb dX8_settleRuns_81 (by decide) ?_
          exact ih _ _ _ _ _ _ hm hw hS (lv_sub hl [2, 3, 4, 0] rfl) ke
        clear hm
        replace hm := hj
        clear hj
        refine lv_if_ne (tgt := 42) hx hb dX8_settleRuns_29 (by decide) (fun cc => ?_) (fun cc => ?_)
        · replace hm := ite_n cc hm
          obtain rfl := Option.some.inj hm
          exact kk _ _ _ hw hS (lv_sub hl [1, 2, 3, 4, 0] rfl)
        · replace hm := ite_p cc hm
          refine lv_aload_n hx hb dX8_settleRuns_32 rfl (lv_at hl 1 rfl) ?_
          refine gX8_92 C hw dX8_settleRuns_33 ?_
          refine lv_iload_n hx hb dX8_settleRuns_36 rfl (lv_at hl 4 rfl) ?_
          refine lv_dup2_11 hx hb dX8_settleRuns_37 rfl rfl ?_
          obtain ⟨h6, hm⟩ := chk_e hm
          refine alX_25 C hw h6 dX8_settleRuns_38 ?_
          refine lv_iconst (v := 1) hx hb dX8_settleRuns_39 (by decide) ?_
          refine lv_iadd hx hb dX8_settleRuns_40 ?_
          obtain ⟨h7, hm⟩ := chk_e hm
          refine asX_25 C hw hS h7 dX8_settleRuns_41 (fun H locs hw hS => ?_)
          obtain ⟨x8, ev, hm⟩ := lt_e hm
          rw [← ev] at hw
          clear ev
          obtain rfl := Option.some.inj hm
          exact kk _ _ _ hw hS (lv_sub hl [1, 2, 3, 4, 0] rfl)
abbrev rmX8_settleRuns : Room := { frames := 5, cells := 0, slots := 0, locals := 121 }
set_option maxHeartbeats 4000000 in
set_option maxRecDepth 100000 in
theorem kX8_settleRuns {l : Launch} {G : xG} {β : Nat} {D : Nat → Prop} {x x' : XS} {a1 : Int32} {a2 : Int32} (hm : fX8_settleRuns x a1 a2 = some x') : Met l yX8_settleRuns (.code yX8_settleRuns cX8_settleRuns 6 none :: GT) rmX8_settleRuns (PcW [.ref β, .int a1, .int a2] (CW β D G x) (KK G)) (QcW D none (CW β D G x')) 0 0 D := by
  unfold fX8_settleRuns at hm
  refine xpro (own := RX8) (by decide +kernel) rfl (Nat.le_of_ble_eq_true rfl) ?_
  intro p e s m args below meth c C hw ls hl
  have hx := C.1
  have hb := C.2.1
  have ho := C.2.2.2.1
  have hts := C.2.2.2.2.1
  have hf : Fz D G s.heap := hw.2.2.2.2
  have hS : va_S D s.heap s.heap [] := va_S.rf
  have hl : lv_has ls 6 [(0, .ref β), (1, .int a1), (2, .int a2)] := hl
  have hRf : 5 ≤ rmX8_settleRuns.frames := Nat.le_refl _
  have hRl : 121 ≤ rmX8_settleRuns.locals := Nat.le_refl _
  have hcs : 0 ≤ rmX8_settleRuns.cells ∧ 0 ≤ rmX8_settleRuns.slots := ⟨Nat.le_refl _, Nat.le_refl _⟩
  refine lv_iconst (v := 0) hx hb dX8_settleRuns_0 (by decide) ?_
  refine lv_istore_n (lv' := [(3, .int 0), (0, .ref β), (1, .int a1), (2, .int a2)]) hx hb dX8_settleRuns_1 rfl hl (by decide) rfl (fun ls hl => ?_)
  obtain ⟨x21, hj, hm⟩ := bind_e hm
  refine lX8_settleRuns_2 C hRf hRl hcs hf a1 a2 NF _ _ _ _ _ _ hj hw hS (lv_sub hl [1, 2, 3, 0] rfl) (fun x21_ e0 H locs ls hw hS hl => ?_)
  cases e0
  obtain rfl := Option.some.inj hm
  exact xret_v C hw hS dX8_settleRuns_84
