theorem dX3_placeOf_0 : decode cX3_placeOf 0 = .ok (.iconst 0, 1) := by decide +kernel
theorem dX3_placeOf_1 : decode cX3_placeOf 1 = .ok (.istore_n 2, 1) := by decide +kernel
theorem dX3_placeOf_2 : decode cX3_placeOf 2 = .ok (.iload_n 2, 1) := by decide +kernel
theorem dX3_placeOf_3 : decode cX3_placeOf 3 = .ok (.aload_n 0, 1) := by decide +kernel
theorem dX3_placeOf_4 : decode cX3_placeOf 4 = .ok (.getfield 31, 3) := by decide +kernel
theorem dX3_placeOf_7 : decode cX3_placeOf 7 = .ok (.if_icmp .ge 21, 3) := by decide +kernel
theorem dX3_placeOf_10 : decode cX3_placeOf 10 = .ok (.aload_n 0, 1) := by decide +kernel
theorem dX3_placeOf_11 : decode cX3_placeOf 11 = .ok (.getfield 9, 3) := by decide +kernel
theorem dX3_placeOf_14 : decode cX3_placeOf 14 = .ok (.iload_n 2, 1) := by decide +kernel
theorem dX3_placeOf_15 : decode cX3_placeOf 15 = .ok (.iaload, 1) := by decide +kernel
theorem dX3_placeOf_16 : decode cX3_placeOf 16 = .ok (.iload_n 1, 1) := by decide +kernel
theorem dX3_placeOf_17 : decode cX3_placeOf 17 = .ok (.if_icmp .ne 5, 3) := by decide +kernel
theorem dX3_placeOf_20 : decode cX3_placeOf 20 = .ok (.iload_n 2, 1) := by decide +kernel
theorem dX3_placeOf_21 : decode cX3_placeOf 21 = .ok (.ireturn, 1) := by decide +kernel
theorem dX3_placeOf_22 : decode cX3_placeOf 22 = .ok (.iinc 2 1, 3) := by decide +kernel
theorem dX3_placeOf_25 : decode cX3_placeOf 25 = .ok (.goto (-23), 3) := by decide +kernel
theorem dX3_placeOf_28 : decode cX3_placeOf 28 = .ok (.iconst (-1), 1) := by decide +kernel
theorem dX3_placeOf_29 : decode cX3_placeOf 29 = .ok (.ireturn, 1) := by decide +kernel
theorem iwX3 : ∀ w ∈ u_ws RX3 TX3 5, w ∈ GT := in_tb [737, 739, 741, 743, 745] (by decide +kernel) (by decide +kernel)
theorem gdX3_31 {p : Program} {l : Launch} {e : Env} {R : Room} {s : State} {m : MethodId} {args : Array Value} {below : List Frame} {meth : Method} {c : Code} {H : Heap} {locs : List Loc} {cells slots : Nat} {Q : State → Prop} {cc : ByteArray} {pc nL : Nat} {ls : Array Slot} {rest : List Value} {ret : Option FieldType}  {G : xG} {β : Nat} {D : Nat → Prop} {x : XS} {a : Nat} {v : Int32} (C : Cx p s m args meth c RX3 cc nL ret (KK G)) (h : dI x a 3 2 = some v) (hw : CW β D G x H) (hd : decode cc pc = .ok (.getfield 31, 3)) (kk : W p l e R s m args below meth c H locs cells slots Q (F0 m (pc + 3) ls (.int v :: rest))) : W p l e R s m args below meth c H locs cells slots Q (F0 m pc ls (.ref a :: rest)) := by
  obtain ⟨fs, h1, h2⟩ := dI_e h
  exact va_get (ci := 3) (fs := fs) C.1 C.2.1 C.2.2.2.2.1 iwX3 C.2.2.2.1 C.K.1 (xP1 (hw.2.2.2.1 a _ h1).2.2.2) 0 rfl rfl 2 (by decide) (C.2.2.2.2.1 (.fieldLink RX3 31 RX3 "size" "I") (tg 731 (by decide +kernel) rfl)) (fun _ h9 => h9) h2 hd kk
theorem gdX3_9 {p : Program} {l : Launch} {e : Env} {R : Room} {s : State} {m : MethodId} {args : Array Value} {below : List Frame} {meth : Method} {c : Code} {H : Heap} {locs : List Loc} {cells slots : Nat} {Q : State → Prop} {cc : ByteArray} {pc nL : Nat} {ls : Array Slot} {rest : List Value} {ret : Option FieldType}  {G : xG} {β : Nat} {D : Nat → Prop} {x : XS} {a : Nat} {v : Nat} (C : Cx p s m args meth c RX3 cc nL ret (KK G)) (h : dP x a 3 3 = some v) (hw : CW β D G x H) (hd : decode cc pc = .ok (.getfield 9, 3)) (kk : W p l e R s m args below meth c H locs cells slots Q (F0 m (pc + 3) ls (.ref v :: rest))) : W p l e R s m args below meth c H locs cells slots Q (F0 m pc ls (.ref a :: rest)) := by
  obtain ⟨fs, h1, h2⟩ := dP_e h
  exact va_get (ci := 3) (fs := fs) C.1 C.2.1 C.2.2.2.2.1 iwX3 C.2.2.2.1 C.K.1 (xP1 (hw.2.2.2.1 a _ h1).2.2.2) 0 rfl rfl 3 (by decide) (C.2.2.2.2.1 (.fieldLink RX3 9 RX3 "order" "[I") (tg 733 (by decide +kernel) rfl)) (fun _ h9 => h9) h2 hd kk
def BX3_placeOf_2 (x : XS) (q0 : Nat) (q1 : Int32) (lp : Int32 → Option ((Int32) ⊕ (Unit))) (u2 : Int32) : Option ((Int32) ⊕ (Unit)) := Option.bind (dI x q0 3 2) fun v1 => if v1 ≤ u2 then some (.inr ()) else Option.bind (dP x q0 3 3) fun v3 => Option.bind (dA x v3 u2) fun v5 => if v5 = q1 then some (.inl u2) else lt (u2 + 1) fun v7 => lp v7
def LX3_placeOf_2 (x : XS) (q0 : Nat) (q1 : Int32) : Nat → Int32 → Option ((Int32) ⊕ (Unit))
  | 0, _ => none
  | n + 1, u2 => BX3_placeOf_2 x q0 q1 (LX3_placeOf_2 x q0 q1 n) u2
def fX3_placeOf (x : XS) (a0 : Nat) (a1 : Int32) : Option (Int32) := bs (LX3_placeOf_2 x a0 a1 NF 0) (fun a => some a) (fun _ => some (-1))
set_option maxHeartbeats 4000000 in
set_option maxRecDepth 100000 in
theorem lX3_placeOf_2 {p : Program} {l : Launch} {e : Env} {R : Room} {s : State} {m : MethodId} {args : Array Value} {below : List Frame} {meth : Method} {c : Code} {cells slots : Nat} {Q : State → Prop} {G : xG} {β : Nat} {D : Nat → Prop} (C : Cx p s m args meth c RX3 cX3_placeOf 3 (some .int) (KK G)) (hRf : 0 ≤ R.frames) (hRl : 0 ≤ R.locals) (hcs : cells ≤ R.cells ∧ slots ≤ R.slots) (x : XS) (q0 : Nat) (q1 : Int32) : ∀ (n : Nat) (u2 : Int32) (J : (Int32) ⊕ (Unit)) (H : Heap) (locs : List Loc) (ls : Array Slot), LX3_placeOf_2 x q0 q1 n u2 = some J → CW β D G x H → va_S D s.heap H locs → lv_has ls 3 [(0, .ref q0), (1, .int q1), (2, .int u2)] → (∀ (w : Unit), J = .inr w → ∀ (H : Heap) (locs : List Loc) (ls : Array Slot), CW β D G x H → va_S D s.heap H locs → lv_has ls 3 [] → W p l e R s m args below meth c H locs cells slots Q (F0 m 28 ls [])) → (∀ (rv : Int32), J = .inl rv → ∀ (H : Heap) (locs : List Loc) (ls : Array Slot), CW β D G x H → va_S D s.heap H locs → W p l e R s m args below meth c H locs cells slots Q (F0 m 21 ls [.int rv])) → W p l e R s m args below meth c H locs cells slots Q (F0 m 2 ls []) := by
  have hx := C.1
  have hb := C.2.1
  have ho := C.2.2.2.1
  have hts := C.2.2.2.2.1
  intro n
  induction n with
  | zero =>
    intro u2 J H locs ls hm
    exact absurd hm (by simp [LX3_placeOf_2])
  | succ n ih =>
    intro u2 J H locs ls hm hw hS hl ke kr21
    replace hm : BX3_placeOf_2 x q0 q1 (LX3_placeOf_2 x q0 q1 n) u2 = some J := hm
    unfold BX3_placeOf_2 at hm
    refine lv_iload_n hx hb dX3_placeOf_2 rfl (lv_at hl 2 rfl) ?_
    refine lv_aload_n hx hb dX3_placeOf_3 rfl (lv_at hl 0 rfl) ?_
    obtain ⟨v1, h2, hm⟩ := bind_e hm
    refine gdX3_31 C h2 hw dX3_placeOf_4 ?_
    refine lv_icmp_ge (tgt := 28) hx hb dX3_placeOf_7 (by decide) (fun cc => ?_) (fun cc => ?_)
    · replace hm := ite_p cc hm
      exact ke _ (Option.some.inj hm).symm _ _ _ hw hS (lv_sub hl [] rfl)
    · replace hm := ite_n cc hm
      refine lv_aload_n hx hb dX3_placeOf_10 rfl (lv_at hl 0 rfl) ?_
      obtain ⟨v3, h4, hm⟩ := bind_e hm
      refine gdX3_9 C h4 hw dX3_placeOf_11 ?_
      refine lv_iload_n hx hb dX3_placeOf_14 rfl (lv_at hl 2 rfl) ?_
      obtain ⟨v5, h6, hm⟩ := bind_e hm
      refine x_dald C h6 hw dX3_placeOf_15 ?_
      refine lv_iload_n hx hb dX3_placeOf_16 rfl (lv_at hl 1 rfl) ?_
      refine lv_icmp_ne (tgt := 22) hx hb dX3_placeOf_17 (by decide) (fun cc => ?_) (fun cc => ?_)
      · replace hm := ite_n cc hm
        obtain ⟨v7, ev, hm⟩ := lt_e hm
        refine lv_iinc (v := v7) (lv' := [(2, .int v7), (0, .ref q0), (1, .int q1)]) hx hb dX3_placeOf_22 hl (k := 2) rfl (by rw [ev]; rfl) (by decide) rfl (fun ls hl => ?_)
        clear ev
        refine lv_goto (tgt := 2) hx hb dX3_placeOf_25 (by decide) ?_
        exact ih _ _ _ _ _ hm hw hS (lv_sub hl [1, 2, 0] rfl) ke kr21
      · replace hm := ite_p cc hm
        refine lv_iload_n hx hb dX3_placeOf_20 rfl (lv_at hl 2 rfl) ?_
        exact kr21 _ (Option.some.inj hm).symm _ _ _ hw hS
abbrev rmX3_placeOf : Room := { frames := 0, cells := 0, slots := 0, locals := 0 }
set_option maxHeartbeats 4000000 in
set_option maxRecDepth 100000 in
theorem kX3_placeOf {l : Launch} {G : xG} {β : Nat} {D : Nat → Prop} {x : XS} {a0 : Nat} {a1 : Int32} {r : Int32} (hm : fX3_placeOf x a0 a1 = some r) : Met l yX3_placeOf (.code yX3_placeOf cX3_placeOf 3 (some .int) :: GT) rmX3_placeOf (PcW [.ref a0, .int a1] (CW β D G x) (KK G)) (QcW D (some (.int r)) (CW β D G x)) 0 0 D := by
  unfold fX3_placeOf at hm
  refine xpro (own := RX3) (by decide +kernel) rfl (Nat.le_of_ble_eq_true rfl) ?_
  intro p e s m args below meth c C hw ls hl
  have hx := C.1
  have hb := C.2.1
  have ho := C.2.2.2.1
  have hts := C.2.2.2.2.1
  have hS : va_S D s.heap s.heap [] := va_S.rf
  have hl : lv_has ls 3 [(0, .ref a0), (1, .int a1)] := hl
  have hRf : 0 ≤ rmX3_placeOf.frames := Nat.le_refl _
  have hRl : 0 ≤ rmX3_placeOf.locals := Nat.le_refl _
  have hcs : 0 ≤ rmX3_placeOf.cells ∧ 0 ≤ rmX3_placeOf.slots := ⟨Nat.le_refl _, Nat.le_refl _⟩
  refine lv_iconst (v := 0) hx hb dX3_placeOf_0 (by decide) ?_
  refine lv_istore_n (lv' := [(2, .int 0), (0, .ref a0), (1, .int a1)]) hx hb dX3_placeOf_1 rfl hl (by decide) rfl (fun ls hl => ?_)
  rcases bs_e hm with ⟨a, hj, hm⟩ | ⟨b, hj, hm⟩
  · refine lX3_placeOf_2 C hRf hRl hcs x a0 a1 NF _ _ _ _ _ hj hw hS (lv_sub hl [1, 2, 0] rfl) (fun _ e0 => by cases e0) (fun rv e0 H locs ls hw hS => ?_)
    · cases e0
      obtain rfl := Option.some.inj hm
      exact xret_i C hw hS dX3_placeOf_21
  · refine lX3_placeOf_2 C hRf hRl hcs x a0 a1 NF _ _ _ _ _ hj hw hS (lv_sub hl [1, 2, 0] rfl) (fun _ e0 H locs ls hw hS hl => ?_) (fun _ e0 => by cases e0)
    refine lv_iconst (v := (-1)) hx hb dX3_placeOf_28 (by decide) ?_
    obtain rfl := Option.some.inj hm
    exact xret_i C hw hS dX3_placeOf_29
theorem dX4_write_0 : decode cX4_write 0 = .ok (.aload_n 0, 1) := by decide +kernel
theorem dX4_write_1 : decode cX4_write 1 = .ok (.getfield 18, 3) := by decide +kernel
theorem dX4_write_4 : decode cX4_write 4 = .ok (.aload_n 0, 1) := by decide +kernel
theorem dX4_write_5 : decode cX4_write 5 = .ok (.getfield 9, 3) := by decide +kernel
theorem dX4_write_8 : decode cX4_write 8 = .ok (.arraylength, 1) := by decide +kernel
theorem dX4_write_9 : decode cX4_write 9 = .ok (.if_icmp .ge 23, 3) := by decide +kernel
theorem dX4_write_12 : decode cX4_write 12 = .ok (.aload_n 0, 1) := by decide +kernel
theorem dX4_write_13 : decode cX4_write 13 = .ok (.getfield 9, 3) := by decide +kernel
theorem dX4_write_16 : decode cX4_write 16 = .ok (.aload_n 0, 1) := by decide +kernel
theorem dX4_write_17 : decode cX4_write 17 = .ok (.getfield 18, 3) := by decide +kernel
theorem dX4_write_20 : decode cX4_write 20 = .ok (.iload_n 1, 1) := by decide +kernel
theorem dX4_write_21 : decode cX4_write 21 = .ok (.iastore, 1) := by decide +kernel
theorem dX4_write_22 : decode cX4_write 22 = .ok (.aload_n 0, 1) := by decide +kernel
theorem dX4_write_23 : decode cX4_write 23 = .ok (.dup, 1) := by decide +kernel
theorem dX4_write_24 : decode cX4_write 24 = .ok (.getfield 18, 3) := by decide +kernel
theorem dX4_write_27 : decode cX4_write 27 = .ok (.iconst 1, 1) := by decide +kernel
theorem dX4_write_28 : decode cX4_write 28 = .ok (.iadd, 1) := by decide +kernel
theorem dX4_write_29 : decode cX4_write 29 = .ok (.putfield 18, 3) := by decide +kernel
theorem dX4_write_32 : decode cX4_write 32 = .ok (.return_, 1) := by decide +kernel
theorem iwX4 : ∀ w ∈ u_ws RX4 TX4 4, w ∈ GT := in_tb [72, 74, 76, 78] (by decide +kernel) (by decide +kernel)
theorem gX4_18 {p : Program} {l : Launch} {e : Env} {R : Room} {s : State} {m : MethodId} {args : Array Value} {below : List Frame} {meth : Method} {c : Code} {H : Heap} {locs : List Loc} {cells slots : Nat} {Q : State → Prop} {cc : ByteArray} {pc nL : Nat} {ls : Array Slot} {rest : List Value} {ret : Option FieldType} {G : xG} {β : Nat} {D : Nat → Prop} {x : XS} (C : Cx p s m args meth c RX4 cc nL ret (KK G)) (hw : CW β D G x H) (hd : decode cc pc = .ok (.getfield 18, 3)) (kk : W p l e R s m args below meth c H locs cells slots Q (F0 m (pc + 3) ls (.int (x.1 6 3) :: rest))) : W p l e R s m args below meth c H locs cells slots Q (F0 m pc ls (.ref (β + 6) :: rest)) :=
  va_get C.1 C.2.1 C.2.2.2.2.1 iwX4 C.2.2.2.1 C.K.1 (xP1 (hw.2.2.1 6 (by decide))) 0 rfl rfl 3 (by decide) (C.2.2.2.2.1 (.fieldLink RX4 18 RX4 "length" "I") (tg 71 (by decide +kernel) rfl)) (fun _ h9 => h9) rfl hd kk
theorem gX4_9 {p : Program} {l : Launch} {e : Env} {R : Room} {s : State} {m : MethodId} {args : Array Value} {below : List Frame} {meth : Method} {c : Code} {H : Heap} {locs : List Loc} {cells slots : Nat} {Q : State → Prop} {cc : ByteArray} {pc nL : Nat} {ls : Array Slot} {rest : List Value} {ret : Option FieldType} {G : xG} {β : Nat} {D : Nat → Prop} {x : XS} (C : Cx p s m args meth c RX4 cc nL ret (KK G)) (hw : CW β D G x H) (hd : decode cc pc = .ok (.getfield 9, 3)) (kk : W p l e R s m args below meth c H locs cells slots Q (F0 m (pc + 3) ls (.ref (β + 7) :: rest))) : W p l e R s m args below meth c H locs cells slots Q (F0 m pc ls (.ref (β + 6) :: rest)) :=
  va_get C.1 C.2.1 C.2.2.2.2.1 iwX4 C.2.2.2.1 C.K.1 (xP1 (hw.2.2.1 6 (by decide))) 0 rfl rfl 1 (by decide) (C.2.2.2.2.1 (.fieldLink RX4 9 RX4 "code" "[I") (tg 69 (by decide +kernel) rfl)) (fun _ h9 => h9) rfl hd kk
theorem anX_7 {p : Program} {l : Launch} {e : Env} {R : Room} {s : State} {m : MethodId} {args : Array Value} {below : List Frame} {meth : Method} {c : Code} {H : Heap} {locs : List Loc} {cells slots : Nat} {Q : State → Prop} {cc : ByteArray} {pc nL : Nat} {ls : Array Slot} {rest : List Value} {ret : Option FieldType} {G : xG} {β : Nat} {D : Nat → Prop} {x : XS} {own : String} (C : Cx p s m args meth c own cc nL ret (KK G)) (hw : CW β D G x H) (hd : decode cc pc = .ok (.arraylength, 1)) (kk : W p l e R s m args below meth c H locs cells slots Q (F0 m (pc + 1) ls (.int 160 :: rest))) : W p l e R s m args below meth c H locs cells slots Q (F0 m pc ls (.ref (β + 7) :: rest)) :=
  va_alen C.1 C.2.1 C.K.1 (xP1 (hw.2.2.1 7 (by decide))) 0 0 rfl rfl rfl hd kk
theorem asX_7 {p : Program} {l : Launch} {e : Env} {R : Room} {s : State} {m : MethodId} {args : Array Value} {below : List Frame} {meth : Method} {c : Code} {H : Heap} {locs : List Loc} {cells slots : Nat} {Q : State → Prop} {cc : ByteArray} {pc nL : Nat} {ls : Array Slot} {rest : List Value} {ret : Option FieldType} {G : xG} {β : Nat} {D : Nat → Prop} {x : XS} {own : String} {i : Int32} {v : Int32} (C : Cx p s m args meth c own cc nL ret (KK G)) (hw : CW β D G x H) (hS : va_S D s.heap H locs) (hin : ib i 160) (hd : decode cc pc = .ok (.iastore, 1)) (kk : ∀ (H1 : Heap) (locs1 : List Loc), CW β D G (xsA x 7 i.toNatClampNeg v) H1 → va_S D s.heap H1 locs1 → W p l e R s m args below meth c H1 locs1 cells slots Q (F0 m (pc + 1) ls (rest))) : W p l e R s m args below meth c H locs cells slots Q (F0 m pc ls (.int v :: .int i :: .ref (β + 7) :: rest)) :=
  x_iast C.1 C.2.1 C.K.1 hS 0 (hw.2.2.1 7 (by decide)) (hw.2.1 7 (by decide)) rfl hin hd (fun H1 locs1 hat ho hS => kk H1 locs1 (hw.setA 7 _ _ hat ho) hS)
theorem pX4_18 {p : Program} {l : Launch} {e : Env} {R : Room} {s : State} {m : MethodId} {args : Array Value} {below : List Frame} {meth : Method} {c : Code} {H : Heap} {locs : List Loc} {cells slots : Nat} {Q : State → Prop} {cc : ByteArray} {pc nL : Nat} {ls : Array Slot} {rest : List Value} {ret : Option FieldType} {G : xG} {β : Nat} {D : Nat → Prop} {x : XS} {v : Int32} (C : Cx p s m args meth c RX4 cc nL ret (KK G)) (hw : CW β D G x H) (hS : va_S D s.heap H locs) (hd : decode cc pc = .ok (.putfield 18, 3)) (kk : ∀ (H1 : Heap) (locs1 : List Loc), CW β D G (xsS x 6 3 v) H1 → va_S D s.heap H1 locs1 → W p l e R s m args below meth c H1 locs1 cells slots Q (F0 m (pc + 3) ls (rest))) : W p l e R s m args below meth c H locs cells slots Q (F0 m pc ls (.int v :: .ref (β + 6) :: rest)) :=
  x_put C.1 C.2.1 C.2.2.2.2.1 iwX4 tyX4 tyX4_ok nmX4 C.2.2.2.1 C.K.1 hS (hw.2.2.1 6 (by decide)) (hw.2.1 6 (by decide)) rfl 3 (by decide) (C.2.2.2.2.1 (.fieldLink RX4 18 RX4 "length" "I") (tg 71 (by decide +kernel) rfl)) (fun _ h9 => h9) rfl (ty := .int) (by decide +kernel) rfl rfl (Nat.le_of_ble_eq_true rfl) hd (fun H1 locs1 hat ho hS => kk H1 locs1 (hw.setS 6 3 v hat ho) hS)
def fX4_write (x : XS) (a1 : Int32) : Option (XS) := if 160 ≤ (x.1 6 3) then some x else if ib (x.1 6 3) 160 then lt (xsA x 7 (x.1 6 3).toNatClampNeg a1) fun x2 => lt (xsS x2 6 3 ((x2.1 6 3) + 1)) fun x3 => some x3 else none
abbrev rmX4_write : Room := { frames := 0, cells := 0, slots := 0, locals := 0 }
set_option maxHeartbeats 4000000 in
set_option maxRecDepth 100000 in
theorem kX4_write {l : Launch} {G : xG} {β : Nat} {D : Nat → Prop} {x x' : XS} {a1 : Int32} (hm : fX4_write x a1 = some x') : Met l yX4_write (.code yX4_write cX4_write 2 none :: GT) rmX4_write (PcW [.ref (β + 6), .int a1] (CW β D G x) (KK G)) (QcW D none (CW β D G x')) 0 0 D := by
  unfold fX4_write at hm
  refine xpro (own := RX4) (by decide +kernel) rfl (Nat.le_of_ble_eq_true rfl) ?_
  intro p e s m args below meth c C hw ls hl
  have hx := C.1
  have hb := C.2.1
  have ho := C.2.2.2.1
  have hts := C.2.2.2.2.1
  have hS : va_S D s.heap s.heap [] := va_S.rf
  have hl : lv_has ls 2 [(0, .ref (β + 6)), (1, .int a1)] := hl
  have hRf : 0 ≤ rmX4_write.frames := Nat.le_refl _
  have hRl : 0 ≤ rmX4_write.locals := Nat.le_refl _
  have hcs : 0 ≤ rmX4_write.cells ∧ 0 ≤ rmX4_write.slots := ⟨Nat.le_refl _, Nat.le_refl _⟩
  refine lv_aload_n hx hb dX4_write_0 rfl (lv_at hl 0 rfl) ?_
  refine gX4_18 C hw dX4_write_1 ?_
  refine lv_aload_n hx hb dX4_write_4 rfl (lv_at hl 0 rfl) ?_
  refine gX4_9 C hw dX4_write_5 ?_
  refine anX_7 C hw dX4_write_8 ?_
  refine lv_icmp_ge (tgt := 32) hx hb dX4_write_9 (by decide) (fun cc => ?_) (fun cc => ?_)
  · replace hm := ite_p cc hm
    obtain rfl := Option.some.inj hm
    exact xret_v C hw hS dX4_write_32
  · replace hm := ite_n cc hm
    refine lv_aload_n hx hb dX4_write_12 rfl (lv_at hl 0 rfl) ?_
    refine gX4_9 C hw dX4_write_13 ?_
    refine lv_aload_n hx hb dX4_write_16 rfl (lv_at hl 0 rfl) ?_
    refine gX4_18 C hw dX4_write_17 ?_
    refine lv_iload_n hx hb dX4_write_20 rfl (lv_at hl 1 rfl) ?_
    obtain ⟨h1, hm⟩ := chk_e hm
    refine asX_7 C hw hS h1 dX4_write_21 (fun H locs hw hS => ?_)
    obtain ⟨x2, ev, hm⟩ := lt_e hm
    rw [← ev] at hw
    clear ev
    refine lv_aload_n hx hb dX4_write_22 rfl (lv_at hl 0 rfl) ?_
    refine lv_dup hx hb dX4_write_23 rfl ?_
    refine gX4_18 C hw dX4_write_24 ?_
    refine lv_iconst (v := 1) hx hb dX4_write_27 (by decide) ?_
    refine lv_iadd hx hb dX4_write_28 ?_
    refine pX4_18 C hw hS dX4_write_29 (fun H locs hw hS => ?_)
    obtain ⟨x3, ev, hm⟩ := lt_e hm
    rw [← ev] at hw
    clear ev
    obtain rfl := Option.some.inj hm
    exact xret_v C hw hS dX4_write_32
theorem dX5_narrowed_0 : decode cX5_narrowed 0 = .ok (.aload_n 0, 1) := by decide +kernel
theorem dX5_narrowed_1 : decode cX5_narrowed 1 = .ok (.getfield 7, 3) := by decide +kernel
theorem dX5_narrowed_4 : decode cX5_narrowed 4 = .ok (.ifCond .ne 6, 3) := by decide +kernel
theorem dX5_narrowed_7 : decode cX5_narrowed 7 = .ok (.iload_n 1, 1) := by decide +kernel
theorem dX5_narrowed_8 : decode cX5_narrowed 8 = .ok (.i2b, 1) := by decide +kernel
theorem dX5_narrowed_9 : decode cX5_narrowed 9 = .ok (.ireturn, 1) := by decide +kernel
theorem dX5_narrowed_10 : decode cX5_narrowed 10 = .ok (.aload_n 0, 1) := by decide +kernel
theorem dX5_narrowed_11 : decode cX5_narrowed 11 = .ok (.getfield 7, 3) := by decide +kernel
theorem dX5_narrowed_14 : decode cX5_narrowed 14 = .ok (.iconst 1, 1) := by decide +kernel
theorem dX5_narrowed_15 : decode cX5_narrowed 15 = .ok (.if_icmp .ne 8, 3) := by decide +kernel
theorem dX5_narrowed_18 : decode cX5_narrowed 18 = .ok (.iload_n 1, 1) := by decide +kernel
theorem dX5_narrowed_19 : decode cX5_narrowed 19 = .ok (.i2s, 1) := by decide +kernel
theorem dX5_narrowed_20 : decode cX5_narrowed 20 = .ok (.goto 4, 3) := by decide +kernel
theorem dX5_narrowed_23 : decode cX5_narrowed 23 = .ok (.iload_n 1, 1) := by decide +kernel
theorem dX5_narrowed_24 : decode cX5_narrowed 24 = .ok (.ireturn, 1) := by decide +kernel
theorem iwX5 : ∀ w ∈ u_ws RX5 TX5 2, w ∈ GT := in_tb [866, 868] (by decide +kernel) (by decide +kernel)
theorem gdX5_7 {p : Program} {l : Launch} {e : Env} {R : Room} {s : State} {m : MethodId} {args : Array Value} {below : List Frame} {meth : Method} {c : Code} {H : Heap} {locs : List Loc} {cells slots : Nat} {Q : State → Prop} {cc : ByteArray} {pc nL : Nat} {ls : Array Slot} {rest : List Value} {ret : Option FieldType}  {G : xG} {β : Nat} {D : Nat → Prop} {x : XS} {a : Nat} {v : Int32} (C : Cx p s m args meth c RX5 cc nL ret (KK G)) (h : dI x a 5 0 = some v) (hw : CW β D G x H) (hd : decode cc pc = .ok (.getfield 7, 3)) (kk : W p l e R s m args below meth c H locs cells slots Q (F0 m (pc + 3) ls (.int v :: rest))) : W p l e R s m args below meth c H locs cells slots Q (F0 m pc ls (.ref a :: rest)) := by
  obtain ⟨fs, h1, h2⟩ := dI_e h
  exact va_get (ci := 5) (fs := fs) C.1 C.2.1 C.2.2.2.2.1 iwX5 C.2.2.2.1 C.K.1 (xP1 (hw.2.2.2.1 a _ h1).2.2.2) 0 rfl rfl 0 (by decide) (C.2.2.2.2.1 (.fieldLink RX5 7 RX5 "sort" "I") (tg 862 (by decide +kernel) rfl)) (fun _ h9 => h9) h2 hd kk
def fX5_narrowed (x : XS) (a0 : Nat) (a1 : Int32) : Option (Int32) := Option.bind (dI x a0 5 0) fun v1 => if v1 = 0 then some (a1.toInt8.toInt32) else Option.bind (dI x a0 5 0) fun v3 => if v3 = 1 then some (a1.toInt16.toInt32) else some a1
abbrev rmX5_narrowed : Room := { frames := 0, cells := 0, slots := 0, locals := 0 }
set_option maxHeartbeats 4000000 in
set_option maxRecDepth 100000 in
theorem kX5_narrowed {l : Launch} {G : xG} {β : Nat} {D : Nat → Prop} {x : XS} {a0 : Nat} {a1 : Int32} {r : Int32} (hm : fX5_narrowed x a0 a1 = some r) : Met l yX5_narrowed (.code yX5_narrowed cX5_narrowed 2 (some .int) :: GT) rmX5_narrowed (PcW [.ref a0, .int a1] (CW β D G x) (KK G)) (QcW D (some (.int r)) (CW β D G x)) 0 0 D := by
  unfold fX5_narrowed at hm
  refine xpro (own := RX5) (by decide +kernel) rfl (Nat.le_of_ble_eq_true rfl) ?_
  intro p e s m args below meth c C hw ls hl
  have hx := C.1
  have hb := C.2.1
  have ho := C.2.2.2.1
  have hts := C.2.2.2.2.1
  have hS : va_S D s.heap s.heap [] := va_S.rf
  have hl : lv_has ls 2 [(0, .ref a0), (1, .int a1)] := hl
  have hRf : 0 ≤ rmX5_narrowed.frames := Nat.le_refl _
  have hRl : 0 ≤ rmX5_narrowed.locals := Nat.le_refl _
  have hcs : 0 ≤ rmX5_narrowed.cells ∧ 0 ≤ rmX5_narrowed.slots := ⟨Nat.le_refl _, Nat.le_refl _⟩
  refine lv_aload_n hx hb dX5_narrowed_0 rfl (lv_at hl 0 rfl) ?_
  obtain ⟨v1, h2, hm⟩ := bind_e hm
  refine gdX5_7 C h2 hw dX5_narrowed_1 ?_
  refine lv_if_ne (tgt := 10) hx hb dX5_narrowed_4 (by decide) (fun cc => ?_) (fun cc => ?_)
  · replace hm := ite_n cc hm
    refine lv_aload_n hx hb dX5_narrowed_10 rfl (lv_at hl 0 rfl) ?_
    obtain ⟨v3, h4, hm⟩ := bind_e hm
    refine gdX5_7 C h4 hw dX5_narrowed_11 ?_
    refine lv_iconst (v := 1) hx hb dX5_narrowed_14 (by decide) ?_
    refine lv_icmp_ne (tgt := 23) hx hb dX5_narrowed_15 (by decide) (fun cc => ?_) (fun cc => ?_)
    · replace hm := ite_n cc hm
      refine lv_iload_n hx hb dX5_narrowed_23 rfl (lv_at hl 1 rfl) ?_
      obtain rfl := Option.some.inj hm
      exact xret_i C hw hS dX5_narrowed_24
    · replace hm := ite_p cc hm
      refine lv_iload_n hx hb dX5_narrowed_18 rfl (lv_at hl 1 rfl) ?_
      refine lv_i2s hx hb dX5_narrowed_19 rfl ?_
      refine lv_goto (tgt := 24) hx hb dX5_narrowed_20 (by decide) ?_
      obtain rfl := Option.some.inj hm
      exact xret_i C hw hS dX5_narrowed_24
  · replace hm := ite_p cc hm
    refine lv_iload_n hx hb dX5_narrowed_7 rfl (lv_at hl 1 rfl) ?_
    refine lv_i2b hx hb dX5_narrowed_8 rfl ?_
    obtain rfl := Option.some.inj hm
    exact xret_i C hw hS dX5_narrowed_9
theorem dX5_hasStretch_0 : decode cX5_hasStretch 0 = .ok (.iload_n 1, 1) := by decide +kernel
theorem dX5_hasStretch_1 : decode cX5_hasStretch 1 = .ok (.ifCond .lt 31, 3) := by decide +kernel
theorem dX5_hasStretch_4 : decode cX5_hasStretch 4 = .ok (.iload_n 2, 1) := by decide +kernel
theorem dX5_hasStretch_5 : decode cX5_hasStretch 5 = .ok (.ifCond .lt 27, 3) := by decide +kernel
theorem dX5_hasStretch_8 : decode cX5_hasStretch 8 = .ok (.iload_n 1, 1) := by decide +kernel
theorem dX5_hasStretch_9 : decode cX5_hasStretch 9 = .ok (.aload_n 0, 1) := by decide +kernel
theorem dX5_hasStretch_10 : decode cX5_hasStretch 10 = .ok (.getfield 19, 3) := by decide +kernel
theorem dX5_hasStretch_13 : decode cX5_hasStretch 13 = .ok (.arraylength, 1) := by decide +kernel
theorem dX5_hasStretch_14 : decode cX5_hasStretch 14 = .ok (.if_icmp .gt 18, 3) := by decide +kernel
theorem dX5_hasStretch_17 : decode cX5_hasStretch 17 = .ok (.iload_n 2, 1) := by decide +kernel
theorem dX5_hasStretch_18 : decode cX5_hasStretch 18 = .ok (.aload_n 0, 1) := by decide +kernel
theorem dX5_hasStretch_19 : decode cX5_hasStretch 19 = .ok (.getfield 19, 3) := by decide +kernel
theorem dX5_hasStretch_22 : decode cX5_hasStretch 22 = .ok (.arraylength, 1) := by decide +kernel
theorem dX5_hasStretch_23 : decode cX5_hasStretch 23 = .ok (.iload_n 1, 1) := by decide +kernel
theorem dX5_hasStretch_24 : decode cX5_hasStretch 24 = .ok (.isub, 1) := by decide +kernel
theorem dX5_hasStretch_25 : decode cX5_hasStretch 25 = .ok (.if_icmp .gt 7, 3) := by decide +kernel
theorem dX5_hasStretch_28 : decode cX5_hasStretch 28 = .ok (.iconst 1, 1) := by decide +kernel
theorem dX5_hasStretch_29 : decode cX5_hasStretch 29 = .ok (.goto 4, 3) := by decide +kernel
theorem dX5_hasStretch_32 : decode cX5_hasStretch 32 = .ok (.iconst 0, 1) := by decide +kernel
theorem dX5_hasStretch_33 : decode cX5_hasStretch 33 = .ok (.ireturn, 1) := by decide +kernel
theorem gdX5_19 {p : Program} {l : Launch} {e : Env} {R : Room} {s : State} {m : MethodId} {args : Array Value} {below : List Frame} {meth : Method} {c : Code} {H : Heap} {locs : List Loc} {cells slots : Nat} {Q : State → Prop} {cc : ByteArray} {pc nL : Nat} {ls : Array Slot} {rest : List Value} {ret : Option FieldType}  {G : xG} {β : Nat} {D : Nat → Prop} {x : XS} {a : Nat} {v : Nat} (C : Cx p s m args meth c RX5 cc nL ret (KK G)) (h : dP x a 5 1 = some v) (hw : CW β D G x H) (hd : decode cc pc = .ok (.getfield 19, 3)) (kk : W p l e R s m args below meth c H locs cells slots Q (F0 m (pc + 3) ls (.ref v :: rest))) : W p l e R s m args below meth c H locs cells slots Q (F0 m pc ls (.ref a :: rest)) := by
  obtain ⟨fs, h1, h2⟩ := dP_e h
  exact va_get (ci := 5) (fs := fs) C.1 C.2.1 C.2.2.2.2.1 iwX5 C.2.2.2.1 C.K.1 (xP1 (hw.2.2.2.1 a _ h1).2.2.2) 0 rfl rfl 1 (by decide) (C.2.2.2.2.1 (.fieldLink RX5 19 RX5 "items" "[I") (tg 864 (by decide +kernel) rfl)) (fun _ h9 => h9) h2 hd kk
def fX5_hasStretch (x : XS) (a0 : Nat) (a1 : Int32) (a2 : Int32) : Option (Bool) := if a1 < 0 then some false else if a2 < 0 then some false else Option.bind (dP x a0 5 1) fun v1 => Option.bind (dLen x v1) fun v3 => if v3 < a1 then some false else Option.bind (dP x a0 5 1) fun v5 => Option.bind (dLen x v5) fun v7 => if (v7 - a1) < a2 then some false else some true
abbrev rmX5_hasStretch : Room := { frames := 0, cells := 0, slots := 0, locals := 0 }
set_option maxHeartbeats 4000000 in
set_option maxRecDepth 100000 in
theorem kX5_hasStretch {l : Launch} {G : xG} {β : Nat} {D : Nat → Prop} {x : XS} {a0 : Nat} {a1 : Int32} {a2 : Int32} {r : Bool} (hm : fX5_hasStretch x a0 a1 a2 = some r) : Met l yX5_hasStretch (.code yX5_hasStretch cX5_hasStretch 3 (some .boolean) :: GT) rmX5_hasStretch (PcW [.ref a0, .int a1, .int a2] (CW β D G x) (KK G)) (QcW D (some (.int (bI r))) (CW β D G x)) 0 0 D := by
  unfold fX5_hasStretch at hm
  refine xpro (own := RX5) (by decide +kernel) rfl (Nat.le_of_ble_eq_true rfl) ?_
  intro p e s m args below meth c C hw ls hl
  have hx := C.1
  have hb := C.2.1
  have ho := C.2.2.2.1
  have hts := C.2.2.2.2.1
  have hS : va_S D s.heap s.heap [] := va_S.rf
  have hl : lv_has ls 3 [(0, .ref a0), (1, .int a1), (2, .int a2)] := hl
  have hRf : 0 ≤ rmX5_hasStretch.frames := Nat.le_refl _
  have hRl : 0 ≤ rmX5_hasStretch.locals := Nat.le_refl _
  have hcs : 0 ≤ rmX5_hasStretch.cells ∧ 0 ≤ rmX5_hasStretch.slots := ⟨Nat.le_refl _, Nat.le_refl _⟩
  refine lv_iload_n hx hb dX5_hasStretch_0 rfl (lv_at hl 1 rfl) ?_
  refine lv_if_lt (tgt := 32) hx hb dX5_hasStretch_1 (by decide) (fun cc => ?_) (fun cc => ?_)
  · replace hm := ite_p cc hm
    refine lv_iconst (v := 0) hx hb dX5_hasStretch_32 (by decide) ?_
    obtain rfl := Option.some.inj hm
    exact xret_z (v := bI false) C (bI_nar _) hw hS dX5_hasStretch_33
  · replace hm := ite_n cc hm
    refine lv_iload_n hx hb dX5_hasStretch_4 rfl (lv_at hl 2 rfl) ?_
    refine lv_if_lt (tgt := 32) hx hb dX5_hasStretch_5 (by decide) (fun cc => ?_) (fun cc => ?_)
    · replace hm := ite_p cc hm
      refine lv_iconst (v := 0) hx hb dX5_hasStretch_32 (by decide) ?_
      obtain rfl := Option.some.inj hm
      exact xret_z (v := bI false) C (bI_nar _) hw hS dX5_hasStretch_33
    · replace hm := ite_n cc hm
      refine lv_iload_n hx hb dX5_hasStretch_8 rfl (lv_at hl 1 rfl) ?_
      refine lv_aload_n hx hb dX5_hasStretch_9 rfl (lv_at hl 0 rfl) ?_
      obtain ⟨v1, h2, hm⟩ := bind_e hm
      refine gdX5_19 C h2 hw dX5_hasStretch_10 ?_
      obtain ⟨v3, h4, hm⟩ := bind_e hm
      refine x_dlen C h4 hw dX5_hasStretch_13 ?_
      refine lv_icmp_gt (tgt := 32) hx hb dX5_hasStretch_14 (by decide) (fun cc => ?_) (fun cc => ?_)
      · replace hm := ite_p cc hm
        refine lv_iconst (v := 0) hx hb dX5_hasStretch_32 (by decide) ?_
        obtain rfl := Option.some.inj hm
        exact xret_z (v := bI false) C (bI_nar _) hw hS dX5_hasStretch_33
      · replace hm := ite_n cc hm
        refine lv_iload_n hx hb dX5_hasStretch_17 rfl (lv_at hl 2 rfl) ?_
        refine lv_aload_n hx hb dX5_hasStretch_18 rfl (lv_at hl 0 rfl) ?_
        obtain ⟨v5, h6, hm⟩ := bind_e hm
        refine gdX5_19 C h6 hw dX5_hasStretch_19 ?_
        obtain ⟨v7, h8, hm⟩ := bind_e hm
        refine x_dlen C h8 hw dX5_hasStretch_22 ?_
        refine lv_iload_n hx hb dX5_hasStretch_23 rfl (lv_at hl 1 rfl) ?_
        refine lv_isub hx hb dX5_hasStretch_24 ?_
        refine lv_icmp_gt (tgt := 32) hx hb dX5_hasStretch_25 (by decide) (fun cc => ?_) (fun cc => ?_)
        · replace hm := ite_p cc hm
          refine lv_iconst (v := 0) hx hb dX5_hasStretch_32 (by decide) ?_
          obtain rfl := Option.some.inj hm
          exact xret_z (v := bI false) C (bI_nar _) hw hS dX5_hasStretch_33
        · replace hm := ite_n cc hm
          refine lv_iconst (v := 1) hx hb dX5_hasStretch_28 (by decide) ?_
          refine lv_goto (tgt := 33) hx hb dX5_hasStretch_29 (by decide) ?_
          obtain rfl := Option.some.inj hm
          exact xret_z (v := bI true) C (bI_nar _) hw hS dX5_hasStretch_33
theorem dX6_append_0 : decode cX6_append 0 = .ok (.aload_n 0, 1) := by decide +kernel
theorem dX6_append_1 : decode cX6_append 1 = .ok (.getfield 15, 3) := by decide +kernel
theorem dX6_append_4 : decode cX6_append 4 = .ok (.aload_n 0, 1) := by decide +kernel
theorem dX6_append_5 : decode cX6_append 5 = .ok (.getfield 9, 3) := by decide +kernel
theorem dX6_append_8 : decode cX6_append 8 = .ok (.arraylength, 1) := by decide +kernel
theorem dX6_append_9 : decode cX6_append 9 = .ok (.if_icmp .ge 24, 3) := by decide +kernel
theorem dX6_append_12 : decode cX6_append 12 = .ok (.aload_n 0, 1) := by decide +kernel
theorem dX6_append_13 : decode cX6_append 13 = .ok (.getfield 9, 3) := by decide +kernel
theorem dX6_append_16 : decode cX6_append 16 = .ok (.aload_n 0, 1) := by decide +kernel
theorem dX6_append_17 : decode cX6_append 17 = .ok (.getfield 15, 3) := by decide +kernel
theorem dX6_append_20 : decode cX6_append 20 = .ok (.iload_n 1, 1) := by decide +kernel
theorem dX6_append_21 : decode cX6_append 21 = .ok (.i2c, 1) := by decide +kernel
theorem dX6_append_22 : decode cX6_append 22 = .ok (.castore, 1) := by decide +kernel
theorem dX6_append_23 : decode cX6_append 23 = .ok (.aload_n 0, 1) := by decide +kernel
theorem dX6_append_24 : decode cX6_append 24 = .ok (.dup, 1) := by decide +kernel
theorem dX6_append_25 : decode cX6_append 25 = .ok (.getfield 15, 3) := by decide +kernel
theorem dX6_append_28 : decode cX6_append 28 = .ok (.iconst 1, 1) := by decide +kernel
theorem dX6_append_29 : decode cX6_append 29 = .ok (.iadd, 1) := by decide +kernel
theorem dX6_append_30 : decode cX6_append 30 = .ok (.putfield 15, 3) := by decide +kernel
theorem dX6_append_33 : decode cX6_append 33 = .ok (.return_, 1) := by decide +kernel
theorem iwX6 : ∀ w ∈ u_ws RX6 TX6 6, w ∈ GT := in_tb [47, 49, 51, 53, 55, 57] (by decide +kernel) (by decide +kernel)
theorem gX6_15 {p : Program} {l : Launch} {e : Env} {R : Room} {s : State} {m : MethodId} {args : Array Value} {below : List Frame} {meth : Method} {c : Code} {H : Heap} {locs : List Loc} {cells slots : Nat} {Q : State → Prop} {cc : ByteArray} {pc nL : Nat} {ls : Array Slot} {rest : List Value} {ret : Option FieldType} {G : xG} {β : Nat} {D : Nat → Prop} {x : XS} (C : Cx p s m args meth c RX6 cc nL ret (KK G)) (hw : CW β D G x H) (hd : decode cc pc = .ok (.getfield 15, 3)) (kk : W p l e R s m args below meth c H locs cells slots Q (F0 m (pc + 3) ls (.int (x.1 4 1) :: rest))) : W p l e R s m args below meth c H locs cells slots Q (F0 m pc ls (.ref (β + 4) :: rest)) :=
  va_get C.1 C.2.1 C.2.2.2.2.1 iwX6 C.2.2.2.1 C.K.1 (xP1 (hw.2.2.1 4 (by decide))) 0 rfl rfl 1 (by decide) (C.2.2.2.2.1 (.fieldLink RX6 15 RX6 "size" "I") (tg 38 (by decide +kernel) rfl)) (fun _ h9 => h9) rfl hd kk
theorem gX6_9 {p : Program} {l : Launch} {e : Env} {R : Room} {s : State} {m : MethodId} {args : Array Value} {below : List Frame} {meth : Method} {c : Code} {H : Heap} {locs : List Loc} {cells slots : Nat} {Q : State → Prop} {cc : ByteArray} {pc nL : Nat} {ls : Array Slot} {rest : List Value} {ret : Option FieldType} {G : xG} {β : Nat} {D : Nat → Prop} {x : XS} (C : Cx p s m args meth c RX6 cc nL ret (KK G)) (hw : CW β D G x H) (hd : decode cc pc = .ok (.getfield 9, 3)) (kk : W p l e R s m args below meth c H locs cells slots Q (F0 m (pc + 3) ls (.ref (β + 5) :: rest))) : W p l e R s m args below meth c H locs cells slots Q (F0 m pc ls (.ref (β + 4) :: rest)) :=
  va_get C.1 C.2.1 C.2.2.2.2.1 iwX6 C.2.2.2.1 C.K.1 (xP1 (hw.2.2.1 4 (by decide))) 0 rfl rfl 0 (by decide) (C.2.2.2.2.1 (.fieldLink RX6 9 RX6 "bytes" "[C") (tg 37 (by decide +kernel) rfl)) (fun _ h9 => h9) rfl hd kk
theorem anX_5 {p : Program} {l : Launch} {e : Env} {R : Room} {s : State} {m : MethodId} {args : Array Value} {below : List Frame} {meth : Method} {c : Code} {H : Heap} {locs : List Loc} {cells slots : Nat} {Q : State → Prop} {cc : ByteArray} {pc nL : Nat} {ls : Array Slot} {rest : List Value} {ret : Option FieldType} {G : xG} {β : Nat} {D : Nat → Prop} {x : XS} {own : String} (C : Cx p s m args meth c own cc nL ret (KK G)) (hw : CW β D G x H) (hd : decode cc pc = .ok (.arraylength, 1)) (kk : W p l e R s m args below meth c H locs cells slots Q (F0 m (pc + 1) ls (.int 160 :: rest))) : W p l e R s m args below meth c H locs cells slots Q (F0 m pc ls (.ref (β + 5) :: rest)) :=
  va_alen C.1 C.2.1 C.K.1 (xP1 (hw.2.2.1 5 (by decide))) 0 2 rfl rfl rfl hd kk
theorem asX_5 {p : Program} {l : Launch} {e : Env} {R : Room} {s : State} {m : MethodId} {args : Array Value} {below : List Frame} {meth : Method} {c : Code} {H : Heap} {locs : List Loc} {cells slots : Nat} {Q : State → Prop} {cc : ByteArray} {pc nL : Nat} {ls : Array Slot} {rest : List Value} {ret : Option FieldType} {G : xG} {β : Nat} {D : Nat → Prop} {x : XS} {own : String} {i : Int32} {v : Int32} (C : Cx p s m args meth c own cc nL ret (KK G)) (hw : CW β D G x H) (hS : va_S D s.heap H locs) (hin : ib i 160) (hd : decode cc pc = .ok (.castore, 1)) (kk : ∀ (H1 : Heap) (locs1 : List Loc), CW β D G (xsA x 5 i.toNatClampNeg (vp_nar .char v)) H1 → va_S D s.heap H1 locs1 → W p l e R s m args below meth c H1 locs1 cells slots Q (F0 m (pc + 1) ls (rest))) : W p l e R s m args below meth c H locs cells slots Q (F0 m pc ls (.int v :: .int i :: .ref (β + 5) :: rest)) :=
  x_cast C.1 C.2.1 C.K.1 hS 2 (hw.2.2.1 5 (by decide)) (hw.2.1 5 (by decide)) rfl hin hd (fun H1 locs1 hat ho hS => kk H1 locs1 (hw.setA 5 _ _ hat ho) hS)
theorem pX6_15 {p : Program} {l : Launch} {e : Env} {R : Room} {s : State} {m : MethodId} {args : Array Value} {below : List Frame} {meth : Method} {c : Code} {H : Heap} {locs : List Loc} {cells slots : Nat} {Q : State → Prop} {cc : ByteArray} {pc nL : Nat} {ls : Array Slot} {rest : List Value} {ret : Option FieldType} {G : xG} {β : Nat} {D : Nat → Prop} {x : XS} {v : Int32} (C : Cx p s m args meth c RX6 cc nL ret (KK G)) (hw : CW β D G x H) (hS : va_S D s.heap H locs) (hd : decode cc pc = .ok (.putfield 15, 3)) (kk : ∀ (H1 : Heap) (locs1 : List Loc), CW β D G (xsS x 4 1 v) H1 → va_S D s.heap H1 locs1 → W p l e R s m args below meth c H1 locs1 cells slots Q (F0 m (pc + 3) ls (rest))) : W p l e R s m args below meth c H locs cells slots Q (F0 m pc ls (.int v :: .ref (β + 4) :: rest)) :=
  x_put C.1 C.2.1 C.2.2.2.2.1 iwX6 tyX6 tyX6_ok nmX6 C.2.2.2.1 C.K.1 hS (hw.2.2.1 4 (by decide)) (hw.2.1 4 (by decide)) rfl 1 (by decide) (C.2.2.2.2.1 (.fieldLink RX6 15 RX6 "size" "I") (tg 38 (by decide +kernel) rfl)) (fun _ h9 => h9) rfl (ty := .int) (by decide +kernel) rfl rfl (Nat.le_of_ble_eq_true rfl) hd (fun H1 locs1 hat ho hS => kk H1 locs1 (hw.setS 4 1 v hat ho) hS)
def fX6_append (x : XS) (a1 : Int32) : Option (XS) := if 160 ≤ (x.1 4 1) then some x else if ib (x.1 4 1) 160 then lt (xsA x 5 (x.1 4 1).toNatClampNeg (vp_nar .char ((a1.toUInt32 % 65536).toInt32))) fun x2 => lt (xsS x2 4 1 ((x2.1 4 1) + 1)) fun x3 => some x3 else none
abbrev rmX6_append : Room := { frames := 0, cells := 0, slots := 0, locals := 0 }
set_option maxHeartbeats 4000000 in
set_option maxRecDepth 100000 in
theorem kX6_append {l : Launch} {G : xG} {β : Nat} {D : Nat → Prop} {x x' : XS} {a1 : Int32} (hm : fX6_append x a1 = some x') : Met l yX6_append (.code yX6_append cX6_append 2 none :: GT) rmX6_append (PcW [.ref (β + 4), .int a1] (CW β D G x) (KK G)) (QcW D none (CW β D G x')) 0 0 D := by
  unfold fX6_append at hm
  refine xpro (own := RX6) (by decide +kernel) rfl (Nat.le_of_ble_eq_true rfl) ?_
  intro p e s m args below meth c C hw ls hl
  have hx := C.1
  have hb := C.2.1
  have ho := C.2.2.2.1
  have hts := C.2.2.2.2.1
  have hS : va_S D s.heap s.heap [] := va_S.rf
  have hl : lv_has ls 2 [(0, .ref (β + 4)), (1, .int a1)] := hl
  have hRf : 0 ≤ rmX6_append.frames := Nat.le_refl _
  have hRl : 0 ≤ rmX6_append.locals := Nat.le_refl _
  have hcs : 0 ≤ rmX6_append.cells ∧ 0 ≤ rmX6_append.slots := ⟨Nat.le_refl _, Nat.le_refl _⟩
  refine lv_aload_n hx hb dX6_append_0 rfl (lv_at hl 0 rfl) ?_
  refine gX6_15 C hw dX6_append_1 ?_
  refine lv_aload_n hx hb dX6_append_4 rfl (lv_at hl 0 rfl) ?_
  refine gX6_9 C hw dX6_append_5 ?_
  refine anX_5 C hw dX6_append_8 ?_
  refine lv_icmp_ge (tgt := 33) hx hb dX6_append_9 (by decide) (fun cc => ?_) (fun cc => ?_)
  · replace hm := ite_p cc hm
    obtain rfl := Option.some.inj hm
    exact xret_v C hw hS dX6_append_33
  · replace hm := ite_n cc hm
    refine lv_aload_n hx hb dX6_append_12 rfl (lv_at hl 0 rfl) ?_
    refine gX6_9 C hw dX6_append_13 ?_
    refine lv_aload_n hx hb dX6_append_16 rfl (lv_at hl 0 rfl) ?_
    refine gX6_15 C hw dX6_append_17 ?_
    refine lv_iload_n hx hb dX6_append_20 rfl (lv_at hl 1 rfl) ?_
    refine lv_i2c hx hb dX6_append_21 rfl ?_
    obtain ⟨h1, hm⟩ := chk_e hm
    refine asX_5 C hw hS h1 dX6_append_22 (fun H locs hw hS => ?_)
    obtain ⟨x2, ev, hm⟩ := lt_e hm
    rw [← ev] at hw
    clear ev
    refine lv_aload_n hx hb dX6_append_23 rfl (lv_at hl 0 rfl) ?_
    refine lv_dup hx hb dX6_append_24 rfl ?_
    refine gX6_15 C hw dX6_append_25 ?_
    refine lv_iconst (v := 1) hx hb dX6_append_28 (by decide) ?_
    refine lv_iadd hx hb dX6_append_29 ?_
    refine pX6_15 C hw hS dX6_append_30 (fun H locs hw hS => ?_)
    obtain ⟨x3, ev, hm⟩ := lt_e hm
    rw [← ev] at hw
    clear ev
    obtain rfl := Option.some.inj hm
    exact xret_v C hw hS dX6_append_33
theorem dX6_clear_0 : decode cX6_clear 0 = .ok (.aload_n 0, 1) := by decide +kernel
theorem dX6_clear_1 : decode cX6_clear 1 = .ok (.iconst 0, 1) := by decide +kernel
theorem dX6_clear_2 : decode cX6_clear 2 = .ok (.putfield 15, 3) := by decide +kernel
theorem dX6_clear_5 : decode cX6_clear 5 = .ok (.return_, 1) := by decide +kernel
def fX6_clear (x : XS) : Option (XS) := lt (xsS x 4 1 0) fun x1 => some x1
abbrev rmX6_clear : Room := { frames := 0, cells := 0, slots := 0, locals := 0 }
set_option maxHeartbeats 4000000 in
set_option maxRecDepth 100000 in
theorem kX6_clear {l : Launch} {G : xG} {β : Nat} {D : Nat → Prop} {x x' : XS} (hm : fX6_clear x = some x') : Met l yX6_clear (.code yX6_clear cX6_clear 1 none :: GT) rmX6_clear (PcW [.ref (β + 4)] (CW β D G x) (KK G)) (QcW D none (CW β D G x')) 0 0 D := by
  unfold fX6_clear at hm
  refine xpro (own := RX6) (by decide +kernel) rfl (Nat.le_of_ble_eq_true rfl) ?_
  intro p e s m args below meth c C hw ls hl
  have hx := C.1
  have hb := C.2.1
  have ho := C.2.2.2.1
  have hts := C.2.2.2.2.1
  have hS : va_S D s.heap s.heap [] := va_S.rf
  have hl : lv_has ls 1 [(0, .ref (β + 4))] := hl
  have hRf : 0 ≤ rmX6_clear.frames := Nat.le_refl _
  have hRl : 0 ≤ rmX6_clear.locals := Nat.le_refl _
  have hcs : 0 ≤ rmX6_clear.cells ∧ 0 ≤ rmX6_clear.slots := ⟨Nat.le_refl _, Nat.le_refl _⟩
  refine lv_aload_n hx hb dX6_clear_0 rfl (lv_at hl 0 rfl) ?_
  refine lv_iconst (v := 0) hx hb dX6_clear_1 (by decide) ?_
  refine pX6_15 C hw hS dX6_clear_2 (fun H locs hw hS => ?_)
  obtain ⟨x1, ev, hm⟩ := lt_e hm
  rw [← ev] at hw
  clear ev
  obtain rfl := Option.some.inj hm
  exact xret_v C hw hS dX6_clear_5
theorem dX6_isDigit_0 : decode cX6_isDigit 0 = .ok (.iload_n 0, 1) := by decide +kernel
theorem dX6_isDigit_1 : decode cX6_isDigit 1 = .ok (.bipush 48, 2) := by decide +kernel
theorem dX6_isDigit_3 : decode cX6_isDigit 3 = .ok (.if_icmp .lt 13, 3) := by decide +kernel
theorem dX6_isDigit_6 : decode cX6_isDigit 6 = .ok (.iload_n 0, 1) := by decide +kernel
theorem dX6_isDigit_7 : decode cX6_isDigit 7 = .ok (.bipush 57, 2) := by decide +kernel
theorem dX6_isDigit_9 : decode cX6_isDigit 9 = .ok (.if_icmp .gt 7, 3) := by decide +kernel
theorem dX6_isDigit_12 : decode cX6_isDigit 12 = .ok (.iconst 1, 1) := by decide +kernel
theorem dX6_isDigit_13 : decode cX6_isDigit 13 = .ok (.goto 4, 3) := by decide +kernel
theorem dX6_isDigit_16 : decode cX6_isDigit 16 = .ok (.iconst 0, 1) := by decide +kernel
theorem dX6_isDigit_17 : decode cX6_isDigit 17 = .ok (.ireturn, 1) := by decide +kernel
def fX6_isDigit (a1 : Int32) : Option (Bool) := if a1 < 48 then some false else if 57 < a1 then some false else some true
abbrev rmX6_isDigit : Room := { frames := 0, cells := 0, slots := 0, locals := 0 }
set_option maxHeartbeats 4000000 in
set_option maxRecDepth 100000 in
theorem kX6_isDigit {l : Launch} {G : xG} {β : Nat} {D : Nat → Prop} {x : XS} {a1 : Int32} {r : Bool} (hm : fX6_isDigit a1 = some r) : Met l yX6_isDigit (.code yX6_isDigit cX6_isDigit 1 (some .boolean) :: GT) rmX6_isDigit (PcW [.int a1] (CW β D G x) (KK G)) (QcW D (some (.int (bI r))) (CW β D G x)) 0 0 D := by
  unfold fX6_isDigit at hm
  refine xpro (own := RX6) (by decide +kernel) rfl (Nat.le_of_ble_eq_true rfl) ?_
  intro p e s m args below meth c C hw ls hl
  have hx := C.1
  have hb := C.2.1
  have ho := C.2.2.2.1
  have hts := C.2.2.2.2.1
  have hS : va_S D s.heap s.heap [] := va_S.rf
  have hl : lv_has ls 1 [(0, .int a1)] := hl
  have hRf : 0 ≤ rmX6_isDigit.frames := Nat.le_refl _
  have hRl : 0 ≤ rmX6_isDigit.locals := Nat.le_refl _
  have hcs : 0 ≤ rmX6_isDigit.cells ∧ 0 ≤ rmX6_isDigit.slots := ⟨Nat.le_refl _, Nat.le_refl _⟩
  refine lv_iload_n hx hb dX6_isDigit_0 rfl (lv_at hl 0 rfl) ?_
  refine lv_bipush (v := 48) hx hb dX6_isDigit_1 (by decide) ?_
  refine lv_icmp_lt (tgt := 16) hx hb dX6_isDigit_3 (by decide) (fun cc => ?_) (fun cc => ?_)
  · replace hm := ite_p cc hm
    refine lv_iconst (v := 0) hx hb dX6_isDigit_16 (by decide) ?_
    obtain rfl := Option.some.inj hm
    exact xret_z (v := bI false) C (bI_nar _) hw hS dX6_isDigit_17
  · replace hm := ite_n cc hm
    refine lv_iload_n hx hb dX6_isDigit_6 rfl (lv_at hl 0 rfl) ?_
    refine lv_bipush (v := 57) hx hb dX6_isDigit_7 (by decide) ?_
    refine lv_icmp_gt (tgt := 16) hx hb dX6_isDigit_9 (by decide) (fun cc => ?_) (fun cc => ?_)
    · replace hm := ite_p cc hm
      refine lv_iconst (v := 0) hx hb dX6_isDigit_16 (by decide) ?_
      obtain rfl := Option.some.inj hm
      exact xret_z (v := bI false) C (bI_nar _) hw hS dX6_isDigit_17
    · replace hm := ite_n cc hm
      refine lv_iconst (v := 1) hx hb dX6_isDigit_12 (by decide) ?_
      refine lv_goto (tgt := 17) hx hb dX6_isDigit_13 (by decide) ?_
      obtain rfl := Option.some.inj hm
      exact xret_z (v := bI true) C (bI_nar _) hw hS dX6_isDigit_17
theorem dX6_readNumber_0 : decode cX6_readNumber 0 = .ok (.aload_n 0, 1) := by decide +kernel
theorem dX6_readNumber_1 : decode cX6_readNumber 1 = .ok (.iconst 0, 1) := by decide +kernel
theorem dX6_readNumber_2 : decode cX6_readNumber 2 = .ok (.putfield 28, 3) := by decide +kernel
theorem dX6_readNumber_5 : decode cX6_readNumber 5 = .ok (.aload_n 0, 1) := by decide +kernel
theorem dX6_readNumber_6 : decode cX6_readNumber 6 = .ok (.getfield 22, 3) := by decide +kernel
theorem dX6_readNumber_9 : decode cX6_readNumber 9 = .ok (.aload_n 0, 1) := by decide +kernel
theorem dX6_readNumber_10 : decode cX6_readNumber 10 = .ok (.getfield 15, 3) := by decide +kernel
theorem dX6_readNumber_13 : decode cX6_readNumber 13 = .ok (.if_icmp .ge 55, 3) := by decide +kernel
theorem dX6_readNumber_16 : decode cX6_readNumber 16 = .ok (.aload_n 0, 1) := by decide +kernel
theorem dX6_readNumber_17 : decode cX6_readNumber 17 = .ok (.getfield 9, 3) := by decide +kernel
theorem dX6_readNumber_20 : decode cX6_readNumber 20 = .ok (.aload_n 0, 1) := by decide +kernel
theorem dX6_readNumber_21 : decode cX6_readNumber 21 = .ok (.getfield 22, 3) := by decide +kernel
theorem dX6_readNumber_24 : decode cX6_readNumber 24 = .ok (.caload, 1) := by decide +kernel
theorem dX6_readNumber_25 : decode cX6_readNumber 25 = .ok (.invokestatic 45, 3) := by decide +kernel
theorem dX6_readNumber_28 : decode cX6_readNumber 28 = .ok (.ifCond .eq 40, 3) := by decide +kernel
theorem dX6_readNumber_31 : decode cX6_readNumber 31 = .ok (.aload_n 0, 1) := by decide +kernel
theorem dX6_readNumber_32 : decode cX6_readNumber 32 = .ok (.aload_n 0, 1) := by decide +kernel
theorem dX6_readNumber_33 : decode cX6_readNumber 33 = .ok (.getfield 28, 3) := by decide +kernel
theorem dX6_readNumber_36 : decode cX6_readNumber 36 = .ok (.bipush 10, 2) := by decide +kernel
theorem dX6_readNumber_38 : decode cX6_readNumber 38 = .ok (.imul, 1) := by decide +kernel
theorem dX6_readNumber_39 : decode cX6_readNumber 39 = .ok (.aload_n 0, 1) := by decide +kernel
theorem dX6_readNumber_40 : decode cX6_readNumber 40 = .ok (.getfield 9, 3) := by decide +kernel
theorem dX6_readNumber_43 : decode cX6_readNumber 43 = .ok (.aload_n 0, 1) := by decide +kernel
theorem dX6_readNumber_44 : decode cX6_readNumber 44 = .ok (.getfield 22, 3) := by decide +kernel
theorem dX6_readNumber_47 : decode cX6_readNumber 47 = .ok (.caload, 1) := by decide +kernel
theorem dX6_readNumber_48 : decode cX6_readNumber 48 = .ok (.bipush 48, 2) := by decide +kernel
theorem dX6_readNumber_50 : decode cX6_readNumber 50 = .ok (.isub, 1) := by decide +kernel
theorem dX6_readNumber_51 : decode cX6_readNumber 51 = .ok (.iadd, 1) := by decide +kernel
theorem dX6_readNumber_52 : decode cX6_readNumber 52 = .ok (.putfield 28, 3) := by decide +kernel
theorem dX6_readNumber_55 : decode cX6_readNumber 55 = .ok (.aload_n 0, 1) := by decide +kernel
theorem dX6_readNumber_56 : decode cX6_readNumber 56 = .ok (.dup, 1) := by decide +kernel
theorem dX6_readNumber_57 : decode cX6_readNumber 57 = .ok (.getfield 22, 3) := by decide +kernel
theorem dX6_readNumber_60 : decode cX6_readNumber 60 = .ok (.iconst 1, 1) := by decide +kernel
theorem dX6_readNumber_61 : decode cX6_readNumber 61 = .ok (.iadd, 1) := by decide +kernel
theorem dX6_readNumber_62 : decode cX6_readNumber 62 = .ok (.putfield 22, 3) := by decide +kernel
theorem dX6_readNumber_65 : decode cX6_readNumber 65 = .ok (.goto (-60), 3) := by decide +kernel
theorem dX6_readNumber_68 : decode cX6_readNumber 68 = .ok (.aload_n 0, 1) := by decide +kernel
theorem dX6_readNumber_69 : decode cX6_readNumber 69 = .ok (.getfield 22, 3) := by decide +kernel
theorem dX6_readNumber_72 : decode cX6_readNumber 72 = .ok (.aload_n 0, 1) := by decide +kernel
theorem dX6_readNumber_73 : decode cX6_readNumber 73 = .ok (.getfield 19, 3) := by decide +kernel
theorem dX6_readNumber_76 : decode cX6_readNumber 76 = .ok (.isub, 1) := by decide +kernel
theorem dX6_readNumber_77 : decode cX6_readNumber 77 = .ok (.iconst 4, 1) := by decide +kernel
theorem dX6_readNumber_78 : decode cX6_readNumber 78 = .ok (.if_icmp .le 8, 3) := by decide +kernel
theorem dX6_readNumber_81 : decode cX6_readNumber 81 = .ok (.bipush (-36), 2) := by decide +kernel
theorem dX6_readNumber_83 : decode cX6_readNumber 83 = .ok (.goto 5, 3) := by decide +kernel
theorem dX6_readNumber_86 : decode cX6_readNumber 86 = .ok (.bipush (-34), 2) := by decide +kernel
theorem dX6_readNumber_88 : decode cX6_readNumber 88 = .ok (.ireturn, 1) := by decide +kernel
theorem pX6_28 {p : Program} {l : Launch} {e : Env} {R : Room} {s : State} {m : MethodId} {args : Array Value} {below : List Frame} {meth : Method} {c : Code} {H : Heap} {locs : List Loc} {cells slots : Nat} {Q : State → Prop} {cc : ByteArray} {pc nL : Nat} {ls : Array Slot} {rest : List Value} {ret : Option FieldType} {G : xG} {β : Nat} {D : Nat → Prop} {x : XS} {v : Int32} (C : Cx p s m args meth c RX6 cc nL ret (KK G)) (hw : CW β D G x H) (hS : va_S D s.heap H locs) (hd : decode cc pc = .ok (.putfield 28, 3)) (kk : ∀ (H1 : Heap) (locs1 : List Loc), CW β D G (xsS x 4 5 v) H1 → va_S D s.heap H1 locs1 → W p l e R s m args below meth c H1 locs1 cells slots Q (F0 m (pc + 3) ls (rest))) : W p l e R s m args below meth c H locs cells slots Q (F0 m pc ls (.int v :: .ref (β + 4) :: rest)) :=
  x_put C.1 C.2.1 C.2.2.2.2.1 iwX6 tyX6 tyX6_ok nmX6 C.2.2.2.1 C.K.1 hS (hw.2.2.1 4 (by decide)) (hw.2.1 4 (by decide)) rfl 5 (by decide) (C.2.2.2.2.1 (.fieldLink RX6 28 RX6 "number" "I") (tg 45 (by decide +kernel) rfl)) (fun _ h9 => h9) rfl (ty := .int) (by decide +kernel) rfl rfl (Nat.le_of_ble_eq_true rfl) hd (fun H1 locs1 hat ho hS => kk H1 locs1 (hw.setS 4 5 v hat ho) hS)
theorem gX6_22 {p : Program} {l : Launch} {e : Env} {R : Room} {s : State} {m : MethodId} {args : Array Value} {below : List Frame} {meth : Method} {c : Code} {H : Heap} {locs : List Loc} {cells slots : Nat} {Q : State → Prop} {cc : ByteArray} {pc nL : Nat} {ls : Array Slot} {rest : List Value} {ret : Option FieldType} {G : xG} {β : Nat} {D : Nat → Prop} {x : XS} (C : Cx p s m args meth c RX6 cc nL ret (KK G)) (hw : CW β D G x H) (hd : decode cc pc = .ok (.getfield 22, 3)) (kk : W p l e R s m args below meth c H locs cells slots Q (F0 m (pc + 3) ls (.int (x.1 4 3) :: rest))) : W p l e R s m args below meth c H locs cells slots Q (F0 m pc ls (.ref (β + 4) :: rest)) :=
  va_get C.1 C.2.1 C.2.2.2.2.1 iwX6 C.2.2.2.1 C.K.1 (xP1 (hw.2.2.1 4 (by decide))) 0 rfl rfl 3 (by decide) (C.2.2.2.2.1 (.fieldLink RX6 22 RX6 "behind" "I") (tg 42 (by decide +kernel) rfl)) (fun _ h9 => h9) rfl hd kk
theorem alX_5 {p : Program} {l : Launch} {e : Env} {R : Room} {s : State} {m : MethodId} {args : Array Value} {below : List Frame} {meth : Method} {c : Code} {H : Heap} {locs : List Loc} {cells slots : Nat} {Q : State → Prop} {cc : ByteArray} {pc nL : Nat} {ls : Array Slot} {rest : List Value} {ret : Option FieldType} {G : xG} {β : Nat} {D : Nat → Prop} {x : XS} {own : String} {i : Int32} (C : Cx p s m args meth c own cc nL ret (KK G)) (hw : CW β D G x H) (hin : ib i 160) (hd : decode cc pc = .ok (.caload, 1)) (kk : W p l e R s m args below meth c H locs cells slots Q (F0 m (pc + 1) ls (.int (x.2.1 5 i.toNatClampNeg) :: rest))) : W p l e R s m args below meth c H locs cells slots Q (F0 m pc ls (.int i :: .ref (β + 5) :: rest)) :=
  va_cald C.1 C.2.1 C.K.1 (xP1 (hw.2.2.1 5 (by decide))) 0 2 rfl rfl hin hd kk
theorem sX6_45 {p : Program} {l : Launch} {e : Env} {R : Room} {s : State} {m : MethodId} {args : Array Value} {below : List Frame} {meth : Method} {c : Code} {H : Heap} {locs : List Loc} {cells slots : Nat} {Q : State → Prop} {cc : ByteArray} {pc nL : Nat} {ls : Array Slot} {rest : List Value} {ret : Option FieldType}  {G : xG} {β : Nat} {D : Nat → Prop} {x : XS} {a1 : Int32} {r : Bool} (C : Cx p s m args meth c RX6 cc nL ret (KK G)) (h : fX6_isDigit a1 = some r) (hw : CW β D G x H) (hS : va_S D s.heap H locs) (hsz : ls.size = nL) (hW : (rest.map fun v => v.category).sum ≤ 8) (hR : 1 ≤ R.frames) (hR2 : 20 ≤ R.locals) (hcs : cells ≤ R.cells ∧ slots ≤ R.slots) (hd : decode cc pc = .ok (.invokestatic 45, 3)) (kk : ∀ (H1 : Heap) (locs1 : List Loc), CW β D G x H1 → va_S D s.heap H1 locs1 → W p l e R s m args below meth c H1 locs1 cells slots Q (F0 m (pc + 3) ls (.int (bI r) :: rest))) : W p l e R s m args below meth c H locs cells slots Q (F0 m pc ls (.int a1 :: rest)) := by
  exact xcallS C (As := [.int a1]) (rest := rest) (nA := 1) (kX6_isDigit h) (tg 252 (by decide +kernel) rfl) (tg 253 (by decide +kernel) rfl) (tg 2 (by decide +kernel) rfl) (tg 254 (by decide +kernel) rfl) ⟨by decide +kernel, by decide +kernel, by decide +kernel⟩ rfl rfl ⟨hR, hR2⟩ hw hS (fun _ q => q) rfl rfl hsz hW hd hcs (fun H1 locs1 hw hz hk hS => kk H1 locs1 hw hS)
theorem gX6_28 {p : Program} {l : Launch} {e : Env} {R : Room} {s : State} {m : MethodId} {args : Array Value} {below : List Frame} {meth : Method} {c : Code} {H : Heap} {locs : List Loc} {cells slots : Nat} {Q : State → Prop} {cc : ByteArray} {pc nL : Nat} {ls : Array Slot} {rest : List Value} {ret : Option FieldType} {G : xG} {β : Nat} {D : Nat → Prop} {x : XS} (C : Cx p s m args meth c RX6 cc nL ret (KK G)) (hw : CW β D G x H) (hd : decode cc pc = .ok (.getfield 28, 3)) (kk : W p l e R s m args below meth c H locs cells slots Q (F0 m (pc + 3) ls (.int (x.1 4 5) :: rest))) : W p l e R s m args below meth c H locs cells slots Q (F0 m pc ls (.ref (β + 4) :: rest)) :=
  va_get C.1 C.2.1 C.2.2.2.2.1 iwX6 C.2.2.2.1 C.K.1 (xP1 (hw.2.2.1 4 (by decide))) 0 rfl rfl 5 (by decide) (C.2.2.2.2.1 (.fieldLink RX6 28 RX6 "number" "I") (tg 45 (by decide +kernel) rfl)) (fun _ h9 => h9) rfl hd kk
theorem pX6_22 {p : Program} {l : Launch} {e : Env} {R : Room} {s : State} {m : MethodId} {args : Array Value} {below : List Frame} {meth : Method} {c : Code} {H : Heap} {locs : List Loc} {cells slots : Nat} {Q : State → Prop} {cc : ByteArray} {pc nL : Nat} {ls : Array Slot} {rest : List Value} {ret : Option FieldType} {G : xG} {β : Nat} {D : Nat → Prop} {x : XS} {v : Int32} (C : Cx p s m args meth c RX6 cc nL ret (KK G)) (hw : CW β D G x H) (hS : va_S D s.heap H locs) (hd : decode cc pc = .ok (.putfield 22, 3)) (kk : ∀ (H1 : Heap) (locs1 : List Loc), CW β D G (xsS x 4 3 v) H1 → va_S D s.heap H1 locs1 → W p l e R s m args below meth c H1 locs1 cells slots Q (F0 m (pc + 3) ls (rest))) : W p l e R s m args below meth c H locs cells slots Q (F0 m pc ls (.int v :: .ref (β + 4) :: rest)) :=
  x_put C.1 C.2.1 C.2.2.2.2.1 iwX6 tyX6 tyX6_ok nmX6 C.2.2.2.1 C.K.1 hS (hw.2.2.1 4 (by decide)) (hw.2.1 4 (by decide)) rfl 3 (by decide) (C.2.2.2.2.1 (.fieldLink RX6 22 RX6 "behind" "I") (tg 42 (by decide +kernel) rfl)) (fun _ h9 => h9) rfl (ty := .int) (by decide +kernel) rfl rfl (Nat.le_of_ble_eq_true rfl) hd (fun H1 locs1 hat ho hS => kk H1 locs1 (hw.setS 4 3 v hat ho) hS)
theorem gX6_19 {p : Program} {l : Launch} {e : Env} {R : Room} {s : State} {m : MethodId} {args : Array Value} {below : List Frame} {meth : Method} {c : Code} {H : Heap} {locs : List Loc} {cells slots : Nat} {Q : State → Prop} {cc : ByteArray} {pc nL : Nat} {ls : Array Slot} {rest : List Value} {ret : Option FieldType} {G : xG} {β : Nat} {D : Nat → Prop} {x : XS} (C : Cx p s m args meth c RX6 cc nL ret (KK G)) (hw : CW β D G x H) (hd : decode cc pc = .ok (.getfield 19, 3)) (kk : W p l e R s m args below meth c H locs cells slots Q (F0 m (pc + 3) ls (.int (x.1 4 2) :: rest))) : W p l e R s m args below meth c H locs cells slots Q (F0 m pc ls (.ref (β + 4) :: rest)) :=
  va_get C.1 C.2.1 C.2.2.2.2.1 iwX6 C.2.2.2.1 C.K.1 (xP1 (hw.2.2.1 4 (by decide))) 0 rfl rfl 2 (by decide) (C.2.2.2.2.1 (.fieldLink RX6 19 RX6 "start" "I") (tg 40 (by decide +kernel) rfl)) (fun _ h9 => h9) rfl hd kk
def BX6_readNumber_5 (lp : XS → Option (XS)) (x : XS) : Option (XS) := if (x.1 4 1) ≤ (x.1 4 3) then some x else if ib (x.1 4 3) 160 then Option.bind (fX6_isDigit (x.2.1 5 (x.1 4 3).toNatClampNeg)) fun v3 => if v3 = true then if ib (x.1 4 3) 160 then lt (xsS x 4 5 (((x.1 4 5) * 10) + ((x.2.1 5 (x.1 4 3).toNatClampNeg) - 48))) fun x6 => lt (xsS x6 4 3 ((x6.1 4 3) + 1)) fun x7 => lp x7 else none else some x else none
def LX6_readNumber_5 : Nat → XS → Option (XS)
  | 0, _ => none
  | n + 1, x => BX6_readNumber_5 (LX6_readNumber_5 n) x
def fX6_readNumber (x : XS) : Option (Int32 × XS) := lt (xsS x 4 5 0) fun x1 => Option.bind (LX6_readNumber_5 NF x1) fun x8 => if ((x8.1 4 3) - (x8.1 4 2)) ≤ 4 then some ((-34), x8) else some ((-36), x8)
set_option maxHeartbeats 4000000 in
set_option maxRecDepth 100000 in
theorem lX6_readNumber_5 {p : Program} {l : Launch} {e : Env} {R : Room} {s : State} {m : MethodId} {args : Array Value} {below : List Frame} {meth : Method} {c : Code} {cells slots : Nat} {Q : State → Prop} {G : xG} {β : Nat} {D : Nat → Prop} (C : Cx p s m args meth c RX6 cX6_readNumber 1 (some .int) (KK G)) (hRf : 1 ≤ R.frames) (hRl : 20 ≤ R.locals) (hcs : cells ≤ R.cells ∧ slots ≤ R.slots) : ∀ (n : Nat) (x : XS) (J : XS) (H : Heap) (locs : List Loc) (ls : Array Slot), LX6_readNumber_5 n x = some J → CW β D G x H → va_S D s.heap H locs → lv_has ls 1 [(0, .ref (β + 4))] → (∀ (x1 : XS), J = x1 → ∀ (H : Heap) (locs : List Loc) (ls : Array Slot), CW β D G x1 H → va_S D s.heap H locs → lv_has ls 1 [(0, .ref (β + 4))] → W p l e R s m args below meth c H locs cells slots Q (F0 m 68 ls [])) → W p l e R s m args below meth c H locs cells slots Q (F0 m 5 ls []) := by
  have hx := C.1
  have hb := C.2.1
  have ho := C.2.2.2.1
  have hts := C.2.2.2.2.1
  intro n
  induction n with
  | zero =>
    intro x J H locs ls hm
    exact absurd hm (by simp [LX6_readNumber_5])
  | succ n ih =>
    intro x J H locs ls hm hw hS hl ke
    replace hm : BX6_readNumber_5 (LX6_readNumber_5 n) x = some J := hm
    unfold BX6_readNumber_5 at hm
    refine lv_aload_n hx hb dX6_readNumber_5 rfl (lv_at hl 0 rfl) ?_
    refine gX6_22 C hw dX6_readNumber_6 ?_
    refine lv_aload_n hx hb dX6_readNumber_9 rfl (lv_at hl 0 rfl) ?_
    refine gX6_15 C hw dX6_readNumber_10 ?_
    refine lv_icmp_ge (tgt := 68) hx hb dX6_readNumber_13 (by decide) (fun cc => ?_) (fun cc => ?_)
    · replace hm := ite_p cc hm
      exact ke _ (Option.some.inj hm).symm _ _ _ hw hS (lv_sub hl [0] rfl)
    · replace hm := ite_n cc hm
      refine lv_aload_n hx hb dX6_readNumber_16 rfl (lv_at hl 0 rfl) ?_
      refine gX6_9 C hw dX6_readNumber_17 ?_
      refine lv_aload_n hx hb dX6_readNumber_20 rfl (lv_at hl 0 rfl) ?_
      refine gX6_22 C hw dX6_readNumber_21 ?_
      obtain ⟨h2, hm⟩ := chk_e hm
      refine alX_5 C hw h2 dX6_readNumber_24 ?_
      obtain ⟨v3, h4, hm⟩ := bind_e hm
      refine sX6_45 C h4 hw hS hl.1 (Nat.le_of_ble_eq_true rfl) (Nat.le_trans (Nat.le_of_ble_eq_true rfl) hRf) (Nat.le_trans (Nat.le_of_ble_eq_true rfl) hRl) hcs dX6_readNumber_25 (fun H locs hw hS => ?_)
      refine x_ifeqB hx hb dX6_readNumber_28 (tgt := 68) (by decide) (fun cc => ?_) (fun cc => ?_)
      · replace hm := ite_n cc hm
        exact ke _ (Option.some.inj hm).symm _ _ _ hw hS (lv_sub hl [0] rfl)
      · replace hm := ite_p cc hm
        refine lv_aload_n hx hb dX6_readNumber_31 rfl (lv_at hl 0 rfl) ?_
        refine lv_aload_n hx hb dX6_readNumber_32 rfl (lv_at hl 0 rfl) ?_
        refine gX6_28 C hw dX6_readNumber_33 ?_
        refine lv_bipush (v := 10) hx hb dX6_readNumber_36 (by decide) ?_
        refine lv_imul hx hb dX6_readNumber_38 ?_
        refine lv_aload_n hx hb dX6_readNumber_39 rfl (lv_at hl 0 rfl) ?_
        refine gX6_9 C hw dX6_readNumber_40 ?_
        refine lv_aload_n hx hb dX6_readNumber_43 rfl (lv_at hl 0 rfl) ?_
        refine gX6_22 C hw dX6_readNumber_44 ?_
        obtain ⟨h5, hm⟩ := chk_e hm
        refine alX_5 C hw h5 dX6_readNumber_47 ?_
        refine lv_bipush (v := 48) hx hb dX6_readNumber_48 (by decide) ?_
        refine lv_isub hx hb dX6_readNumber_50 ?_
        refine lv_iadd hx hb dX6_readNumber_51 ?_
        refine pX6_28 C hw hS dX6_readNumber_52 (fun H locs hw hS => ?_)
        obtain ⟨x6, ev, hm⟩ := lt_e hm
        rw [← ev] at hw
        clear ev
        refine lv_aload_n hx hb dX6_readNumber_55 rfl (lv_at hl 0 rfl) ?_
        refine lv_dup hx hb dX6_readNumber_56 rfl ?_
        refine gX6_22 C hw dX6_readNumber_57 ?_
        refine lv_iconst (v := 1) hx hb dX6_readNumber_60 (by decide) ?_
        refine lv_iadd hx hb dX6_readNumber_61 ?_
        refine pX6_22 C hw hS dX6_readNumber_62 (fun H locs hw hS => ?_)
        obtain ⟨x7, ev, hm⟩ := lt_e hm
        rw [← ev] at hw
        clear ev
        refine lv_goto (tgt := 5) hx hb dX6_readNumber_65 (by decide) ?_
        exact ih _ _ _ _ _ hm hw hS (lv_sub hl [0] rfl) ke
abbrev rmX6_readNumber : Room := { frames := 1, cells := 0, slots := 0, locals := 20 }
set_option maxHeartbeats 4000000 in
set_option maxRecDepth 100000 in
theorem kX6_readNumber {l : Launch} {G : xG} {β : Nat} {D : Nat → Prop} {x x' : XS} {r : Int32} (hm : fX6_readNumber x = some (r, x')) : Met l yX6_readNumber (.code yX6_readNumber cX6_readNumber 1 (some .int) :: GT) rmX6_readNumber (PcW [.ref (β + 4)] (CW β D G x) (KK G)) (QcW D (some (.int r)) (CW β D G x')) 0 0 D := by
  unfold fX6_readNumber at hm
  refine xpro (own := RX6) (by decide +kernel) rfl (Nat.le_of_ble_eq_true rfl) ?_
  intro p e s m args below meth c C hw ls hl
  have hx := C.1
  have hb := C.2.1
  have ho := C.2.2.2.1
  have hts := C.2.2.2.2.1
  have hS : va_S D s.heap s.heap [] := va_S.rf
  have hl : lv_has ls 1 [(0, .ref (β + 4))] := hl
  have hRf : 1 ≤ rmX6_readNumber.frames := Nat.le_refl _
  have hRl : 20 ≤ rmX6_readNumber.locals := Nat.le_refl _
  have hcs : 0 ≤ rmX6_readNumber.cells ∧ 0 ≤ rmX6_readNumber.slots := ⟨Nat.le_refl _, Nat.le_refl _⟩
  refine lv_aload_n hx hb dX6_readNumber_0 rfl (lv_at hl 0 rfl) ?_
  refine lv_iconst (v := 0) hx hb dX6_readNumber_1 (by decide) ?_
  refine pX6_28 C hw hS dX6_readNumber_2 (fun H locs hw hS => ?_)
  obtain ⟨x1, ev, hm⟩ := lt_e hm
  rw [← ev] at hw
  clear ev
  obtain ⟨x8, hj, hm⟩ := bind_e hm
  refine lX6_readNumber_5 C hRf hRl hcs NF _ _ _ _ _ hj hw hS (lv_sub hl [0] rfl) (fun x8_ e0 H locs ls hw hS hl => ?_)
  cases e0
  refine lv_aload_n hx hb dX6_readNumber_68 rfl (lv_at hl 0 rfl) ?_
  refine gX6_22 C hw dX6_readNumber_69 ?_
  refine lv_aload_n hx hb dX6_readNumber_72 rfl (lv_at hl 0 rfl) ?_
  refine gX6_19 C hw dX6_readNumber_73 ?_
  refine lv_isub hx hb dX6_readNumber_76 ?_
  refine lv_iconst (v := 4) hx hb dX6_readNumber_77 (by decide) ?_
  refine lv_icmp_le (tgt := 86) hx hb dX6_readNumber_78 (by decide) (fun cc => ?_) (fun cc => ?_)
  · replace hm := ite_p cc hm
    refine lv_bipush (v := (-34)) hx hb dX6_readNumber_86 (by decide) ?_
    obtain ⟨rfl, rfl⟩ := inj2 hm
    exact xret_i C hw hS dX6_readNumber_88
  · replace hm := ite_n cc hm
    refine lv_bipush (v := (-36)) hx hb dX6_readNumber_81 (by decide) ?_
    refine lv_goto (tgt := 88) hx hb dX6_readNumber_83 (by decide) ?_
    obtain ⟨rfl, rfl⟩ := inj2 hm
    exact xret_i C hw hS dX6_readNumber_88
theorem dX6_signOf_0 : decode cX6_signOf 0 = .ok (.iload_n 0, 1) := by decide +kernel
theorem dX6_signOf_1 : decode cX6_signOf 1 = .ok (.tableswitch 127 40 61 #[103, 106, 118, 112, 127, 115, 127, 127, 127, 127, 127, 127, 127, 127, 127, 127, 127, 127, 127, 109, 121, 124], 103) := by decide +kernel
theorem dX6_signOf_104 : decode cX6_signOf 104 = .ok (.bipush (-31), 2) := by decide +kernel
theorem dX6_signOf_106 : decode cX6_signOf 106 = .ok (.ireturn, 1) := by decide +kernel
theorem dX6_signOf_107 : decode cX6_signOf 107 = .ok (.bipush (-32), 2) := by decide +kernel
theorem dX6_signOf_109 : decode cX6_signOf 109 = .ok (.ireturn, 1) := by decide +kernel
theorem dX6_signOf_110 : decode cX6_signOf 110 = .ok (.bipush (-33), 2) := by decide +kernel
theorem dX6_signOf_112 : decode cX6_signOf 112 = .ok (.ireturn, 1) := by decide +kernel
theorem dX6_signOf_113 : decode cX6_signOf 113 = .ok (.bipush (-21), 2) := by decide +kernel
theorem dX6_signOf_115 : decode cX6_signOf 115 = .ok (.ireturn, 1) := by decide +kernel
theorem dX6_signOf_116 : decode cX6_signOf 116 = .ok (.bipush (-22), 2) := by decide +kernel
theorem dX6_signOf_118 : decode cX6_signOf 118 = .ok (.ireturn, 1) := by decide +kernel
theorem dX6_signOf_119 : decode cX6_signOf 119 = .ok (.bipush (-23), 2) := by decide +kernel
theorem dX6_signOf_121 : decode cX6_signOf 121 = .ok (.ireturn, 1) := by decide +kernel
theorem dX6_signOf_122 : decode cX6_signOf 122 = .ok (.bipush (-24), 2) := by decide +kernel
theorem dX6_signOf_124 : decode cX6_signOf 124 = .ok (.ireturn, 1) := by decide +kernel
theorem dX6_signOf_125 : decode cX6_signOf 125 = .ok (.bipush (-25), 2) := by decide +kernel
theorem dX6_signOf_127 : decode cX6_signOf 127 = .ok (.ireturn, 1) := by decide +kernel
theorem dX6_signOf_128 : decode cX6_signOf 128 = .ok (.bipush (-36), 2) := by decide +kernel
theorem dX6_signOf_130 : decode cX6_signOf 130 = .ok (.ireturn, 1) := by decide +kernel
def fX6_signOf (a1 : Int32) : Option (Int32) := if a1 = 40 then some (-31) else if a1 = 41 then some (-32) else if a1 = 42 then some (-23) else if a1 = 43 then some (-21) else if a1 = 44 then some (-36) else if a1 = 45 then some (-22) else if a1 = 46 then some (-36) else if a1 = 47 then some (-36) else if a1 = 48 then some (-36) else if a1 = 49 then some (-36) else if a1 = 50 then some (-36) else if a1 = 51 then some (-36) else if a1 = 52 then some (-36) else if a1 = 53 then some (-36) else if a1 = 54 then some (-36) else if a1 = 55 then some (-36) else if a1 = 56 then some (-36) else if a1 = 57 then some (-36) else if a1 = 58 then some (-36) else if a1 = 59 then some (-33) else if a1 = 60 then some (-24) else if a1 = 61 then some (-25) else some (-36)
abbrev rmX6_signOf : Room := { frames := 0, cells := 0, slots := 0, locals := 0 }
set_option maxHeartbeats 4000000 in
set_option maxRecDepth 100000 in
theorem kX6_signOf {l : Launch} {G : xG} {β : Nat} {D : Nat → Prop} {x : XS} {a1 : Int32} {r : Int32} (hm : fX6_signOf a1 = some r) : Met l yX6_signOf (.code yX6_signOf cX6_signOf 1 (some .int) :: GT) rmX6_signOf (PcW [.int a1] (CW β D G x) (KK G)) (QcW D (some (.int r)) (CW β D G x)) 0 0 D := by
  unfold fX6_signOf at hm
  refine xpro (own := RX6) (by decide +kernel) rfl (Nat.le_of_ble_eq_true rfl) ?_
  intro p e s m args below meth c C hw ls hl
  have hx := C.1
  have hb := C.2.1
  have ho := C.2.2.2.1
  have hts := C.2.2.2.2.1
  have hS : va_S D s.heap s.heap [] := va_S.rf
  have hl : lv_has ls 1 [(0, .int a1)] := hl
  have hRf : 0 ≤ rmX6_signOf.frames := Nat.le_refl _
  have hRl : 0 ≤ rmX6_signOf.locals := Nat.le_refl _
  have hcs : 0 ≤ rmX6_signOf.cells ∧ 0 ≤ rmX6_signOf.slots := ⟨Nat.le_refl _, Nat.le_refl _⟩
  refine lv_iload_n hx hb dX6_signOf_0 rfl (lv_at hl 0 rfl) ?_
  by_cases k0 : a1 = 40
  · replace hm := ite_p k0 hm
    refine lv_tableIn (tgt := 104) (off := 103) hx hb dX6_signOf_1 (by rw [k0]; decide) (by rw [k0]; decide) (by rw [k0]; rfl) (by decide) ?_
    refine lv_bipush (v := (-31)) hx hb dX6_signOf_104 (by decide) ?_
    obtain rfl := Option.some.inj hm
    exact xret_i C hw hS dX6_signOf_106
  replace hm := ite_n k0 hm
  by_cases k1 : a1 = 41
  · replace hm := ite_p k1 hm
    refine lv_tableIn (tgt := 107) (off := 106) hx hb dX6_signOf_1 (by rw [k1]; decide) (by rw [k1]; decide) (by rw [k1]; rfl) (by decide) ?_
    refine lv_bipush (v := (-32)) hx hb dX6_signOf_107 (by decide) ?_
    obtain rfl := Option.some.inj hm
    exact xret_i C hw hS dX6_signOf_109
  replace hm := ite_n k1 hm
  by_cases k2 : a1 = 42
  · replace hm := ite_p k2 hm
    refine lv_tableIn (tgt := 119) (off := 118) hx hb dX6_signOf_1 (by rw [k2]; decide) (by rw [k2]; decide) (by rw [k2]; rfl) (by decide) ?_
    refine lv_bipush (v := (-23)) hx hb dX6_signOf_119 (by decide) ?_
    obtain rfl := Option.some.inj hm
    exact xret_i C hw hS dX6_signOf_121
  replace hm := ite_n k2 hm
  by_cases k3 : a1 = 43
  · replace hm := ite_p k3 hm
    refine lv_tableIn (tgt := 113) (off := 112) hx hb dX6_signOf_1 (by rw [k3]; decide) (by rw [k3]; decide) (by rw [k3]; rfl) (by decide) ?_
    refine lv_bipush (v := (-21)) hx hb dX6_signOf_113 (by decide) ?_
    obtain rfl := Option.some.inj hm
    exact xret_i C hw hS dX6_signOf_115
  replace hm := ite_n k3 hm
  by_cases k4 : a1 = 44
  · replace hm := ite_p k4 hm
    refine lv_tableIn (tgt := 128) (off := 127) hx hb dX6_signOf_1 (by rw [k4]; decide) (by rw [k4]; decide) (by rw [k4]; rfl) (by decide) ?_
    refine lv_bipush (v := (-36)) hx hb dX6_signOf_128 (by decide) ?_
    obtain rfl := Option.some.inj hm
    exact xret_i C hw hS dX6_signOf_130
  replace hm := ite_n k4 hm
  by_cases k5 : a1 = 45
  · replace hm := ite_p k5 hm
    refine lv_tableIn (tgt := 116) (off := 115) hx hb dX6_signOf_1 (by rw [k5]; decide) (by rw [k5]; decide) (by rw [k5]; rfl) (by decide) ?_
    refine lv_bipush (v := (-22)) hx hb dX6_signOf_116 (by decide) ?_
    obtain rfl := Option.some.inj hm
    exact xret_i C hw hS dX6_signOf_118
  replace hm := ite_n k5 hm
  by_cases k6 : a1 = 46
  · replace hm := ite_p k6 hm
    refine lv_tableIn (tgt := 128) (off := 127) hx hb dX6_signOf_1 (by rw [k6]; decide) (by rw [k6]; decide) (by rw [k6]; rfl) (by decide) ?_
    refine lv_bipush (v := (-36)) hx hb dX6_signOf_128 (by decide) ?_
    obtain rfl := Option.some.inj hm
    exact xret_i C hw hS dX6_signOf_130
  replace hm := ite_n k6 hm
  by_cases k7 : a1 = 47
  · replace hm := ite_p k7 hm
    refine lv_tableIn (tgt := 128) (off := 127) hx hb dX6_signOf_1 (by rw [k7]; decide) (by rw [k7]; decide) (by rw [k7]; rfl) (by decide) ?_
    refine lv_bipush (v := (-36)) hx hb dX6_signOf_128 (by decide) ?_
    obtain rfl := Option.some.inj hm
    exact xret_i C hw hS dX6_signOf_130
  replace hm := ite_n k7 hm
  by_cases k8 : a1 = 48
  · replace hm := ite_p k8 hm
    refine lv_tableIn (tgt := 128) (off := 127) hx hb dX6_signOf_1 (by rw [k8]; decide) (by rw [k8]; decide) (by rw [k8]; rfl) (by decide) ?_
    refine lv_bipush (v := (-36)) hx hb dX6_signOf_128 (by decide) ?_
    obtain rfl := Option.some.inj hm
    exact xret_i C hw hS dX6_signOf_130
  replace hm := ite_n k8 hm
  by_cases k9 : a1 = 49
  · replace hm := ite_p k9 hm
    refine lv_tableIn (tgt := 128) (off := 127) hx hb dX6_signOf_1 (by rw [k9]; decide) (by rw [k9]; decide) (by rw [k9]; rfl) (by decide) ?_
    refine lv_bipush (v := (-36)) hx hb dX6_signOf_128 (by decide) ?_
    obtain rfl := Option.some.inj hm
    exact xret_i C hw hS dX6_signOf_130
  replace hm := ite_n k9 hm
  by_cases k10 : a1 = 50
  · replace hm := ite_p k10 hm
    refine lv_tableIn (tgt := 128) (off := 127) hx hb dX6_signOf_1 (by rw [k10]; decide) (by rw [k10]; decide) (by rw [k10]; rfl) (by decide) ?_
    refine lv_bipush (v := (-36)) hx hb dX6_signOf_128 (by decide) ?_
    obtain rfl := Option.some.inj hm
    exact xret_i C hw hS dX6_signOf_130
  replace hm := ite_n k10 hm
  by_cases k11 : a1 = 51
  · replace hm := ite_p k11 hm
    refine lv_tableIn (tgt := 128) (off := 127) hx hb dX6_signOf_1 (by rw [k11]; decide) (by rw [k11]; decide) (by rw [k11]; rfl) (by decide) ?_
    refine lv_bipush (v := (-36)) hx hb dX6_signOf_128 (by decide) ?_
    obtain rfl := Option.some.inj hm
    exact xret_i C hw hS dX6_signOf_130
  replace hm := ite_n k11 hm
  by_cases k12 : a1 = 52
  · replace hm := ite_p k12 hm
    refine lv_tableIn (tgt := 128) (off := 127) hx hb dX6_signOf_1 (by rw [k12]; decide) (by rw [k12]; decide) (by rw [k12]; rfl) (by decide) ?_
    refine lv_bipush (v := (-36)) hx hb dX6_signOf_128 (by decide) ?_
    obtain rfl := Option.some.inj hm
    exact xret_i C hw hS dX6_signOf_130
  replace hm := ite_n k12 hm
  by_cases k13 : a1 = 53
  · replace hm := ite_p k13 hm
    refine lv_tableIn (tgt := 128) (off := 127) hx hb dX6_signOf_1 (by rw [k13]; decide) (by rw [k13]; decide) (by rw [k13]; rfl) (by decide) ?_
    refine lv_bipush (v := (-36)) hx hb dX6_signOf_128 (by decide) ?_
    obtain rfl := Option.some.inj hm
    exact xret_i C hw hS dX6_signOf_130
  replace hm := ite_n k13 hm
  by_cases k14 : a1 = 54
  · replace hm := ite_p k14 hm
    refine lv_tableIn (tgt := 128) (off := 127) hx hb dX6_signOf_1 (by rw [k14]; decide) (by rw [k14]; decide) (by rw [k14]; rfl) (by decide) ?_
    refine lv_bipush (v := (-36)) hx hb dX6_signOf_128 (by decide) ?_
    obtain rfl := Option.some.inj hm
    exact xret_i C hw hS dX6_signOf_130
  replace hm := ite_n k14 hm
  by_cases k15 : a1 = 55
  · replace hm := ite_p k15 hm
    refine lv_tableIn (tgt := 128) (off := 127) hx hb dX6_signOf_1 (by rw [k15]; decide) (by rw [k15]; decide) (by rw [k15]; rfl) (by decide) ?_
    refine lv_bipush (v := (-36)) hx hb dX6_signOf_128 (by decide) ?_
    obtain rfl := Option.some.inj hm
    exact xret_i C hw hS dX6_signOf_130
  replace hm := ite_n k15 hm
  by_cases k16 : a1 = 56
  · replace hm := ite_p k16 hm
    refine lv_tableIn (tgt := 128) (off := 127) hx hb dX6_signOf_1 (by rw [k16]; decide) (by rw [k16]; decide) (by rw [k16]; rfl) (by decide) ?_
    refine lv_bipush (v := (-36)) hx hb dX6_signOf_128 (by decide) ?_
    obtain rfl := Option.some.inj hm
    exact xret_i C hw hS dX6_signOf_130
  replace hm := ite_n k16 hm
  by_cases k17 : a1 = 57
  · replace hm := ite_p k17 hm
    refine lv_tableIn (tgt := 128) (off := 127) hx hb dX6_signOf_1 (by rw [k17]; decide) (by rw [k17]; decide) (by rw [k17]; rfl) (by decide) ?_
    refine lv_bipush (v := (-36)) hx hb dX6_signOf_128 (by decide) ?_
    obtain rfl := Option.some.inj hm
    exact xret_i C hw hS dX6_signOf_130
  replace hm := ite_n k17 hm
  by_cases k18 : a1 = 58
  · replace hm := ite_p k18 hm
    refine lv_tableIn (tgt := 128) (off := 127) hx hb dX6_signOf_1 (by rw [k18]; decide) (by rw [k18]; decide) (by rw [k18]; rfl) (by decide) ?_
    refine lv_bipush (v := (-36)) hx hb dX6_signOf_128 (by decide) ?_
    obtain rfl := Option.some.inj hm
    exact xret_i C hw hS dX6_signOf_130
  replace hm := ite_n k18 hm
  by_cases k19 : a1 = 59
  · replace hm := ite_p k19 hm
    refine lv_tableIn (tgt := 110) (off := 109) hx hb dX6_signOf_1 (by rw [k19]; decide) (by rw [k19]; decide) (by rw [k19]; rfl) (by decide) ?_
    refine lv_bipush (v := (-33)) hx hb dX6_signOf_110 (by decide) ?_
    obtain rfl := Option.some.inj hm
    exact xret_i C hw hS dX6_signOf_112
  replace hm := ite_n k19 hm
  by_cases k20 : a1 = 60
  · replace hm := ite_p k20 hm
    refine lv_tableIn (tgt := 122) (off := 121) hx hb dX6_signOf_1 (by rw [k20]; decide) (by rw [k20]; decide) (by rw [k20]; rfl) (by decide) ?_
    refine lv_bipush (v := (-24)) hx hb dX6_signOf_122 (by decide) ?_
    obtain rfl := Option.some.inj hm
    exact xret_i C hw hS dX6_signOf_124
  replace hm := ite_n k20 hm
  by_cases k21 : a1 = 61
  · replace hm := ite_p k21 hm
    refine lv_tableIn (tgt := 125) (off := 124) hx hb dX6_signOf_1 (by rw [k21]; decide) (by rw [k21]; decide) (by rw [k21]; rfl) (by decide) ?_
    refine lv_bipush (v := (-25)) hx hb dX6_signOf_125 (by decide) ?_
    obtain rfl := Option.some.inj hm
    exact xret_i C hw hS dX6_signOf_127
  replace hm := ite_n k21 hm
  have k0i := lv_neT k0 (a := 40) (by decide)
  have k1i := lv_neT k1 (a := 41) (by decide)
  have k2i := lv_neT k2 (a := 42) (by decide)
  have k3i := lv_neT k3 (a := 43) (by decide)
  have k4i := lv_neT k4 (a := 44) (by decide)
  have k5i := lv_neT k5 (a := 45) (by decide)
  have k6i := lv_neT k6 (a := 46) (by decide)
  have k7i := lv_neT k7 (a := 47) (by decide)
  have k8i := lv_neT k8 (a := 48) (by decide)
  have k9i := lv_neT k9 (a := 49) (by decide)
  have k10i := lv_neT k10 (a := 50) (by decide)
  have k11i := lv_neT k11 (a := 51) (by decide)
  have k12i := lv_neT k12 (a := 52) (by decide)
  have k13i := lv_neT k13 (a := 53) (by decide)
  have k14i := lv_neT k14 (a := 54) (by decide)
  have k15i := lv_neT k15 (a := 55) (by decide)
  have k16i := lv_neT k16 (a := 56) (by decide)
  have k17i := lv_neT k17 (a := 57) (by decide)
  have k18i := lv_neT k18 (a := 58) (by decide)
  have k19i := lv_neT k19 (a := 59) (by decide)
  have k20i := lv_neT k20 (a := 60) (by decide)
  have k21i := lv_neT k21 (a := 61) (by decide)
  refine lv_tableOut (tgt := 128) hx hb dX6_signOf_1 (by omega) (by decide) ?_
  refine lv_bipush (v := (-36)) hx hb dX6_signOf_128 (by decide) ?_
  obtain rfl := Option.some.inj hm
  exact xret_i C hw hS dX6_signOf_130
theorem dX6_isBlank_0 : decode cX6_isBlank 0 = .ok (.iload_n 0, 1) := by decide +kernel
theorem dX6_isBlank_1 : decode cX6_isBlank 1 = .ok (.bipush 32, 2) := by decide +kernel
theorem dX6_isBlank_3 : decode cX6_isBlank 3 = .ok (.if_icmp .eq 9, 3) := by decide +kernel
theorem dX6_isBlank_6 : decode cX6_isBlank 6 = .ok (.iload_n 0, 1) := by decide +kernel
theorem dX6_isBlank_7 : decode cX6_isBlank 7 = .ok (.bipush 10, 2) := by decide +kernel
theorem dX6_isBlank_9 : decode cX6_isBlank 9 = .ok (.if_icmp .ne 7, 3) := by decide +kernel
theorem dX6_isBlank_12 : decode cX6_isBlank 12 = .ok (.iconst 1, 1) := by decide +kernel
theorem dX6_isBlank_13 : decode cX6_isBlank 13 = .ok (.goto 4, 3) := by decide +kernel
theorem dX6_isBlank_16 : decode cX6_isBlank 16 = .ok (.iconst 0, 1) := by decide +kernel
theorem dX6_isBlank_17 : decode cX6_isBlank 17 = .ok (.ireturn, 1) := by decide +kernel
def fX6_isBlank (a1 : Int32) : Option (Bool) := if a1 = 32 then some true else if a1 = 10 then some true else some false
abbrev rmX6_isBlank : Room := { frames := 0, cells := 0, slots := 0, locals := 0 }
set_option maxHeartbeats 4000000 in
set_option maxRecDepth 100000 in
theorem kX6_isBlank {l : Launch} {G : xG} {β : Nat} {D : Nat → Prop} {x : XS} {a1 : Int32} {r : Bool} (hm : fX6_isBlank a1 = some r) : Met l yX6_isBlank (.code yX6_isBlank cX6_isBlank 1 (some .boolean) :: GT) rmX6_isBlank (PcW [.int a1] (CW β D G x) (KK G)) (QcW D (some (.int (bI r))) (CW β D G x)) 0 0 D := by
  unfold fX6_isBlank at hm
  refine xpro (own := RX6) (by decide +kernel) rfl (Nat.le_of_ble_eq_true rfl) ?_
  intro p e s m args below meth c C hw ls hl
  have hx := C.1
  have hb := C.2.1
  have ho := C.2.2.2.1
  have hts := C.2.2.2.2.1
  have hS : va_S D s.heap s.heap [] := va_S.rf
  have hl : lv_has ls 1 [(0, .int a1)] := hl
  have hRf : 0 ≤ rmX6_isBlank.frames := Nat.le_refl _
  have hRl : 0 ≤ rmX6_isBlank.locals := Nat.le_refl _
  have hcs : 0 ≤ rmX6_isBlank.cells ∧ 0 ≤ rmX6_isBlank.slots := ⟨Nat.le_refl _, Nat.le_refl _⟩
  refine lv_iload_n hx hb dX6_isBlank_0 rfl (lv_at hl 0 rfl) ?_
  refine lv_bipush (v := 32) hx hb dX6_isBlank_1 (by decide) ?_
  refine lv_icmp_eq (tgt := 12) hx hb dX6_isBlank_3 (by decide) (fun cc => ?_) (fun cc => ?_)
  · replace hm := ite_p cc hm
    refine lv_iconst (v := 1) hx hb dX6_isBlank_12 (by decide) ?_
    refine lv_goto (tgt := 17) hx hb dX6_isBlank_13 (by decide) ?_
    obtain rfl := Option.some.inj hm
    exact xret_z (v := bI true) C (bI_nar _) hw hS dX6_isBlank_17
  · replace hm := ite_n cc hm
    refine lv_iload_n hx hb dX6_isBlank_6 rfl (lv_at hl 0 rfl) ?_
    refine lv_bipush (v := 10) hx hb dX6_isBlank_7 (by decide) ?_
    refine lv_icmp_ne (tgt := 16) hx hb dX6_isBlank_9 (by decide) (fun cc => ?_) (fun cc => ?_)
    · replace hm := ite_n cc hm
      refine lv_iconst (v := 0) hx hb dX6_isBlank_16 (by decide) ?_
      obtain rfl := Option.some.inj hm
      exact xret_z (v := bI false) C (bI_nar _) hw hS dX6_isBlank_17
    · replace hm := ite_p cc hm
      refine lv_iconst (v := 1) hx hb dX6_isBlank_12 (by decide) ?_
      refine lv_goto (tgt := 17) hx hb dX6_isBlank_13 (by decide) ?_
      obtain rfl := Option.some.inj hm
      exact xret_z (v := bI true) C (bI_nar _) hw hS dX6_isBlank_17
theorem dX6_isLetter_0 : decode cX6_isLetter 0 = .ok (.iload_n 0, 1) := by decide +kernel
theorem dX6_isLetter_1 : decode cX6_isLetter 1 = .ok (.bipush 97, 2) := by decide +kernel
theorem dX6_isLetter_3 : decode cX6_isLetter 3 = .ok (.if_icmp .lt 13, 3) := by decide +kernel
theorem dX6_isLetter_6 : decode cX6_isLetter 6 = .ok (.iload_n 0, 1) := by decide +kernel
theorem dX6_isLetter_7 : decode cX6_isLetter 7 = .ok (.bipush 122, 2) := by decide +kernel
theorem dX6_isLetter_9 : decode cX6_isLetter 9 = .ok (.if_icmp .gt 7, 3) := by decide +kernel
theorem dX6_isLetter_12 : decode cX6_isLetter 12 = .ok (.iconst 1, 1) := by decide +kernel
theorem dX6_isLetter_13 : decode cX6_isLetter 13 = .ok (.goto 4, 3) := by decide +kernel
theorem dX6_isLetter_16 : decode cX6_isLetter 16 = .ok (.iconst 0, 1) := by decide +kernel
theorem dX6_isLetter_17 : decode cX6_isLetter 17 = .ok (.ireturn, 1) := by decide +kernel
def fX6_isLetter (a1 : Int32) : Option (Bool) := if a1 < 97 then some false else if 122 < a1 then some false else some true
abbrev rmX6_isLetter : Room := { frames := 0, cells := 0, slots := 0, locals := 0 }
set_option maxHeartbeats 4000000 in
set_option maxRecDepth 100000 in
theorem kX6_isLetter {l : Launch} {G : xG} {β : Nat} {D : Nat → Prop} {x : XS} {a1 : Int32} {r : Bool} (hm : fX6_isLetter a1 = some r) : Met l yX6_isLetter (.code yX6_isLetter cX6_isLetter 1 (some .boolean) :: GT) rmX6_isLetter (PcW [.int a1] (CW β D G x) (KK G)) (QcW D (some (.int (bI r))) (CW β D G x)) 0 0 D := by
  unfold fX6_isLetter at hm
  refine xpro (own := RX6) (by decide +kernel) rfl (Nat.le_of_ble_eq_true rfl) ?_
  intro p e s m args below meth c C hw ls hl
  have hx := C.1
  have hb := C.2.1
  have ho := C.2.2.2.1
  have hts := C.2.2.2.2.1
  have hS : va_S D s.heap s.heap [] := va_S.rf
  have hl : lv_has ls 1 [(0, .int a1)] := hl
  have hRf : 0 ≤ rmX6_isLetter.frames := Nat.le_refl _
  have hRl : 0 ≤ rmX6_isLetter.locals := Nat.le_refl _
  have hcs : 0 ≤ rmX6_isLetter.cells ∧ 0 ≤ rmX6_isLetter.slots := ⟨Nat.le_refl _, Nat.le_refl _⟩
  refine lv_iload_n hx hb dX6_isLetter_0 rfl (lv_at hl 0 rfl) ?_
  refine lv_bipush (v := 97) hx hb dX6_isLetter_1 (by decide) ?_
  refine lv_icmp_lt (tgt := 16) hx hb dX6_isLetter_3 (by decide) (fun cc => ?_) (fun cc => ?_)
  · replace hm := ite_p cc hm
    refine lv_iconst (v := 0) hx hb dX6_isLetter_16 (by decide) ?_
    obtain rfl := Option.some.inj hm
    exact xret_z (v := bI false) C (bI_nar _) hw hS dX6_isLetter_17
  · replace hm := ite_n cc hm
    refine lv_iload_n hx hb dX6_isLetter_6 rfl (lv_at hl 0 rfl) ?_
    refine lv_bipush (v := 122) hx hb dX6_isLetter_7 (by decide) ?_
    refine lv_icmp_gt (tgt := 16) hx hb dX6_isLetter_9 (by decide) (fun cc => ?_) (fun cc => ?_)
    · replace hm := ite_p cc hm
      refine lv_iconst (v := 0) hx hb dX6_isLetter_16 (by decide) ?_
      obtain rfl := Option.some.inj hm
      exact xret_z (v := bI false) C (bI_nar _) hw hS dX6_isLetter_17
    · replace hm := ite_n cc hm
      refine lv_iconst (v := 1) hx hb dX6_isLetter_12 (by decide) ?_
      refine lv_goto (tgt := 17) hx hb dX6_isLetter_13 (by decide) ?_
      obtain rfl := Option.some.inj hm
      exact xret_z (v := bI true) C (bI_nar _) hw hS dX6_isLetter_17
theorem dX7_isName_0 : decode cX7_isName 0 = .ok (.iload_n 0, 1) := by decide +kernel
theorem dX7_isName_1 : decode cX7_isName 1 = .ok (.ifCond .ge 13, 3) := by decide +kernel
theorem dX7_isName_4 : decode cX7_isName 4 = .ok (.iload_n 0, 1) := by decide +kernel
theorem dX7_isName_5 : decode cX7_isName 5 = .ok (.bipush (-6), 2) := by decide +kernel
theorem dX7_isName_7 : decode cX7_isName 7 = .ok (.if_icmp .lt 7, 3) := by decide +kernel
theorem dX7_isName_10 : decode cX7_isName 10 = .ok (.iconst 1, 1) := by decide +kernel
theorem dX7_isName_11 : decode cX7_isName 11 = .ok (.goto 4, 3) := by decide +kernel
theorem dX7_isName_14 : decode cX7_isName 14 = .ok (.iconst 0, 1) := by decide +kernel
theorem dX7_isName_15 : decode cX7_isName 15 = .ok (.ireturn, 1) := by decide +kernel
def fX7_isName (a1 : Int32) : Option (Bool) := if 0 ≤ a1 then some false else if a1 < (-6) then some false else some true
abbrev rmX7_isName : Room := { frames := 0, cells := 0, slots := 0, locals := 0 }
set_option maxHeartbeats 4000000 in
set_option maxRecDepth 100000 in
theorem kX7_isName {l : Launch} {G : xG} {β : Nat} {D : Nat → Prop} {x : XS} {a1 : Int32} {r : Bool} (hm : fX7_isName a1 = some r) : Met l yX7_isName (.code yX7_isName cX7_isName 1 (some .boolean) :: GT) rmX7_isName (PcW [.int a1] (CW β D G x) (KK G)) (QcW D (some (.int (bI r))) (CW β D G x)) 0 0 D := by
  unfold fX7_isName at hm
  refine xpro (own := RX7) (by decide +kernel) rfl (Nat.le_of_ble_eq_true rfl) ?_
  intro p e s m args below meth c C hw ls hl
  have hx := C.1
  have hb := C.2.1
  have ho := C.2.2.2.1
  have hts := C.2.2.2.2.1
  have hS : va_S D s.heap s.heap [] := va_S.rf
  have hl : lv_has ls 1 [(0, .int a1)] := hl
  have hRf : 0 ≤ rmX7_isName.frames := Nat.le_refl _
  have hRl : 0 ≤ rmX7_isName.locals := Nat.le_refl _
  have hcs : 0 ≤ rmX7_isName.cells ∧ 0 ≤ rmX7_isName.slots := ⟨Nat.le_refl _, Nat.le_refl _⟩
  refine lv_iload_n hx hb dX7_isName_0 rfl (lv_at hl 0 rfl) ?_
  refine lv_if_ge (tgt := 14) hx hb dX7_isName_1 (by decide) (fun cc => ?_) (fun cc => ?_)
  · replace hm := ite_p cc hm
    refine lv_iconst (v := 0) hx hb dX7_isName_14 (by decide) ?_
    obtain rfl := Option.some.inj hm
    exact xret_z (v := bI false) C (bI_nar _) hw hS dX7_isName_15
  · replace hm := ite_n cc hm
    refine lv_iload_n hx hb dX7_isName_4 rfl (lv_at hl 0 rfl) ?_
    refine lv_bipush (v := (-6)) hx hb dX7_isName_5 (by decide) ?_
    refine lv_icmp_lt (tgt := 14) hx hb dX7_isName_7 (by decide) (fun cc => ?_) (fun cc => ?_)
    · replace hm := ite_p cc hm
      refine lv_iconst (v := 0) hx hb dX7_isName_14 (by decide) ?_
      obtain rfl := Option.some.inj hm
      exact xret_z (v := bI false) C (bI_nar _) hw hS dX7_isName_15
    · replace hm := ite_n cc hm
      refine lv_iconst (v := 1) hx hb dX7_isName_10 (by decide) ?_
      refine lv_goto (tgt := 15) hx hb dX7_isName_11 (by decide) ?_
      obtain rfl := Option.some.inj hm
      exact xret_z (v := bI true) C (bI_nar _) hw hS dX7_isName_15
theorem dX7_truth_0 : decode cX7_truth 0 = .ok (.iload_n 0, 1) := by decide +kernel
theorem dX7_truth_1 : decode cX7_truth 1 = .ok (.ifCond .eq 7, 3) := by decide +kernel
theorem dX7_truth_4 : decode cX7_truth 4 = .ok (.iconst 1, 1) := by decide +kernel
theorem dX7_truth_5 : decode cX7_truth 5 = .ok (.goto 4, 3) := by decide +kernel
theorem dX7_truth_8 : decode cX7_truth 8 = .ok (.iconst 0, 1) := by decide +kernel
theorem dX7_truth_9 : decode cX7_truth 9 = .ok (.ireturn, 1) := by decide +kernel
def fX7_truth (a1 : Bool) : Option (Int32) := if a1 = true then some 1 else some 0
abbrev rmX7_truth : Room := { frames := 0, cells := 0, slots := 0, locals := 0 }
set_option maxHeartbeats 4000000 in
set_option maxRecDepth 100000 in
theorem kX7_truth {l : Launch} {G : xG} {β : Nat} {D : Nat → Prop} {x : XS} {a1 : Bool} {r : Int32} (hm : fX7_truth a1 = some r) : Met l yX7_truth (.code yX7_truth cX7_truth 1 (some .int) :: GT) rmX7_truth (PcW [.int (bI a1)] (CW β D G x) (KK G)) (QcW D (some (.int r)) (CW β D G x)) 0 0 D := by
  unfold fX7_truth at hm
  refine xpro (own := RX7) (by decide +kernel) rfl (Nat.le_of_ble_eq_true rfl) ?_
  intro p e s m args below meth c C hw ls hl
  have hx := C.1
  have hb := C.2.1
  have ho := C.2.2.2.1
  have hts := C.2.2.2.2.1
  have hS : va_S D s.heap s.heap [] := va_S.rf
  have hl : lv_has ls 1 [(0, .int (bI a1))] := hl
  have hRf : 0 ≤ rmX7_truth.frames := Nat.le_refl _
  have hRl : 0 ≤ rmX7_truth.locals := Nat.le_refl _
  have hcs : 0 ≤ rmX7_truth.cells ∧ 0 ≤ rmX7_truth.slots := ⟨Nat.le_refl _, Nat.le_refl _⟩
  refine lv_iload_n hx hb dX7_truth_0 rfl (lv_at hl 0 rfl) ?_
  refine x_ifeqB hx hb dX7_truth_1 (tgt := 8) (by decide) (fun cc => ?_) (fun cc => ?_)
  · replace hm := ite_n cc hm
    refine lv_iconst (v := 0) hx hb dX7_truth_8 (by decide) ?_
    obtain rfl := Option.some.inj hm
    exact xret_i C hw hS dX7_truth_9
  · replace hm := ite_p cc hm
    refine lv_iconst (v := 1) hx hb dX7_truth_4 (by decide) ?_
    refine lv_goto (tgt := 9) hx hb dX7_truth_5 (by decide) ?_
    obtain rfl := Option.some.inj hm
    exact xret_i C hw hS dX7_truth_9
theorem dX7_altered_0 : decode cX7_altered 0 = .ok (.iload_n 0, 1) := by decide +kernel
theorem dX7_altered_1 : decode cX7_altered 1 = .ok (.bipush (-26), 2) := by decide +kernel
theorem dX7_altered_3 : decode cX7_altered 3 = .ok (.if_icmp .ne 8, 3) := by decide +kernel
theorem dX7_altered_6 : decode cX7_altered 6 = .ok (.iload_n 1, 1) := by decide +kernel
theorem dX7_altered_7 : decode cX7_altered 7 = .ok (.ineg, 1) := by decide +kernel
theorem dX7_altered_8 : decode cX7_altered 8 = .ok (.goto 15, 3) := by decide +kernel
theorem dX7_altered_11 : decode cX7_altered 11 = .ok (.iload_n 1, 1) := by decide +kernel
theorem dX7_altered_12 : decode cX7_altered 12 = .ok (.ifCond .ne 7, 3) := by decide +kernel
theorem dX7_altered_15 : decode cX7_altered 15 = .ok (.iconst 1, 1) := by decide +kernel
theorem dX7_altered_16 : decode cX7_altered 16 = .ok (.goto 4, 3) := by decide +kernel
theorem dX7_altered_19 : decode cX7_altered 19 = .ok (.iconst 0, 1) := by decide +kernel
theorem dX7_altered_20 : decode cX7_altered 20 = .ok (.invokestatic 51, 3) := by decide +kernel
theorem dX7_altered_23 : decode cX7_altered 23 = .ok (.ireturn, 1) := by decide +kernel
theorem sX7_51 {p : Program} {l : Launch} {e : Env} {R : Room} {s : State} {m : MethodId} {args : Array Value} {below : List Frame} {meth : Method} {c : Code} {H : Heap} {locs : List Loc} {cells slots : Nat} {Q : State → Prop} {cc : ByteArray} {pc nL : Nat} {ls : Array Slot} {rest : List Value} {ret : Option FieldType}  {G : xG} {β : Nat} {D : Nat → Prop} {x : XS} {a1 : Bool} {r : Int32} (C : Cx p s m args meth c RX7 cc nL ret (KK G)) (h : fX7_truth a1 = some r) (hw : CW β D G x H) (hS : va_S D s.heap H locs) (hsz : ls.size = nL) (hW : (rest.map fun v => v.category).sum ≤ 8) (hR : 1 ≤ R.frames) (hR2 : 20 ≤ R.locals) (hcs : cells ≤ R.cells ∧ slots ≤ R.slots) (hd : decode cc pc = .ok (.invokestatic 51, 3)) (kk : ∀ (H1 : Heap) (locs1 : List Loc), CW β D G x H1 → va_S D s.heap H1 locs1 → W p l e R s m args below meth c H1 locs1 cells slots Q (F0 m (pc + 3) ls (.int r :: rest))) : W p l e R s m args below meth c H locs cells slots Q (F0 m pc ls (.int (bI a1) :: rest)) := by
  exact xcallS C (As := [.int (bI a1)]) (rest := rest) (nA := 1) (kX7_truth h) (tg 541 (by decide +kernel) rfl) (tg 542 (by decide +kernel) rfl) (tg 11 (by decide +kernel) rfl) (tg 543 (by decide +kernel) rfl) ⟨by decide +kernel, by decide +kernel, by decide +kernel⟩ rfl rfl ⟨hR, hR2⟩ hw hS (fun _ q => q) rfl rfl hsz hW hd hcs (fun H1 locs1 hw hz hk hS => kk H1 locs1 hw hS)
def fX7_altered (a1 : Int32) (a2 : Int32) : Option (Int32) := if a1 = (-26) then some (-a2) else if a2 = 0 then Option.bind (fX7_truth true) fun v3 => some v3 else Option.bind (fX7_truth false) fun v1 => some v1
abbrev rmX7_altered : Room := { frames := 1, cells := 0, slots := 0, locals := 20 }
set_option maxHeartbeats 4000000 in
set_option maxRecDepth 100000 in
theorem kX7_altered {l : Launch} {G : xG} {β : Nat} {D : Nat → Prop} {x : XS} {a1 : Int32} {a2 : Int32} {r : Int32} (hm : fX7_altered a1 a2 = some r) : Met l yX7_altered (.code yX7_altered cX7_altered 2 (some .int) :: GT) rmX7_altered (PcW [.int a1, .int a2] (CW β D G x) (KK G)) (QcW D (some (.int r)) (CW β D G x)) 0 0 D := by
  unfold fX7_altered at hm
  refine xpro (own := RX7) (by decide +kernel) rfl (Nat.le_of_ble_eq_true rfl) ?_
  intro p e s m args below meth c C hw ls hl
  have hx := C.1
  have hb := C.2.1
  have ho := C.2.2.2.1
  have hts := C.2.2.2.2.1
  have hS : va_S D s.heap s.heap [] := va_S.rf
  have hl : lv_has ls 2 [(0, .int a1), (1, .int a2)] := hl
  have hRf : 1 ≤ rmX7_altered.frames := Nat.le_refl _
  have hRl : 20 ≤ rmX7_altered.locals := Nat.le_refl _
  have hcs : 0 ≤ rmX7_altered.cells ∧ 0 ≤ rmX7_altered.slots := ⟨Nat.le_refl _, Nat.le_refl _⟩
  refine lv_iload_n hx hb dX7_altered_0 rfl (lv_at hl 0 rfl) ?_
  refine lv_bipush (v := (-26)) hx hb dX7_altered_1 (by decide) ?_
  refine lv_icmp_ne (tgt := 11) hx hb dX7_altered_3 (by decide) (fun cc => ?_) (fun cc => ?_)
  · replace hm := ite_n cc hm
    refine lv_iload_n hx hb dX7_altered_11 rfl (lv_at hl 1 rfl) ?_
    refine lv_if_ne (tgt := 19) hx hb dX7_altered_12 (by decide) (fun cc => ?_) (fun cc => ?_)
    · replace hm := ite_n cc hm
      refine lv_iconst (v := 0) hx hb dX7_altered_19 (by decide) ?_
      obtain ⟨v1, h2, hm⟩ := bind_e hm
      refine sX7_51 (a1 := false) C h2 hw hS hl.1 (Nat.le_of_ble_eq_true rfl) (Nat.le_trans (Nat.le_of_ble_eq_true rfl) hRf) (Nat.le_trans (Nat.le_of_ble_eq_true rfl) hRl) hcs dX7_altered_20 (fun H locs hw hS => ?_)
      obtain rfl := Option.some.inj hm
      exact xret_i C hw hS dX7_altered_23
    · replace hm := ite_p cc hm
      refine lv_iconst (v := 1) hx hb dX7_altered_15 (by decide) ?_
      refine lv_goto (tgt := 20) hx hb dX7_altered_16 (by decide) ?_
      obtain ⟨v3, h4, hm⟩ := bind_e hm
      refine sX7_51 (a1 := true) C h4 hw hS hl.1 (Nat.le_of_ble_eq_true rfl) (Nat.le_trans (Nat.le_of_ble_eq_true rfl) hRf) (Nat.le_trans (Nat.le_of_ble_eq_true rfl) hRl) hcs dX7_altered_20 (fun H locs hw hS => ?_)
      obtain rfl := Option.some.inj hm
      exact xret_i C hw hS dX7_altered_23
  · replace hm := ite_p cc hm
    refine lv_iload_n hx hb dX7_altered_6 rfl (lv_at hl 1 rfl) ?_
    refine lv_ineg hx hb dX7_altered_7 ?_
    refine lv_goto (tgt := 23) hx hb dX7_altered_8 (by decide) ?_
    obtain rfl := Option.some.inj hm
    exact xret_i C hw hS dX7_altered_23
theorem dX7_joined_0 : decode cX7_joined 0 = .ok (.iload_n 0, 1) := by decide +kernel
theorem dX7_joined_1 : decode cX7_joined 1 = .ok (.tableswitch 116 (-25) (-15) #[85, 71, 67, 63, 59, 116, 116, 116, 116, 116, 99], 59) := by decide +kernel
theorem dX7_joined_60 : decode cX7_joined 60 = .ok (.iload_n 1, 1) := by decide +kernel
theorem dX7_joined_61 : decode cX7_joined 61 = .ok (.iload_n 2, 1) := by decide +kernel
theorem dX7_joined_62 : decode cX7_joined 62 = .ok (.iadd, 1) := by decide +kernel
theorem dX7_joined_63 : decode cX7_joined 63 = .ok (.ireturn, 1) := by decide +kernel
theorem dX7_joined_64 : decode cX7_joined 64 = .ok (.iload_n 1, 1) := by decide +kernel
theorem dX7_joined_65 : decode cX7_joined 65 = .ok (.iload_n 2, 1) := by decide +kernel
theorem dX7_joined_66 : decode cX7_joined 66 = .ok (.isub, 1) := by decide +kernel
theorem dX7_joined_67 : decode cX7_joined 67 = .ok (.ireturn, 1) := by decide +kernel
theorem dX7_joined_68 : decode cX7_joined 68 = .ok (.iload_n 1, 1) := by decide +kernel
theorem dX7_joined_69 : decode cX7_joined 69 = .ok (.iload_n 2, 1) := by decide +kernel
theorem dX7_joined_70 : decode cX7_joined 70 = .ok (.imul, 1) := by decide +kernel
theorem dX7_joined_71 : decode cX7_joined 71 = .ok (.ireturn, 1) := by decide +kernel
theorem dX7_joined_72 : decode cX7_joined 72 = .ok (.iload_n 1, 1) := by decide +kernel
theorem dX7_joined_73 : decode cX7_joined 73 = .ok (.iload_n 2, 1) := by decide +kernel
theorem dX7_joined_74 : decode cX7_joined 74 = .ok (.if_icmp .ge 7, 3) := by decide +kernel
theorem dX7_joined_77 : decode cX7_joined 77 = .ok (.iconst 1, 1) := by decide +kernel
theorem dX7_joined_78 : decode cX7_joined 78 = .ok (.goto 4, 3) := by decide +kernel
theorem dX7_joined_81 : decode cX7_joined 81 = .ok (.iconst 0, 1) := by decide +kernel
theorem dX7_joined_82 : decode cX7_joined 82 = .ok (.invokestatic 51, 3) := by decide +kernel
theorem dX7_joined_85 : decode cX7_joined 85 = .ok (.ireturn, 1) := by decide +kernel
theorem dX7_joined_86 : decode cX7_joined 86 = .ok (.iload_n 1, 1) := by decide +kernel
theorem dX7_joined_87 : decode cX7_joined 87 = .ok (.iload_n 2, 1) := by decide +kernel
theorem dX7_joined_88 : decode cX7_joined 88 = .ok (.if_icmp .ne 7, 3) := by decide +kernel
theorem dX7_joined_91 : decode cX7_joined 91 = .ok (.iconst 1, 1) := by decide +kernel
theorem dX7_joined_92 : decode cX7_joined 92 = .ok (.goto 4, 3) := by decide +kernel
theorem dX7_joined_95 : decode cX7_joined 95 = .ok (.iconst 0, 1) := by decide +kernel
theorem dX7_joined_96 : decode cX7_joined 96 = .ok (.invokestatic 51, 3) := by decide +kernel
theorem dX7_joined_99 : decode cX7_joined 99 = .ok (.ireturn, 1) := by decide +kernel
theorem dX7_joined_100 : decode cX7_joined 100 = .ok (.iload_n 1, 1) := by decide +kernel
theorem dX7_joined_101 : decode cX7_joined 101 = .ok (.ifCond .eq 11, 3) := by decide +kernel
theorem dX7_joined_104 : decode cX7_joined 104 = .ok (.iload_n 2, 1) := by decide +kernel
theorem dX7_joined_105 : decode cX7_joined 105 = .ok (.ifCond .eq 7, 3) := by decide +kernel
theorem dX7_joined_108 : decode cX7_joined 108 = .ok (.iconst 1, 1) := by decide +kernel
theorem dX7_joined_109 : decode cX7_joined 109 = .ok (.goto 4, 3) := by decide +kernel
theorem dX7_joined_112 : decode cX7_joined 112 = .ok (.iconst 0, 1) := by decide +kernel
theorem dX7_joined_113 : decode cX7_joined 113 = .ok (.invokestatic 51, 3) := by decide +kernel
theorem dX7_joined_116 : decode cX7_joined 116 = .ok (.ireturn, 1) := by decide +kernel
theorem dX7_joined_117 : decode cX7_joined 117 = .ok (.iload_n 1, 1) := by decide +kernel
theorem dX7_joined_118 : decode cX7_joined 118 = .ok (.ifCond .ne 7, 3) := by decide +kernel
theorem dX7_joined_121 : decode cX7_joined 121 = .ok (.iload_n 2, 1) := by decide +kernel
theorem dX7_joined_122 : decode cX7_joined 122 = .ok (.ifCond .eq 7, 3) := by decide +kernel
theorem dX7_joined_125 : decode cX7_joined 125 = .ok (.iconst 1, 1) := by decide +kernel
theorem dX7_joined_126 : decode cX7_joined 126 = .ok (.goto 4, 3) := by decide +kernel
theorem dX7_joined_129 : decode cX7_joined 129 = .ok (.iconst 0, 1) := by decide +kernel
theorem dX7_joined_130 : decode cX7_joined 130 = .ok (.invokestatic 51, 3) := by decide +kernel
theorem dX7_joined_133 : decode cX7_joined 133 = .ok (.ireturn, 1) := by decide +kernel
def fX7_joined (a1 : Int32) (a2 : Int32) (a3 : Int32) : Option (Int32) := if a1 = (-25) then if a2 = a3 then Option.bind (fX7_truth true) fun v3 => some v3 else Option.bind (fX7_truth false) fun v1 => some v1 else if a1 = (-24) then if a3 ≤ a2 then Option.bind (fX7_truth false) fun v5 => some v5 else Option.bind (fX7_truth true) fun v7 => some v7 else if a1 = (-23) then some (a2 * a3) else if a1 = (-22) then some (a2 - a3) else if a1 = (-21) then some (a2 + a3) else if a1 = (-20) then if a2 = 0 then if a3 = 0 then Option.bind (fX7_truth false) fun v11 => some v11 else Option.bind (fX7_truth true) fun v13 => some v13 else Option.bind (fX7_truth true) fun v9 => some v9 else if a1 = (-19) then if a2 = 0 then if a3 = 0 then Option.bind (fX7_truth false) fun v17 => some v17 else Option.bind (fX7_truth true) fun v19 => some v19 else Option.bind (fX7_truth true) fun v15 => some v15 else if a1 = (-18) then if a2 = 0 then if a3 = 0 then Option.bind (fX7_truth false) fun v23 => some v23 else Option.bind (fX7_truth true) fun v25 => some v25 else Option.bind (fX7_truth true) fun v21 => some v21 else if a1 = (-17) then if a2 = 0 then if a3 = 0 then Option.bind (fX7_truth false) fun v29 => some v29 else Option.bind (fX7_truth true) fun v31 => some v31 else Option.bind (fX7_truth true) fun v27 => some v27 else if a1 = (-16) then if a2 = 0 then if a3 = 0 then Option.bind (fX7_truth false) fun v35 => some v35 else Option.bind (fX7_truth true) fun v37 => some v37 else Option.bind (fX7_truth true) fun v33 => some v33 else if a1 = (-15) then if a2 = 0 then Option.bind (fX7_truth false) fun v39 => some v39 else if a3 = 0 then Option.bind (fX7_truth false) fun v41 => some v41 else Option.bind (fX7_truth true) fun v43 => some v43 else if a2 = 0 then if a3 = 0 then Option.bind (fX7_truth false) fun v47 => some v47 else Option.bind (fX7_truth true) fun v49 => some v49 else Option.bind (fX7_truth true) fun v45 => some v45
abbrev rmX7_joined : Room := { frames := 1, cells := 0, slots := 0, locals := 20 }
set_option maxHeartbeats 4000000 in
set_option maxRecDepth 100000 in
theorem kX7_joined {l : Launch} {G : xG} {β : Nat} {D : Nat → Prop} {x : XS} {a1 : Int32} {a2 : Int32} {a3 : Int32} {r : Int32} (hm : fX7_joined a1 a2 a3 = some r) : Met l yX7_joined (.code yX7_joined cX7_joined 3 (some .int) :: GT) rmX7_joined (PcW [.int a1, .int a2, .int a3] (CW β D G x) (KK G)) (QcW D (some (.int r)) (CW β D G x)) 0 0 D := by
  unfold fX7_joined at hm
  refine xpro (own := RX7) (by decide +kernel) rfl (Nat.le_of_ble_eq_true rfl) ?_
  intro p e s m args below meth c C hw ls hl
  have hx := C.1
  have hb := C.2.1
  have ho := C.2.2.2.1
  have hts := C.2.2.2.2.1
  have hS : va_S D s.heap s.heap [] := va_S.rf
  have hl : lv_has ls 3 [(0, .int a1), (1, .int a2), (2, .int a3)] := hl
  have hRf : 1 ≤ rmX7_joined.frames := Nat.le_refl _
  have hRl : 20 ≤ rmX7_joined.locals := Nat.le_refl _
  have hcs : 0 ≤ rmX7_joined.cells ∧ 0 ≤ rmX7_joined.slots := ⟨Nat.le_refl _, Nat.le_refl _⟩
  refine lv_iload_n hx hb dX7_joined_0 rfl (lv_at hl 0 rfl) ?_
  by_cases k0 : a1 = (-25)
  · replace hm := ite_p k0 hm
    refine lv_tableIn (tgt := 86) (off := 85) hx hb dX7_joined_1 (by rw [k0]; decide) (by rw [k0]; decide) (by rw [k0]; rfl) (by decide) ?_
    refine lv_iload_n hx hb dX7_joined_86 rfl (lv_at hl 1 rfl) ?_
    refine lv_iload_n hx hb dX7_joined_87 rfl (lv_at hl 2 rfl) ?_
    refine lv_icmp_ne (tgt := 95) hx hb dX7_joined_88 (by decide) (fun cc => ?_) (fun cc => ?_)
    · replace hm := ite_n cc hm
      refine lv_iconst (v := 0) hx hb dX7_joined_95 (by decide) ?_
      obtain ⟨v1, h2, hm⟩ := bind_e hm
      refine sX7_51 (a1 := false) C h2 hw hS hl.1 (Nat.le_of_ble_eq_true rfl) (Nat.le_trans (Nat.le_of_ble_eq_true rfl) hRf) (Nat.le_trans (Nat.le_of_ble_eq_true rfl) hRl) hcs dX7_joined_96 (fun H locs hw hS => ?_)
      obtain rfl := Option.some.inj hm
      exact xret_i C hw hS dX7_joined_99
    · replace hm := ite_p cc hm
      refine lv_iconst (v := 1) hx hb dX7_joined_91 (by decide) ?_
      refine lv_goto (tgt := 96) hx hb dX7_joined_92 (by decide) ?_
      obtain ⟨v3, h4, hm⟩ := bind_e hm
      refine sX7_51 (a1 := true) C h4 hw hS hl.1 (Nat.le_of_ble_eq_true rfl) (Nat.le_trans (Nat.le_of_ble_eq_true rfl) hRf) (Nat.le_trans (Nat.le_of_ble_eq_true rfl) hRl) hcs dX7_joined_96 (fun H locs hw hS => ?_)
      obtain rfl := Option.some.inj hm
      exact xret_i C hw hS dX7_joined_99
  replace hm := ite_n k0 hm
  by_cases k1 : a1 = (-24)
  · replace hm := ite_p k1 hm
    refine lv_tableIn (tgt := 72) (off := 71) hx hb dX7_joined_1 (by rw [k1]; decide) (by rw [k1]; decide) (by rw [k1]; rfl) (by decide) ?_
    refine lv_iload_n hx hb dX7_joined_72 rfl (lv_at hl 1 rfl) ?_
    refine lv_iload_n hx hb dX7_joined_73 rfl (lv_at hl 2 rfl) ?_
    refine lv_icmp_ge (tgt := 81) hx hb dX7_joined_74 (by decide) (fun cc => ?_) (fun cc => ?_)
    · replace hm := ite_p cc hm
      refine lv_iconst (v := 0) hx hb dX7_joined_81 (by decide) ?_
      obtain ⟨v5, h6, hm⟩ := bind_e hm
      refine sX7_51 (a1 := false) C h6 hw hS hl.1 (Nat.le_of_ble_eq_true rfl) (Nat.le_trans (Nat.le_of_ble_eq_true rfl) hRf) (Nat.le_trans (Nat.le_of_ble_eq_true rfl) hRl) hcs dX7_joined_82 (fun H locs hw hS => ?_)
      obtain rfl := Option.some.inj hm
      exact xret_i C hw hS dX7_joined_85
    · replace hm := ite_n cc hm
      refine lv_iconst (v := 1) hx hb dX7_joined_77 (by decide) ?_
      refine lv_goto (tgt := 82) hx hb dX7_joined_78 (by decide) ?_
      obtain ⟨v7, h8, hm⟩ := bind_e hm
      refine sX7_51 (a1 := true) C h8 hw hS hl.1 (Nat.le_of_ble_eq_true rfl) (Nat.le_trans (Nat.le_of_ble_eq_true rfl) hRf) (Nat.le_trans (Nat.le_of_ble_eq_true rfl) hRl) hcs dX7_joined_82 (fun H locs hw hS => ?_)
      obtain rfl := Option.some.inj hm
      exact xret_i C hw hS dX7_joined_85
  replace hm := ite_n k1 hm
  by_cases k2 : a1 = (-23)
  · replace hm := ite_p k2 hm
    refine lv_tableIn (tgt := 68) (off := 67) hx hb dX7_joined_1 (by rw [k2]; decide) (by rw [k2]; decide) (by rw [k2]; rfl) (by decide) ?_
    refine lv_iload_n hx hb dX7_joined_68 rfl (lv_at hl 1 rfl) ?_
    refine lv_iload_n hx hb dX7_joined_69 rfl (lv_at hl 2 rfl) ?_
    refine lv_imul hx hb dX7_joined_70 ?_
    obtain rfl := Option.some.inj hm
    exact xret_i C hw hS dX7_joined_71
  replace hm := ite_n k2 hm
  by_cases k3 : a1 = (-22)
  · replace hm := ite_p k3 hm
    refine lv_tableIn (tgt := 64) (off := 63) hx hb dX7_joined_1 (by rw [k3]; decide) (by rw [k3]; decide) (by rw [k3]; rfl) (by decide) ?_
    refine lv_iload_n hx hb dX7_joined_64 rfl (lv_at hl 1 rfl) ?_
    refine lv_iload_n hx hb dX7_joined_65 rfl (lv_at hl 2 rfl) ?_
    refine lv_isub hx hb dX7_joined_66 ?_
    obtain rfl := Option.some.inj hm
    exact xret_i C hw hS dX7_joined_67
  replace hm := ite_n k3 hm
  by_cases k4 : a1 = (-21)
  · replace hm := ite_p k4 hm
    refine lv_tableIn (tgt := 60) (off := 59) hx hb dX7_joined_1 (by rw [k4]; decide) (by rw [k4]; decide) (by rw [k4]; rfl) (by decide) ?_
    refine lv_iload_n hx hb dX7_joined_60 rfl (lv_at hl 1 rfl) ?_
    refine lv_iload_n hx hb dX7_joined_61 rfl (lv_at hl 2 rfl) ?_
    refine lv_iadd hx hb dX7_joined_62 ?_
    obtain rfl := Option.some.inj hm
    exact xret_i C hw hS dX7_joined_63
  replace hm := ite_n k4 hm
  by_cases k5 : a1 = (-20)
  · replace hm := ite_p k5 hm
    refine lv_tableIn (tgt := 117) (off := 116) hx hb dX7_joined_1 (by rw [k5]; decide) (by rw [k5]; decide) (by rw [k5]; rfl) (by decide) ?_
    refine lv_iload_n hx hb dX7_joined_117 rfl (lv_at hl 1 rfl) ?_
    refine lv_if_ne (tgt := 125) hx hb dX7_joined_118 (by decide) (fun cc => ?_) (fun cc => ?_)
    · replace hm := ite_n cc hm
      refine lv_iconst (v := 1) hx hb dX7_joined_125 (by decide) ?_
      refine lv_goto (tgt := 130) hx hb dX7_joined_126 (by decide) ?_
      obtain ⟨v9, h10, hm⟩ := bind_e hm
      refine sX7_51 (a1 := true) C h10 hw hS hl.1 (Nat.le_of_ble_eq_true rfl) (Nat.le_trans (Nat.le_of_ble_eq_true rfl) hRf) (Nat.le_trans (Nat.le_of_ble_eq_true rfl) hRl) hcs dX7_joined_130 (fun H locs hw hS => ?_)
      obtain rfl := Option.some.inj hm
      exact xret_i C hw hS dX7_joined_133
    · replace hm := ite_p cc hm
      refine lv_iload_n hx hb dX7_joined_121 rfl (lv_at hl 2 rfl) ?_
      refine lv_if_eq (tgt := 129) hx hb dX7_joined_122 (by decide) (fun cc => ?_) (fun cc => ?_)
      · replace hm := ite_p cc hm
        refine lv_iconst (v := 0) hx hb dX7_joined_129 (by decide) ?_
        obtain ⟨v11, h12, hm⟩ := bind_e hm
        refine sX7_51 (a1 := false) C h12 hw hS hl.1 (Nat.le_of_ble_eq_true rfl) (Nat.le_trans (Nat.le_of_ble_eq_true rfl) hRf) (Nat.le_trans (Nat.le_of_ble_eq_true rfl) hRl) hcs dX7_joined_130 (fun H locs hw hS => ?_)
        obtain rfl := Option.some.inj hm
        exact xret_i C hw hS dX7_joined_133
      · replace hm := ite_n cc hm
        refine lv_iconst (v := 1) hx hb dX7_joined_125 (by decide) ?_
        refine lv_goto (tgt := 130) hx hb dX7_joined_126 (by decide) ?_
        obtain ⟨v13, h14, hm⟩ := bind_e hm
        refine sX7_51 (a1 := true) C h14 hw hS hl.1 (Nat.le_of_ble_eq_true rfl) (Nat.le_trans (Nat.le_of_ble_eq_true rfl) hRf) (Nat.le_trans (Nat.le_of_ble_eq_true rfl) hRl) hcs dX7_joined_130 (fun H locs hw hS => ?_)
        obtain rfl := Option.some.inj hm
        exact xret_i C hw hS dX7_joined_133
  replace hm := ite_n k5 hm
  by_cases k6 : a1 = (-19)
  · replace hm := ite_p k6 hm
    refine lv_tableIn (tgt := 117) (off := 116) hx hb dX7_joined_1 (by rw [k6]; decide) (by rw [k6]; decide) (by rw [k6]; rfl) (by decide) ?_
    refine lv_iload_n hx hb dX7_joined_117 rfl (lv_at hl 1 rfl) ?_
    refine lv_if_ne (tgt := 125) hx hb dX7_joined_118 (by decide) (fun cc => ?_) (fun cc => ?_)
    · replace hm := ite_n cc hm
      refine lv_iconst (v := 1) hx hb dX7_joined_125 (by decide) ?_
      refine lv_goto (tgt := 130) hx hb dX7_joined_126 (by decide) ?_
      obtain ⟨v15, h16, hm⟩ := bind_e hm
      refine sX7_51 (a1 := true) C h16 hw hS hl.1 (Nat.le_of_ble_eq_true rfl) (Nat.le_trans (Nat.le_of_ble_eq_true rfl) hRf) (Nat.le_trans (Nat.le_of_ble_eq_true rfl) hRl) hcs dX7_joined_130 (fun H locs hw hS => ?_)
      obtain rfl := Option.some.inj hm
      exact xret_i C hw hS dX7_joined_133
    · replace hm := ite_p cc hm
      refine lv_iload_n hx hb dX7_joined_121 rfl (lv_at hl 2 rfl) ?_
      refine lv_if_eq (tgt := 129) hx hb dX7_joined_122 (by decide) (fun cc => ?_) (fun cc => ?_)
      · replace hm := ite_p cc hm
        refine lv_iconst (v := 0) hx hb dX7_joined_129 (by decide) ?_
        obtain ⟨v17, h18, hm⟩ := bind_e hm
        refine sX7_51 (a1 := false) C h18 hw hS hl.1 (Nat.le_of_ble_eq_true rfl) (Nat.le_trans (Nat.le_of_ble_eq_true rfl) hRf) (Nat.le_trans (Nat.le_of_ble_eq_true rfl) hRl) hcs dX7_joined_130 (fun H locs hw hS => ?_)
        obtain rfl := Option.some.inj hm
        exact xret_i C hw hS dX7_joined_133
      · replace hm := ite_n cc hm
        refine lv_iconst (v := 1) hx hb dX7_joined_125 (by decide) ?_
        refine lv_goto (tgt := 130) hx hb dX7_joined_126 (by decide) ?_
        obtain ⟨v19, h20, hm⟩ := bind_e hm
        refine sX7_51 (a1 := true) C h20 hw hS hl.1 (Nat.le_of_ble_eq_true rfl) (Nat.le_trans (Nat.le_of_ble_eq_true rfl) hRf) (Nat.le_trans (Nat.le_of_ble_eq_true rfl) hRl) hcs dX7_joined_130 (fun H locs hw hS => ?_)
        obtain rfl := Option.some.inj hm
        exact xret_i C hw hS dX7_joined_133
  replace hm := ite_n k6 hm
  by_cases k7 : a1 = (-18)
  · replace hm := ite_p k7 hm
    refine lv_tableIn (tgt := 117) (off := 116) hx hb dX7_joined_1 (by rw [k7]; decide) (by rw [k7]; decide) (by rw [k7]; rfl) (by decide) ?_
    refine lv_iload_n hx hb dX7_joined_117 rfl (lv_at hl 1 rfl) ?_
    refine lv_if_ne (tgt := 125) hx hb dX7_joined_118 (by decide) (fun cc => ?_) (fun cc => ?_)
    · replace hm := ite_n cc hm
      refine lv_iconst (v := 1) hx hb dX7_joined_125 (by decide) ?_
      refine lv_goto (tgt := 130) hx hb dX7_joined_126 (by decide) ?_
      obtain ⟨v21, h22, hm⟩ := bind_e hm
      refine sX7_51 (a1 := true) C h22 hw hS hl.1 (Nat.le_of_ble_eq_true rfl) (Nat.le_trans (Nat.le_of_ble_eq_true rfl) hRf) (Nat.le_trans (Nat.le_of_ble_eq_true rfl) hRl) hcs dX7_joined_130 (fun H locs hw hS => ?_)
      obtain rfl := Option.some.inj hm
      exact xret_i C hw hS dX7_joined_133
    · replace hm := ite_p cc hm
      refine lv_iload_n hx hb dX7_joined_121 rfl (lv_at hl 2 rfl) ?_
      refine lv_if_eq (tgt := 129) hx hb dX7_joined_122 (by decide) (fun cc => ?_) (fun cc => ?_)
      · replace hm := ite_p cc hm
        refine lv_iconst (v := 0) hx hb dX7_joined_129 (by decide) ?_
        obtain ⟨v23, h24, hm⟩ := bind_e hm
        refine sX7_51 (a1 := false) C h24 hw hS hl.1 (Nat.le_of_ble_eq_true rfl) (Nat.le_trans (Nat.le_of_ble_eq_true rfl) hRf) (Nat.le_trans (Nat.le_of_ble_eq_true rfl) hRl) hcs dX7_joined_130 (fun H locs hw hS => ?_)
        obtain rfl := Option.some.inj hm
        exact xret_i C hw hS dX7_joined_133
      · replace hm := ite_n cc hm
        refine lv_iconst (v := 1) hx hb dX7_joined_125 (by decide) ?_
        refine lv_goto (tgt := 130) hx hb dX7_joined_126 (by decide) ?_
        obtain ⟨v25, h26, hm⟩ := bind_e hm
        refine sX7_51 (a1 := true) C h26 hw hS hl.1 (Nat.le_of_ble_eq_true rfl) (Nat.le_trans (Nat.le_of_ble_eq_true rfl) hRf) (Nat.le_trans (Nat.le_of_ble_eq_true rfl) hRl) hcs dX7_joined_130 (fun H locs hw hS => ?_)
        obtain rfl := Option.some.inj hm
        exact xret_i C hw hS dX7_joined_133
  replace hm := ite_n k7 hm
  by_cases k8 : a1 = (-17)
  · replace hm := ite_p k8 hm
    refine lv_tableIn (tgt := 117) (off := 116) hx hb dX7_joined_1 (by rw [k8]; decide) (by rw [k8]; decide) (by rw [k8]; rfl) (by decide) ?_
    refine lv_iload_n hx hb dX7_joined_117 rfl (lv_at hl 1 rfl) ?_
    refine lv_if_ne (tgt := 125) hx hb dX7_joined_118 (by decide) (fun cc => ?_) (fun cc => ?_)
    · replace hm := ite_n cc hm
      refine lv_iconst (v := 1) hx hb dX7_joined_125 (by decide) ?_
      refine lv_goto (tgt := 130) hx hb dX7_joined_126 (by decide) ?_
      obtain ⟨v27, h28, hm⟩ := bind_e hm
      refine sX7_51 (a1 := true) C h28 hw hS hl.1 (Nat.le_of_ble_eq_true rfl) (Nat.le_trans (Nat.le_of_ble_eq_true rfl) hRf) (Nat.le_trans (Nat.le_of_ble_eq_true rfl) hRl) hcs dX7_joined_130 (fun H locs hw hS => ?_)
      obtain rfl := Option.some.inj hm
      exact xret_i C hw hS dX7_joined_133
    · replace hm := ite_p cc hm
      refine lv_iload_n hx hb dX7_joined_121 rfl (lv_at hl 2 rfl) ?_
      refine lv_if_eq (tgt := 129) hx hb dX7_joined_122 (by decide) (fun cc => ?_) (fun cc => ?_)
      · replace hm := ite_p cc hm
        refine lv_iconst (v := 0) hx hb dX7_joined_129 (by decide) ?_
        obtain ⟨v29, h30, hm⟩ := bind_e hm
        refine sX7_51 (a1 := false) C h30 hw hS hl.1 (Nat.le_of_ble_eq_true rfl) (Nat.le_trans (Nat.le_of_ble_eq_true rfl) hRf) (Nat.le_trans (Nat.le_of_ble_eq_true rfl) hRl) hcs dX7_joined_130 (fun H locs hw hS => ?_)
        obtain rfl := Option.some.inj hm
        exact xret_i C hw hS dX7_joined_133
      · replace hm := ite_n cc hm
        refine lv_iconst (v := 1) hx hb dX7_joined_125 (by decide) ?_
        refine lv_goto (tgt := 130) hx hb dX7_joined_126 (by decide) ?_
        obtain ⟨v31, h32, hm⟩ := bind_e hm
        refine sX7_51 (a1 := true) C h32 hw hS hl.1 (Nat.le_of_ble_eq_true rfl) (Nat.le_trans (Nat.le_of_ble_eq_true rfl) hRf) (Nat.le_trans (Nat.le_of_ble_eq_true rfl) hRl) hcs dX7_joined_130 (fun H locs hw hS => ?_)
        obtain rfl := Option.some.inj hm
        exact xret_i C hw hS dX7_joined_133
  replace hm := ite_n k8 hm
  by_cases k9 : a1 = (-16)
  · replace hm := ite_p k9 hm
    refine lv_tableIn (tgt := 117) (off := 116) hx hb dX7_joined_1 (by rw [k9]; decide) (by rw [k9]; decide) (by rw [k9]; rfl) (by decide) ?_
    refine lv_iload_n hx hb dX7_joined_117 rfl (lv_at hl 1 rfl) ?_
    refine lv_if_ne (tgt := 125) hx hb dX7_joined_118 (by decide) (fun cc => ?_) (fun cc => ?_)
    · replace hm := ite_n cc hm
      refine lv_iconst (v := 1) hx hb dX7_joined_125 (by decide) ?_
      refine lv_goto (tgt := 130) hx hb dX7_joined_126 (by decide) ?_
      obtain ⟨v33, h34, hm⟩ := bind_e hm
      refine sX7_51 (a1 := true) C h34 hw hS hl.1 (Nat.le_of_ble_eq_true rfl) (Nat.le_trans (Nat.le_of_ble_eq_true rfl) hRf) (Nat.le_trans (Nat.le_of_ble_eq_true rfl) hRl) hcs dX7_joined_130 (fun H locs hw hS => ?_)
      obtain rfl := Option.some.inj hm
      exact xret_i C hw hS dX7_joined_133
    · replace hm := ite_p cc hm
      refine lv_iload_n hx hb dX7_joined_121 rfl (lv_at hl 2 rfl) ?_
      refine lv_if_eq (tgt := 129) hx hb dX7_joined_122 (by decide) (fun cc => ?_) (fun cc => ?_)
      · replace hm := ite_p cc hm
        refine lv_iconst (v := 0) hx hb dX7_joined_129 (by decide) ?_
        obtain ⟨v35, h36, hm⟩ := bind_e hm
        refine sX7_51 (a1 := false) C h36 hw hS hl.1 (Nat.le_of_ble_eq_true rfl) (Nat.le_trans (Nat.le_of_ble_eq_true rfl) hRf) (Nat.le_trans (Nat.le_of_ble_eq_true rfl) hRl) hcs dX7_joined_130 (fun H locs hw hS => ?_)
        obtain rfl := Option.some.inj hm
        exact xret_i C hw hS dX7_joined_133
      · replace hm := ite_n cc hm
        refine lv_iconst (v := 1) hx hb dX7_joined_125 (by decide) ?_
        refine lv_goto (tgt := 130) hx hb dX7_joined_126 (by decide) ?_
        obtain ⟨v37, h38, hm⟩ := bind_e hm
        refine sX7_51 (a1 := true) C h38 hw hS hl.1 (Nat.le_of_ble_eq_true rfl) (Nat.le_trans (Nat.le_of_ble_eq_true rfl) hRf) (Nat.le_trans (Nat.le_of_ble_eq_true rfl) hRl) hcs dX7_joined_130 (fun H locs hw hS => ?_)
        obtain rfl := Option.some.inj hm
        exact xret_i C hw hS dX7_joined_133
  replace hm := ite_n k9 hm
  by_cases k10 : a1 = (-15)
  · replace hm := ite_p k10 hm
    refine lv_tableIn (tgt := 100) (off := 99) hx hb dX7_joined_1 (by rw [k10]; decide) (by rw [k10]; decide) (by rw [k10]; rfl) (by decide) ?_
    refine lv_iload_n hx hb dX7_joined_100 rfl (lv_at hl 1 rfl) ?_
    refine lv_if_eq (tgt := 112) hx hb dX7_joined_101 (by decide) (fun cc => ?_) (fun cc => ?_)
    · replace hm := ite_p cc hm
      refine lv_iconst (v := 0) hx hb dX7_joined_112 (by decide) ?_
      obtain ⟨v39, h40, hm⟩ := bind_e hm
      refine sX7_51 (a1 := false) C h40 hw hS hl.1 (Nat.le_of_ble_eq_true rfl) (Nat.le_trans (Nat.le_of_ble_eq_true rfl) hRf) (Nat.le_trans (Nat.le_of_ble_eq_true rfl) hRl) hcs dX7_joined_113 (fun H locs hw hS => ?_)
      obtain rfl := Option.some.inj hm
      exact xret_i C hw hS dX7_joined_116
    · replace hm := ite_n cc hm
      refine lv_iload_n hx hb dX7_joined_104 rfl (lv_at hl 2 rfl) ?_
      refine lv_if_eq (tgt := 112) hx hb dX7_joined_105 (by decide) (fun cc => ?_) (fun cc => ?_)
      · replace hm := ite_p cc hm
        refine lv_iconst (v := 0) hx hb dX7_joined_112 (by decide) ?_
        obtain ⟨v41, h42, hm⟩ := bind_e hm
        refine sX7_51 (a1 := false) C h42 hw hS hl.1 (Nat.le_of_ble_eq_true rfl) (Nat.le_trans (Nat.le_of_ble_eq_true rfl) hRf) (Nat.le_trans (Nat.le_of_ble_eq_true rfl) hRl) hcs dX7_joined_113 (fun H locs hw hS => ?_)
        obtain rfl := Option.some.inj hm
        exact xret_i C hw hS dX7_joined_116
      · replace hm := ite_n cc hm
        refine lv_iconst (v := 1) hx hb dX7_joined_108 (by decide) ?_
        refine lv_goto (tgt := 113) hx hb dX7_joined_109 (by decide) ?_
        obtain ⟨v43, h44, hm⟩ := bind_e hm
        refine sX7_51 (a1 := true) C h44 hw hS hl.1 (Nat.le_of_ble_eq_true rfl) (Nat.le_trans (Nat.le_of_ble_eq_true rfl) hRf) (Nat.le_trans (Nat.le_of_ble_eq_true rfl) hRl) hcs dX7_joined_113 (fun H locs hw hS => ?_)
        obtain rfl := Option.some.inj hm
        exact xret_i C hw hS dX7_joined_116
  replace hm := ite_n k10 hm
  have k0i := lv_neT k0 (a := (-25)) (by decide)
  have k1i := lv_neT k1 (a := (-24)) (by decide)
  have k2i := lv_neT k2 (a := (-23)) (by decide)
  have k3i := lv_neT k3 (a := (-22)) (by decide)
  have k4i := lv_neT k4 (a := (-21)) (by decide)
  have k5i := lv_neT k5 (a := (-20)) (by decide)
  have k6i := lv_neT k6 (a := (-19)) (by decide)
  have k7i := lv_neT k7 (a := (-18)) (by decide)
  have k8i := lv_neT k8 (a := (-17)) (by decide)
  have k9i := lv_neT k9 (a := (-16)) (by decide)
  have k10i := lv_neT k10 (a := (-15)) (by decide)
  refine lv_tableOut (tgt := 117) hx hb dX7_joined_1 (by omega) (by decide) ?_
  refine lv_iload_n hx hb dX7_joined_117 rfl (lv_at hl 1 rfl) ?_
  refine lv_if_ne (tgt := 125) hx hb dX7_joined_118 (by decide) (fun cc => ?_) (fun cc => ?_)
  · replace hm := ite_n cc hm
    refine lv_iconst (v := 1) hx hb dX7_joined_125 (by decide) ?_
    refine lv_goto (tgt := 130) hx hb dX7_joined_126 (by decide) ?_
    obtain ⟨v45, h46, hm⟩ := bind_e hm
    refine sX7_51 (a1 := true) C h46 hw hS hl.1 (Nat.le_of_ble_eq_true rfl) (Nat.le_trans (Nat.le_of_ble_eq_true rfl) hRf) (Nat.le_trans (Nat.le_of_ble_eq_true rfl) hRl) hcs dX7_joined_130 (fun H locs hw hS => ?_)
    obtain rfl := Option.some.inj hm
    exact xret_i C hw hS dX7_joined_133
  · replace hm := ite_p cc hm
    refine lv_iload_n hx hb dX7_joined_121 rfl (lv_at hl 2 rfl) ?_
    refine lv_if_eq (tgt := 129) hx hb dX7_joined_122 (by decide) (fun cc => ?_) (fun cc => ?_)
    · replace hm := ite_p cc hm
      refine lv_iconst (v := 0) hx hb dX7_joined_129 (by decide) ?_
      obtain ⟨v47, h48, hm⟩ := bind_e hm
      refine sX7_51 (a1 := false) C h48 hw hS hl.1 (Nat.le_of_ble_eq_true rfl) (Nat.le_trans (Nat.le_of_ble_eq_true rfl) hRf) (Nat.le_trans (Nat.le_of_ble_eq_true rfl) hRl) hcs dX7_joined_130 (fun H locs hw hS => ?_)
      obtain rfl := Option.some.inj hm
      exact xret_i C hw hS dX7_joined_133
    · replace hm := ite_n cc hm
      refine lv_iconst (v := 1) hx hb dX7_joined_125 (by decide) ?_
      refine lv_goto (tgt := 130) hx hb dX7_joined_126 (by decide) ?_
      obtain ⟨v49, h50, hm⟩ := bind_e hm
      refine sX7_51 (a1 := true) C h50 hw hS hl.1 (Nat.le_of_ble_eq_true rfl) (Nat.le_trans (Nat.le_of_ble_eq_true rfl) hRf) (Nat.le_trans (Nat.le_of_ble_eq_true rfl) hRl) hcs dX7_joined_130 (fun H locs hw hS => ?_)
      obtain rfl := Option.some.inj hm
      exact xret_i C hw hS dX7_joined_133
theorem dX7_pop_0 : decode cX7_pop 0 = .ok (.aload_n 0, 1) := by decide +kernel
theorem dX7_pop_1 : decode cX7_pop 1 = .ok (.getfield 18, 3) := by decide +kernel
theorem dX7_pop_4 : decode cX7_pop 4 = .ok (.iconst 1, 1) := by decide +kernel
theorem dX7_pop_5 : decode cX7_pop 5 = .ok (.if_icmp .ge 5, 3) := by decide +kernel
theorem dX7_pop_8 : decode cX7_pop 8 = .ok (.iconst 0, 1) := by decide +kernel
theorem dX7_pop_9 : decode cX7_pop 9 = .ok (.ireturn, 1) := by decide +kernel
theorem dX7_pop_10 : decode cX7_pop 10 = .ok (.aload_n 0, 1) := by decide +kernel
theorem dX7_pop_11 : decode cX7_pop 11 = .ok (.dup, 1) := by decide +kernel
theorem dX7_pop_12 : decode cX7_pop 12 = .ok (.getfield 18, 3) := by decide +kernel
theorem dX7_pop_15 : decode cX7_pop 15 = .ok (.iconst 1, 1) := by decide +kernel
theorem dX7_pop_16 : decode cX7_pop 16 = .ok (.isub, 1) := by decide +kernel
theorem dX7_pop_17 : decode cX7_pop 17 = .ok (.putfield 18, 3) := by decide +kernel
theorem dX7_pop_20 : decode cX7_pop 20 = .ok (.aload_n 0, 1) := by decide +kernel
theorem dX7_pop_21 : decode cX7_pop 21 = .ok (.getfield 15, 3) := by decide +kernel
theorem dX7_pop_24 : decode cX7_pop 24 = .ok (.aload_n 0, 1) := by decide +kernel
theorem dX7_pop_25 : decode cX7_pop 25 = .ok (.getfield 18, 3) := by decide +kernel
theorem dX7_pop_28 : decode cX7_pop 28 = .ok (.iaload, 1) := by decide +kernel
theorem dX7_pop_29 : decode cX7_pop 29 = .ok (.ireturn, 1) := by decide +kernel
theorem iwX7 : ∀ w ∈ u_ws RX7 TX7 4, w ∈ GT := in_tb [333, 335, 337, 339] (by decide +kernel) (by decide +kernel)
theorem gdX7_18 {p : Program} {l : Launch} {e : Env} {R : Room} {s : State} {m : MethodId} {args : Array Value} {below : List Frame} {meth : Method} {c : Code} {H : Heap} {locs : List Loc} {cells slots : Nat} {Q : State → Prop} {cc : ByteArray} {pc nL : Nat} {ls : Array Slot} {rest : List Value} {ret : Option FieldType}  {G : xG} {β : Nat} {D : Nat → Prop} {x : XS} {a : Nat} {v : Int32} (C : Cx p s m args meth c RX7 cc nL ret (KK G)) (h : dI x a 7 3 = some v) (hw : CW β D G x H) (hd : decode cc pc = .ok (.getfield 18, 3)) (kk : W p l e R s m args below meth c H locs cells slots Q (F0 m (pc + 3) ls (.int v :: rest))) : W p l e R s m args below meth c H locs cells slots Q (F0 m pc ls (.ref a :: rest)) := by
  obtain ⟨fs, h1, h2⟩ := dI_e h
  exact va_get (ci := 7) (fs := fs) C.1 C.2.1 C.2.2.2.2.1 iwX7 C.2.2.2.1 C.K.1 (xP1 (hw.2.2.2.1 a _ h1).2.2.2) 0 rfl rfl 3 (by decide) (C.2.2.2.2.1 (.fieldLink RX7 18 RX7 "depth" "I") (tg 332 (by decide +kernel) rfl)) (fun _ h9 => h9) h2 hd kk
theorem pdX7_18 {p : Program} {l : Launch} {e : Env} {R : Room} {s : State} {m : MethodId} {args : Array Value} {below : List Frame} {meth : Method} {c : Code} {H : Heap} {locs : List Loc} {cells slots : Nat} {Q : State → Prop} {cc : ByteArray} {pc nL : Nat} {ls : Array Slot} {rest : List Value} {ret : Option FieldType}  {G : xG} {β : Nat} {D : Nat → Prop} {x x' : XS} {a : Nat} {v : Int32} (C : Cx p s m args meth c RX7 cc nL ret (KK G)) (h : dPut x a 7 3 (.int v) = some x') (hw : CW β D G x H) (hS : va_S D s.heap H locs) (hd : decode cc pc = .ok (.putfield 18, 3)) (kk : ∀ (H1 : Heap) (locs1 : List Loc), CW β D G x' H1 → va_S D s.heap H1 locs1 → W p l e R s m args below meth c H1 locs1 cells slots Q (F0 m (pc + 3) ls (rest))) : W p l e R s m args below meth c H locs cells slots Q (F0 m pc ls (.int v :: .ref a :: rest)) := by
  obtain ⟨fs, h1, h2, rfl⟩ := dPut_e h
  exact x_put (ci := 7) (fs := fs) C.1 C.2.1 C.2.2.2.2.1 iwX7 tyX7 tyX7_ok nmX7 C.2.2.2.1 C.K.1 hS (hw.2.2.2.1 a _ h1).2.2.2 (hw.2.2.2.1 a _ h1).1 rfl 3 (by decide) (C.2.2.2.2.1 (.fieldLink RX7 18 RX7 "depth" "I") (tg 332 (by decide +kernel) rfl)) (fun _ h9 => h9) rfl (ty := .int) (by decide +kernel) rfl rfl h2 hd (fun H1 locs1 hat ho hS => kk H1 locs1 (hw.setD h1 hat ho) hS)
theorem gdX7_15 {p : Program} {l : Launch} {e : Env} {R : Room} {s : State} {m : MethodId} {args : Array Value} {below : List Frame} {meth : Method} {c : Code} {H : Heap} {locs : List Loc} {cells slots : Nat} {Q : State → Prop} {cc : ByteArray} {pc nL : Nat} {ls : Array Slot} {rest : List Value} {ret : Option FieldType}  {G : xG} {β : Nat} {D : Nat → Prop} {x : XS} {a : Nat} {v : Nat} (C : Cx p s m args meth c RX7 cc nL ret (KK G)) (h : dP x a 7 2 = some v) (hw : CW β D G x H) (hd : decode cc pc = .ok (.getfield 15, 3)) (kk : W p l e R s m args below meth c H locs cells slots Q (F0 m (pc + 3) ls (.ref v :: rest))) : W p l e R s m args below meth c H locs cells slots Q (F0 m pc ls (.ref a :: rest)) := by
  obtain ⟨fs, h1, h2⟩ := dP_e h
  exact va_get (ci := 7) (fs := fs) C.1 C.2.1 C.2.2.2.2.1 iwX7 C.2.2.2.1 C.K.1 (xP1 (hw.2.2.2.1 a _ h1).2.2.2) 0 rfl rfl 2 (by decide) (C.2.2.2.2.1 (.fieldLink RX7 15 RX7 "waiting" "[I") (tg 331 (by decide +kernel) rfl)) (fun _ h9 => h9) h2 hd kk
def fX7_pop (x : XS) (a0 : Nat) : Option (Int32 × XS) := Option.bind (dI x a0 7 3) fun v1 => if 1 ≤ v1 then Option.bind (dI x a0 7 3) fun v3 => Option.bind (dPut x a0 7 3 (.int (v3 - 1))) fun x5 => Option.bind (dP x5 a0 7 2) fun v7 => Option.bind (dI x5 a0 7 3) fun v9 => Option.bind (dA x5 v7 v9) fun v11 => some (v11, x5) else some (0, x)
abbrev rmX7_pop : Room := { frames := 0, cells := 0, slots := 0, locals := 0 }
set_option maxHeartbeats 4000000 in
set_option maxRecDepth 100000 in
theorem kX7_pop {l : Launch} {G : xG} {β : Nat} {D : Nat → Prop} {x x' : XS} {a0 : Nat} {r : Int32} (hm : fX7_pop x a0 = some (r, x')) : Met l yX7_pop (.code yX7_pop cX7_pop 1 (some .int) :: GT) rmX7_pop (PcW [.ref a0] (CW β D G x) (KK G)) (QcW D (some (.int r)) (CW β D G x')) 0 0 D := by
  unfold fX7_pop at hm
  refine xpro (own := RX7) (by decide +kernel) rfl (Nat.le_of_ble_eq_true rfl) ?_
  intro p e s m args below meth c C hw ls hl
  have hx := C.1
  have hb := C.2.1
  have ho := C.2.2.2.1
  have hts := C.2.2.2.2.1
  have hS : va_S D s.heap s.heap [] := va_S.rf
  have hl : lv_has ls 1 [(0, .ref a0)] := hl
  have hRf : 0 ≤ rmX7_pop.frames := Nat.le_refl _
  have hRl : 0 ≤ rmX7_pop.locals := Nat.le_refl _
  have hcs : 0 ≤ rmX7_pop.cells ∧ 0 ≤ rmX7_pop.slots := ⟨Nat.le_refl _, Nat.le_refl _⟩
  refine lv_aload_n hx hb dX7_pop_0 rfl (lv_at hl 0 rfl) ?_
  obtain ⟨v1, h2, hm⟩ := bind_e hm
  refine gdX7_18 C h2 hw dX7_pop_1 ?_
  refine lv_iconst (v := 1) hx hb dX7_pop_4 (by decide) ?_
  refine lv_icmp_ge (tgt := 10) hx hb dX7_pop_5 (by decide) (fun cc => ?_) (fun cc => ?_)
  · replace hm := ite_p cc hm
    refine lv_aload_n hx hb dX7_pop_10 rfl (lv_at hl 0 rfl) ?_
    refine lv_dup hx hb dX7_pop_11 rfl ?_
    obtain ⟨v3, h4, hm⟩ := bind_e hm
    refine gdX7_18 C h4 hw dX7_pop_12 ?_
    refine lv_iconst (v := 1) hx hb dX7_pop_15 (by decide) ?_
    refine lv_isub hx hb dX7_pop_16 ?_
    obtain ⟨x5, h6, hm⟩ := bind_e hm
    refine pdX7_18 C h6 hw hS dX7_pop_17 (fun H locs hw hS => ?_)
    refine lv_aload_n hx hb dX7_pop_20 rfl (lv_at hl 0 rfl) ?_
    obtain ⟨v7, h8, hm⟩ := bind_e hm
    refine gdX7_15 C h8 hw dX7_pop_21 ?_
    refine lv_aload_n hx hb dX7_pop_24 rfl (lv_at hl 0 rfl) ?_
    obtain ⟨v9, h10, hm⟩ := bind_e hm
    refine gdX7_18 C h10 hw dX7_pop_25 ?_
    obtain ⟨v11, h12, hm⟩ := bind_e hm
    refine x_dald C h12 hw dX7_pop_28 ?_
    obtain ⟨rfl, rfl⟩ := inj2 hm
    exact xret_i C hw hS dX7_pop_29
  · replace hm := ite_n cc hm
    refine lv_iconst (v := 0) hx hb dX7_pop_8 (by decide) ?_
    obtain ⟨rfl, rfl⟩ := inj2 hm
    exact xret_i C hw hS dX7_pop_9
theorem dX7_push_0 : decode cX7_push 0 = .ok (.aload_n 0, 1) := by decide +kernel
theorem dX7_push_1 : decode cX7_push 1 = .ok (.getfield 18, 3) := by decide +kernel
theorem dX7_push_4 : decode cX7_push 4 = .ok (.aload_n 0, 1) := by decide +kernel
theorem dX7_push_5 : decode cX7_push 5 = .ok (.getfield 15, 3) := by decide +kernel
theorem dX7_push_8 : decode cX7_push 8 = .ok (.arraylength, 1) := by decide +kernel
theorem dX7_push_9 : decode cX7_push 9 = .ok (.if_icmp .ge 23, 3) := by decide +kernel
theorem dX7_push_12 : decode cX7_push 12 = .ok (.aload_n 0, 1) := by decide +kernel
theorem dX7_push_13 : decode cX7_push 13 = .ok (.getfield 15, 3) := by decide +kernel
theorem dX7_push_16 : decode cX7_push 16 = .ok (.aload_n 0, 1) := by decide +kernel
theorem dX7_push_17 : decode cX7_push 17 = .ok (.getfield 18, 3) := by decide +kernel
theorem dX7_push_20 : decode cX7_push 20 = .ok (.iload_n 1, 1) := by decide +kernel
theorem dX7_push_21 : decode cX7_push 21 = .ok (.iastore, 1) := by decide +kernel
theorem dX7_push_22 : decode cX7_push 22 = .ok (.aload_n 0, 1) := by decide +kernel
theorem dX7_push_23 : decode cX7_push 23 = .ok (.dup, 1) := by decide +kernel
theorem dX7_push_24 : decode cX7_push 24 = .ok (.getfield 18, 3) := by decide +kernel
theorem dX7_push_27 : decode cX7_push 27 = .ok (.iconst 1, 1) := by decide +kernel
theorem dX7_push_28 : decode cX7_push 28 = .ok (.iadd, 1) := by decide +kernel
theorem dX7_push_29 : decode cX7_push 29 = .ok (.putfield 18, 3) := by decide +kernel
theorem dX7_push_32 : decode cX7_push 32 = .ok (.return_, 1) := by decide +kernel
def fX7_push (x : XS) (a0 : Nat) (a1 : Int32) : Option (XS) := Option.bind (dI x a0 7 3) fun v1 => Option.bind (dP x a0 7 2) fun v3 => Option.bind (dLen x v3) fun v5 => if v5 ≤ v1 then some x else Option.bind (dP x a0 7 2) fun v7 => Option.bind (dI x a0 7 3) fun v9 => Option.bind (dAs x v7 v9 a1) fun x11 => Option.bind (dI x11 a0 7 3) fun v13 => Option.bind (dPut x11 a0 7 3 (.int (v13 + 1))) fun x15 => some x15
abbrev rmX7_push : Room := { frames := 0, cells := 0, slots := 0, locals := 0 }
set_option maxHeartbeats 4000000 in
set_option maxRecDepth 100000 in
theorem kX7_push {l : Launch} {G : xG} {β : Nat} {D : Nat → Prop} {x x' : XS} {a0 : Nat} {a1 : Int32} (hm : fX7_push x a0 a1 = some x') : Met l yX7_push (.code yX7_push cX7_push 2 none :: GT) rmX7_push (PcW [.ref a0, .int a1] (CW β D G x) (KK G)) (QcW D none (CW β D G x')) 0 0 D := by
  unfold fX7_push at hm
  refine xpro (own := RX7) (by decide +kernel) rfl (Nat.le_of_ble_eq_true rfl) ?_
  intro p e s m args below meth c C hw ls hl
  have hx := C.1
  have hb := C.2.1
  have ho := C.2.2.2.1
  have hts := C.2.2.2.2.1
  have hS : va_S D s.heap s.heap [] := va_S.rf
  have hl : lv_has ls 2 [(0, .ref a0), (1, .int a1)] := hl
  have hRf : 0 ≤ rmX7_push.frames := Nat.le_refl _
  have hRl : 0 ≤ rmX7_push.locals := Nat.le_refl _
  have hcs : 0 ≤ rmX7_push.cells ∧ 0 ≤ rmX7_push.slots := ⟨Nat.le_refl _, Nat.le_refl _⟩
  refine lv_aload_n hx hb dX7_push_0 rfl (lv_at hl 0 rfl) ?_
  obtain ⟨v1, h2, hm⟩ := bind_e hm
  refine gdX7_18 C h2 hw dX7_push_1 ?_
  refine lv_aload_n hx hb dX7_push_4 rfl (lv_at hl 0 rfl) ?_
  obtain ⟨v3, h4, hm⟩ := bind_e hm
  refine gdX7_15 C h4 hw dX7_push_5 ?_
  obtain ⟨v5, h6, hm⟩ := bind_e hm
  refine x_dlen C h6 hw dX7_push_8 ?_
  refine lv_icmp_ge (tgt := 32) hx hb dX7_push_9 (by decide) (fun cc => ?_) (fun cc => ?_)
  · replace hm := ite_p cc hm
    obtain rfl := Option.some.inj hm
    exact xret_v C hw hS dX7_push_32
  · replace hm := ite_n cc hm
    refine lv_aload_n hx hb dX7_push_12 rfl (lv_at hl 0 rfl) ?_
    obtain ⟨v7, h8, hm⟩ := bind_e hm
    refine gdX7_15 C h8 hw dX7_push_13 ?_
    refine lv_aload_n hx hb dX7_push_16 rfl (lv_at hl 0 rfl) ?_
    obtain ⟨v9, h10, hm⟩ := bind_e hm
    refine gdX7_18 C h10 hw dX7_push_17 ?_
    refine lv_iload_n hx hb dX7_push_20 rfl (lv_at hl 1 rfl) ?_
    obtain ⟨x11, h12, hm⟩ := bind_e hm
    refine x_dast C h12 hw hS dX7_push_21 (fun H locs hw hS => ?_)
    refine lv_aload_n hx hb dX7_push_22 rfl (lv_at hl 0 rfl) ?_
    refine lv_dup hx hb dX7_push_23 rfl ?_
    obtain ⟨v13, h14, hm⟩ := bind_e hm
    refine gdX7_18 C h14 hw dX7_push_24 ?_
    refine lv_iconst (v := 1) hx hb dX7_push_27 (by decide) ?_
    refine lv_iadd hx hb dX7_push_28 ?_
    obtain ⟨x15, h16, hm⟩ := bind_e hm
    refine pdX7_18 C h16 hw hS dX7_push_29 (fun H locs hw hS => ?_)
    obtain rfl := Option.some.inj hm
    exact xret_v C hw hS dX7_push_32
theorem dX7_valueOf_0 : decode cX7_valueOf 0 = .ok (.aload_n 0, 1) := by decide +kernel
theorem dX7_valueOf_1 : decode cX7_valueOf 1 = .ok (.iconst 0, 1) := by decide +kernel
theorem dX7_valueOf_2 : decode cX7_valueOf 2 = .ok (.putfield 18, 3) := by decide +kernel
theorem dX7_valueOf_5 : decode cX7_valueOf 5 = .ok (.iload_n 1, 1) := by decide +kernel
theorem dX7_valueOf_6 : decode cX7_valueOf 6 = .ok (.ifCond .ne 7, 3) := by decide +kernel
theorem dX7_valueOf_9 : decode cX7_valueOf 9 = .ok (.iconst 0, 1) := by decide +kernel
theorem dX7_valueOf_10 : decode cX7_valueOf 10 = .ok (.goto 11, 3) := by decide +kernel
theorem dX7_valueOf_13 : decode cX7_valueOf 13 = .ok (.aload_n 0, 1) := by decide +kernel
theorem dX7_valueOf_14 : decode cX7_valueOf 14 = .ok (.getfield 9, 3) := by decide +kernel
theorem dX7_valueOf_17 : decode cX7_valueOf 17 = .ok (.iload_n 1, 1) := by decide +kernel
theorem dX7_valueOf_18 : decode cX7_valueOf 18 = .ok (.iconst 1, 1) := by decide +kernel
theorem dX7_valueOf_19 : decode cX7_valueOf 19 = .ok (.isub, 1) := by decide +kernel
theorem dX7_valueOf_20 : decode cX7_valueOf 20 = .ok (.iaload, 1) := by decide +kernel
theorem dX7_valueOf_21 : decode cX7_valueOf 21 = .ok (.istore_n 3, 1) := by decide +kernel
theorem dX7_valueOf_22 : decode cX7_valueOf 22 = .ok (.iload_n 3, 1) := by decide +kernel
theorem dX7_valueOf_23 : decode cX7_valueOf 23 = .ok (.istore 4, 2) := by decide +kernel
theorem dX7_valueOf_25 : decode cX7_valueOf 25 = .ok (.iload 4, 2) := by decide +kernel
theorem dX7_valueOf_27 : decode cX7_valueOf 27 = .ok (.aload_n 0, 1) := by decide +kernel
theorem dX7_valueOf_28 : decode cX7_valueOf 28 = .ok (.getfield 9, 3) := by decide +kernel
theorem dX7_valueOf_31 : decode cX7_valueOf 31 = .ok (.iload_n 1, 1) := by decide +kernel
theorem dX7_valueOf_32 : decode cX7_valueOf 32 = .ok (.iaload, 1) := by decide +kernel
theorem dX7_valueOf_33 : decode cX7_valueOf 33 = .ok (.if_icmp .ge 114, 3) := by decide +kernel
theorem dX7_valueOf_36 : decode cX7_valueOf 36 = .ok (.iload 4, 2) := by decide +kernel
theorem dX7_valueOf_38 : decode cX7_valueOf 38 = .ok (.aload_n 0, 1) := by decide +kernel
theorem dX7_valueOf_39 : decode cX7_valueOf 39 = .ok (.getfield 22, 3) := by decide +kernel
theorem dX7_valueOf_42 : decode cX7_valueOf 42 = .ok (.arraylength, 1) := by decide +kernel
theorem dX7_valueOf_43 : decode cX7_valueOf 43 = .ok (.if_icmp .ge 104, 3) := by decide +kernel
theorem dX7_valueOf_46 : decode cX7_valueOf 46 = .ok (.aload_n 0, 1) := by decide +kernel
theorem dX7_valueOf_47 : decode cX7_valueOf 47 = .ok (.getfield 22, 3) := by decide +kernel
theorem dX7_valueOf_50 : decode cX7_valueOf 50 = .ok (.iload 4, 2) := by decide +kernel
theorem dX7_valueOf_52 : decode cX7_valueOf 52 = .ok (.iaload, 1) := by decide +kernel
theorem dX7_valueOf_53 : decode cX7_valueOf 53 = .ok (.istore 5, 2) := by decide +kernel
theorem dX7_valueOf_55 : decode cX7_valueOf 55 = .ok (.iload 5, 2) := by decide +kernel
theorem dX7_valueOf_57 : decode cX7_valueOf 57 = .ok (.ifCond .lt 12, 3) := by decide +kernel
theorem dX7_valueOf_60 : decode cX7_valueOf 60 = .ok (.aload_n 0, 1) := by decide +kernel
theorem dX7_valueOf_61 : decode cX7_valueOf 61 = .ok (.iload 5, 2) := by decide +kernel
theorem dX7_valueOf_63 : decode cX7_valueOf 63 = .ok (.invokevirtual 31, 3) := by decide +kernel
theorem dX7_valueOf_66 : decode cX7_valueOf 66 = .ok (.goto 75, 3) := by decide +kernel
theorem dX7_valueOf_69 : decode cX7_valueOf 69 = .ok (.iload 5, 2) := by decide +kernel
theorem dX7_valueOf_71 : decode cX7_valueOf 71 = .ok (.invokestatic 35, 3) := by decide +kernel
theorem dX7_valueOf_74 : decode cX7_valueOf 74 = .ok (.ifCond .eq 16, 3) := by decide +kernel
theorem dX7_valueOf_77 : decode cX7_valueOf 77 = .ok (.aload_n 0, 1) := by decide +kernel
theorem dX7_valueOf_78 : decode cX7_valueOf 78 = .ok (.aload_n 2, 1) := by decide +kernel
theorem dX7_valueOf_79 : decode cX7_valueOf 79 = .ok (.iconst (-1), 1) := by decide +kernel
theorem dX7_valueOf_80 : decode cX7_valueOf 80 = .ok (.iload 5, 2) := by decide +kernel
theorem dX7_valueOf_82 : decode cX7_valueOf 82 = .ok (.isub, 1) := by decide +kernel
theorem dX7_valueOf_83 : decode cX7_valueOf 83 = .ok (.iaload, 1) := by decide +kernel
theorem dX7_valueOf_84 : decode cX7_valueOf 84 = .ok (.invokevirtual 31, 3) := by decide +kernel
theorem dX7_valueOf_87 : decode cX7_valueOf 87 = .ok (.goto 54, 3) := by decide +kernel
theorem dX7_valueOf_90 : decode cX7_valueOf 90 = .ok (.iload 5, 2) := by decide +kernel
theorem dX7_valueOf_92 : decode cX7_valueOf 92 = .ok (.bipush (-16), 2) := by decide +kernel
theorem dX7_valueOf_94 : decode cX7_valueOf 94 = .ok (.if_icmp .eq 10, 3) := by decide +kernel
theorem dX7_valueOf_97 : decode cX7_valueOf 97 = .ok (.iload 5, 2) := by decide +kernel
theorem dX7_valueOf_99 : decode cX7_valueOf 99 = .ok (.bipush (-26), 2) := by decide +kernel
theorem dX7_valueOf_101 : decode cX7_valueOf 101 = .ok (.if_icmp .ne 19, 3) := by decide +kernel
theorem dX7_valueOf_104 : decode cX7_valueOf 104 = .ok (.aload_n 0, 1) := by decide +kernel
theorem dX7_valueOf_105 : decode cX7_valueOf 105 = .ok (.iload 5, 2) := by decide +kernel
theorem dX7_valueOf_107 : decode cX7_valueOf 107 = .ok (.aload_n 0, 1) := by decide +kernel
theorem dX7_valueOf_108 : decode cX7_valueOf 108 = .ok (.invokevirtual 39, 3) := by decide +kernel
theorem dX7_valueOf_111 : decode cX7_valueOf 111 = .ok (.invokestatic 43, 3) := by decide +kernel
theorem dX7_valueOf_114 : decode cX7_valueOf 114 = .ok (.invokevirtual 31, 3) := by decide +kernel
theorem dX7_valueOf_117 : decode cX7_valueOf 117 = .ok (.goto 24, 3) := by decide +kernel
theorem dX7_valueOf_120 : decode cX7_valueOf 120 = .ok (.aload_n 0, 1) := by decide +kernel
theorem dX7_valueOf_121 : decode cX7_valueOf 121 = .ok (.invokevirtual 39, 3) := by decide +kernel
theorem dX7_valueOf_124 : decode cX7_valueOf 124 = .ok (.istore 6, 2) := by decide +kernel
theorem dX7_valueOf_126 : decode cX7_valueOf 126 = .ok (.aload_n 0, 1) := by decide +kernel
theorem dX7_valueOf_127 : decode cX7_valueOf 127 = .ok (.iload 5, 2) := by decide +kernel
theorem dX7_valueOf_129 : decode cX7_valueOf 129 = .ok (.aload_n 0, 1) := by decide +kernel
theorem dX7_valueOf_130 : decode cX7_valueOf 130 = .ok (.invokevirtual 39, 3) := by decide +kernel
theorem dX7_valueOf_133 : decode cX7_valueOf 133 = .ok (.iload 6, 2) := by decide +kernel
theorem dX7_valueOf_135 : decode cX7_valueOf 135 = .ok (.invokestatic 47, 3) := by decide +kernel
theorem dX7_valueOf_138 : decode cX7_valueOf 138 = .ok (.invokevirtual 31, 3) := by decide +kernel
theorem dX7_valueOf_141 : decode cX7_valueOf 141 = .ok (.iinc 4 1, 3) := by decide +kernel
theorem dX7_valueOf_144 : decode cX7_valueOf 144 = .ok (.goto (-119), 3) := by decide +kernel
theorem dX7_valueOf_147 : decode cX7_valueOf 147 = .ok (.aload_n 0, 1) := by decide +kernel
theorem dX7_valueOf_148 : decode cX7_valueOf 148 = .ok (.invokevirtual 39, 3) := by decide +kernel
theorem dX7_valueOf_151 : decode cX7_valueOf 151 = .ok (.ireturn, 1) := by decide +kernel
theorem gdX7_9 {p : Program} {l : Launch} {e : Env} {R : Room} {s : State} {m : MethodId} {args : Array Value} {below : List Frame} {meth : Method} {c : Code} {H : Heap} {locs : List Loc} {cells slots : Nat} {Q : State → Prop} {cc : ByteArray} {pc nL : Nat} {ls : Array Slot} {rest : List Value} {ret : Option FieldType}  {G : xG} {β : Nat} {D : Nat → Prop} {x : XS} {a : Nat} {v : Nat} (C : Cx p s m args meth c RX7 cc nL ret (KK G)) (h : dP x a 7 1 = some v) (hw : CW β D G x H) (hd : decode cc pc = .ok (.getfield 9, 3)) (kk : W p l e R s m args below meth c H locs cells slots Q (F0 m (pc + 3) ls (.ref v :: rest))) : W p l e R s m args below meth c H locs cells slots Q (F0 m pc ls (.ref a :: rest)) := by
  obtain ⟨fs, h1, h2⟩ := dP_e h
  exact va_get (ci := 7) (fs := fs) C.1 C.2.1 C.2.2.2.2.1 iwX7 C.2.2.2.1 C.K.1 (xP1 (hw.2.2.2.1 a _ h1).2.2.2) 0 rfl rfl 1 (by decide) (C.2.2.2.2.1 (.fieldLink RX7 9 RX7 "ends" "[I") (tg 330 (by decide +kernel) rfl)) (fun _ h9 => h9) h2 hd kk
theorem gdX7_22 {p : Program} {l : Launch} {e : Env} {R : Room} {s : State} {m : MethodId} {args : Array Value} {below : List Frame} {meth : Method} {c : Code} {H : Heap} {locs : List Loc} {cells slots : Nat} {Q : State → Prop} {cc : ByteArray} {pc nL : Nat} {ls : Array Slot} {rest : List Value} {ret : Option FieldType}  {G : xG} {β : Nat} {D : Nat → Prop} {x : XS} {a : Nat} {v : Nat} (C : Cx p s m args meth c RX7 cc nL ret (KK G)) (h : dP x a 7 0 = some v) (hw : CW β D G x H) (hd : decode cc pc = .ok (.getfield 22, 3)) (kk : W p l e R s m args below meth c H locs cells slots Q (F0 m (pc + 3) ls (.ref v :: rest))) : W p l e R s m args below meth c H locs cells slots Q (F0 m pc ls (.ref a :: rest)) := by
  obtain ⟨fs, h1, h2⟩ := dP_e h
  exact va_get (ci := 7) (fs := fs) C.1 C.2.1 C.2.2.2.2.1 iwX7 C.2.2.2.1 C.K.1 (xP1 (hw.2.2.2.1 a _ h1).2.2.2) 0 rfl rfl 0 (by decide) (C.2.2.2.2.1 (.fieldLink RX7 22 RX7 "code" "[I") (tg 329 (by decide +kernel) rfl)) (fun _ h9 => h9) h2 hd kk
theorem sX7_35 {p : Program} {l : Launch} {e : Env} {R : Room} {s : State} {m : MethodId} {args : Array Value} {below : List Frame} {meth : Method} {c : Code} {H : Heap} {locs : List Loc} {cells slots : Nat} {Q : State → Prop} {cc : ByteArray} {pc nL : Nat} {ls : Array Slot} {rest : List Value} {ret : Option FieldType}  {G : xG} {β : Nat} {D : Nat → Prop} {x : XS} {a1 : Int32} {r : Bool} (C : Cx p s m args meth c RX7 cc nL ret (KK G)) (h : fX7_isName a1 = some r) (hw : CW β D G x H) (hS : va_S D s.heap H locs) (hsz : ls.size = nL) (hW : (rest.map fun v => v.category).sum ≤ 8) (hR : 1 ≤ R.frames) (hR2 : 20 ≤ R.locals) (hcs : cells ≤ R.cells ∧ slots ≤ R.slots) (hd : decode cc pc = .ok (.invokestatic 35, 3)) (kk : ∀ (H1 : Heap) (locs1 : List Loc), CW β D G x H1 → va_S D s.heap H1 locs1 → W p l e R s m args below meth c H1 locs1 cells slots Q (F0 m (pc + 3) ls (.int (bI r) :: rest))) : W p l e R s m args below meth c H locs cells slots Q (F0 m pc ls (.int a1 :: rest)) := by
  exact xcallS C (As := [.int a1]) (rest := rest) (nA := 1) (kX7_isName h) (tg 533 (by decide +kernel) rfl) (tg 300 (by decide +kernel) rfl) (tg 11 (by decide +kernel) rfl) (tg 301 (by decide +kernel) rfl) ⟨by decide +kernel, by decide +kernel, by decide +kernel⟩ rfl rfl ⟨hR, hR2⟩ hw hS (fun _ q => q) rfl rfl hsz hW hd hcs (fun H1 locs1 hw hz hk hS => kk H1 locs1 hw hS)
theorem sX7_39 {p : Program} {l : Launch} {e : Env} {R : Room} {s : State} {m : MethodId} {args : Array Value} {below : List Frame} {meth : Method} {c : Code} {H : Heap} {locs : List Loc} {cells slots : Nat} {Q : State → Prop} {cc : ByteArray} {pc nL : Nat} {ls : Array Slot} {rest : List Value} {ret : Option FieldType}  {G : xG} {β : Nat} {D : Nat → Prop} {x x' : XS} {a0 : Nat} {r : Int32} (C : Cx p s m args meth c RX7 cc nL ret (KK G)) (hk : dK x a0 7 = true) (h : fX7_pop x a0 = some (r, x')) (hw : CW β D G x H) (hS : va_S D s.heap H locs) (hsz : ls.size = nL) (hW : (rest.map fun v => v.category).sum ≤ 8) (hR : 1 ≤ R.frames) (hR2 : 20 ≤ R.locals) (hcs : cells ≤ R.cells ∧ slots ≤ R.slots) (hd : decode cc pc = .ok (.invokevirtual 39, 3)) (kk : ∀ (H1 : Heap) (locs1 : List Loc), CW β D G x' H1 → va_S D s.heap H1 locs1 → W p l e R s m args below meth c H1 locs1 cells slots Q (F0 m (pc + 3) ls (.int r :: rest))) : W p l e R s m args below meth c H locs cells slots Q (F0 m pc ls (.ref a0 :: rest)) := by
  obtain ⟨fs0, hfs0⟩ := dK_e hk
  exact xcallV C (As := []) (rest := rest) (nA := 0) (ci := 7) (kX7_pop h) (tg 534 (by decide +kernel) rfl) (tg 536 (by decide +kernel) rfl) (sg (List.mem_of_getElem? (i := 24) (by decide +kernel)) rfl) (tg 11 (by decide +kernel) rfl) (tg 537 (by decide +kernel) rfl) ⟨rfl, by decide +kernel, by decide +kernel, by decide +kernel⟩ rfl rfl rfl ⟨hR, hR2⟩ ((hw.2.2.2.1 a0 _ hfs0).2.2.2) hw hS (fun _ q => q) rfl rfl hsz hW hd hcs (fun H1 locs1 hw hz hk hS => kk H1 locs1 hw hS)
theorem sX7_43 {p : Program} {l : Launch} {e : Env} {R : Room} {s : State} {m : MethodId} {args : Array Value} {below : List Frame} {meth : Method} {c : Code} {H : Heap} {locs : List Loc} {cells slots : Nat} {Q : State → Prop} {cc : ByteArray} {pc nL : Nat} {ls : Array Slot} {rest : List Value} {ret : Option FieldType}  {G : xG} {β : Nat} {D : Nat → Prop} {x : XS} {a1 : Int32} {a2 : Int32} {r : Int32} (C : Cx p s m args meth c RX7 cc nL ret (KK G)) (h : fX7_altered a1 a2 = some r) (hw : CW β D G x H) (hS : va_S D s.heap H locs) (hsz : ls.size = nL) (hW : (rest.map fun v => v.category).sum ≤ 8) (hR : 2 ≤ R.frames) (hR2 : 41 ≤ R.locals) (hcs : cells ≤ R.cells ∧ slots ≤ R.slots) (hd : decode cc pc = .ok (.invokestatic 43, 3)) (kk : ∀ (H1 : Heap) (locs1 : List Loc), CW β D G x H1 → va_S D s.heap H1 locs1 → W p l e R s m args below meth c H1 locs1 cells slots Q (F0 m (pc + 3) ls (.int r :: rest))) : W p l e R s m args below meth c H locs cells slots Q (F0 m pc ls (.int a2 :: .int a1 :: rest)) := by
  exact xcallS C (As := [.int a1, .int a2]) (rest := rest) (nA := 2) (kX7_altered h) (tg 538 (by decide +kernel) rfl) (tg 539 (by decide +kernel) rfl) (tg 11 (by decide +kernel) rfl) (tg 540 (by decide +kernel) rfl) ⟨by decide +kernel, by decide +kernel, by decide +kernel⟩ rfl rfl ⟨hR, hR2⟩ hw hS (fun _ q => q) rfl rfl hsz hW hd hcs (fun H1 locs1 hw hz hk hS => kk H1 locs1 hw hS)
theorem sX7_31 {p : Program} {l : Launch} {e : Env} {R : Room} {s : State} {m : MethodId} {args : Array Value} {below : List Frame} {meth : Method} {c : Code} {H : Heap} {locs : List Loc} {cells slots : Nat} {Q : State → Prop} {cc : ByteArray} {pc nL : Nat} {ls : Array Slot} {rest : List Value} {ret : Option FieldType}  {G : xG} {β : Nat} {D : Nat → Prop} {x x' : XS} {a0 : Nat} {a1 : Int32} (C : Cx p s m args meth c RX7 cc nL ret (KK G)) (hk : dK x a0 7 = true) (h : fX7_push x a0 a1 = some x') (hw : CW β D G x H) (hS : va_S D s.heap H locs) (hsz : ls.size = nL) (hW : (rest.map fun v => v.category).sum ≤ 8) (hR : 1 ≤ R.frames) (hR2 : 21 ≤ R.locals) (hcs : cells ≤ R.cells ∧ slots ≤ R.slots) (hd : decode cc pc = .ok (.invokevirtual 31, 3)) (kk : ∀ (H1 : Heap) (locs1 : List Loc), CW β D G x' H1 → va_S D s.heap H1 locs1 → W p l e R s m args below meth c H1 locs1 cells slots Q (F0 m (pc + 3) ls (rest))) : W p l e R s m args below meth c H locs cells slots Q (F0 m pc ls (.int a1 :: .ref a0 :: rest)) := by
  obtain ⟨fs0, hfs0⟩ := dK_e hk
  exact xcallV C (As := [.int a1]) (rest := rest) (nA := 1) (ci := 7) (kX7_push h) (tg 529 (by decide +kernel) rfl) (tg 531 (by decide +kernel) rfl) (sg (List.mem_of_getElem? (i := 23) (by decide +kernel)) rfl) (tg 11 (by decide +kernel) rfl) (tg 532 (by decide +kernel) rfl) ⟨rfl, by decide +kernel, by decide +kernel, by decide +kernel⟩ rfl rfl rfl ⟨hR, hR2⟩ ((hw.2.2.2.1 a0 _ hfs0).2.2.2) hw hS (fun _ q => q) rfl rfl hsz hW hd hcs (fun H1 locs1 hw hz hk hS => kk H1 locs1 hw hS)
theorem sX7_47 {p : Program} {l : Launch} {e : Env} {R : Room} {s : State} {m : MethodId} {args : Array Value} {below : List Frame} {meth : Method} {c : Code} {H : Heap} {locs : List Loc} {cells slots : Nat} {Q : State → Prop} {cc : ByteArray} {pc nL : Nat} {ls : Array Slot} {rest : List Value} {ret : Option FieldType}  {G : xG} {β : Nat} {D : Nat → Prop} {x : XS} {a1 : Int32} {a2 : Int32} {a3 : Int32} {r : Int32} (C : Cx p s m args meth c RX7 cc nL ret (KK G)) (h : fX7_joined a1 a2 a3 = some r) (hw : CW β D G x H) (hS : va_S D s.heap H locs) (hsz : ls.size = nL) (hW : (rest.map fun v => v.category).sum ≤ 8) (hR : 2 ≤ R.frames) (hR2 : 42 ≤ R.locals) (hcs : cells ≤ R.cells ∧ slots ≤ R.slots) (hd : decode cc pc = .ok (.invokestatic 47, 3)) (kk : ∀ (H1 : Heap) (locs1 : List Loc), CW β D G x H1 → va_S D s.heap H1 locs1 → W p l e R s m args below meth c H1 locs1 cells slots Q (F0 m (pc + 3) ls (.int r :: rest))) : W p l e R s m args below meth c H locs cells slots Q (F0 m pc ls (.int a3 :: .int a2 :: .int a1 :: rest)) := by
  exact xcallS C (As := [.int a1, .int a2, .int a3]) (rest := rest) (nA := 3) (kX7_joined h) (tg 544 (by decide +kernel) rfl) (tg 545 (by decide +kernel) rfl) (tg 11 (by decide +kernel) rfl) (tg 546 (by decide +kernel) rfl) ⟨by decide +kernel, by decide +kernel, by decide +kernel⟩ rfl rfl ⟨hR, hR2⟩ hw hS (fun _ q => q) rfl rfl hsz hW hd hcs (fun H1 locs1 hw hz hk hS => kk H1 locs1 hw hS)
theorem alX_22 {p : Program} {l : Launch} {e : Env} {R : Room} {s : State} {m : MethodId} {args : Array Value} {below : List Frame} {meth : Method} {c : Code} {H : Heap} {locs : List Loc} {cells slots : Nat} {Q : State → Prop} {cc : ByteArray} {pc nL : Nat} {ls : Array Slot} {rest : List Value} {ret : Option FieldType} {G : xG} {β : Nat} {D : Nat → Prop} {x : XS} {own : String} {i : Int32} (C : Cx p s m args meth c own cc nL ret (KK G)) (hw : CW β D G x H) (hin : ib i 6) (hd : decode cc pc = .ok (.iaload, 1)) (kk : W p l e R s m args below meth c H locs cells slots Q (F0 m (pc + 1) ls (.int (x.2.1 22 i.toNatClampNeg) :: rest))) : W p l e R s m args below meth c H locs cells slots Q (F0 m pc ls (.int i :: .ref (β + 22) :: rest)) :=
  va_iald C.1 C.2.1 C.K.1 (xP1 (hw.2.2.1 22 (by decide))) 0 0 rfl rfl hin hd kk
def BX7_valueOf_25 (q0 : Nat) (q1 : Int32) (lp : Int32 → XS → Option (XS)) (u4 : Int32) (x : XS) : Option (XS) := Option.bind (dP x q0 7 1) fun v8 => Option.bind (dA x v8 q1) fun v10 => if v10 ≤ u4 then some x else Option.bind (dP x q0 7 0) fun v12 => Option.bind (dLen x v12) fun v14 => if v14 ≤ u4 then some x else Option.bind (dP x q0 7 0) fun v16 => Option.bind (dA x v16 u4) fun v18 => if v18 < 0 then Option.bind (fX7_isName v18) fun v20 => if v20 = true then if ib ((-1) - v18) 6 then if dK x q0 7 = true then Option.bind (fX7_push x q0 (x.2.1 22 ((-1) - v18).toNatClampNeg)) fun x58 => lt (u4 + 1) fun v60 => lp v60 x58 else none else none else if v18 = (-16) then if dK x q0 7 = true then bind2 (fX7_pop x q0) fun v23 x24 => Option.bind (fX7_altered v18 v23) fun v26 => if dK x24 q0 7 = true then Option.bind (fX7_push x24 q0 v26) fun x29 => lt (u4 + 1) fun v31 => lp v31 x29 else none else none else if v18 = (-26) then if dK x q0 7 = true then bind2 (fX7_pop x q0) fun v47 x48 => Option.bind (fX7_altered v18 v47) fun v50 => if dK x48 q0 7 = true then Option.bind (fX7_push x48 q0 v50) fun x53 => lt (u4 + 1) fun v55 => lp v55 x53 else none else none else if dK x q0 7 = true then bind2 (fX7_pop x q0) fun v33 x34 => if dK x34 q0 7 = true then bind2 (fX7_pop x34 q0) fun v37 x38 => Option.bind (fX7_joined v18 v37 v33) fun v40 => if dK x38 q0 7 = true then Option.bind (fX7_push x38 q0 v40) fun x43 => lt (u4 + 1) fun v45 => lp v45 x43 else none else none else none else if dK x q0 7 = true then Option.bind (fX7_push x q0 v18) fun x62 => lt (u4 + 1) fun v64 => lp v64 x62 else none
def LX7_valueOf_25 (q0 : Nat) (q1 : Int32) : Nat → Int32 → XS → Option (XS)
  | 0, _, _ => none
  | n + 1, u4, x => BX7_valueOf_25 q0 q1 (LX7_valueOf_25 q0 q1 n) u4 x
def fX7_valueOf (x : XS) (a0 : Nat) (a1 : Int32) : Option (Int32 × XS) := Option.bind (dPut x a0 7 3 (.int 0)) fun x1 => Option.bind (if a1 = 0 then some 0 else Option.bind (dP x1 a0 7 1) fun v3 => Option.bind (dA x1 v3 (a1 - 1)) fun v5 => some v5) fun v7 => Option.bind (LX7_valueOf_25 a0 a1 NF v7 x1) fun x65 => if dK x65 a0 7 = true then bind2 (fX7_pop x65 a0) fun v67 x68 => some (v67, x68) else none
set_option maxHeartbeats 4000000 in
set_option maxRecDepth 100000 in
theorem lX7_valueOf_25 {p : Program} {l : Launch} {e : Env} {R : Room} {s : State} {m : MethodId} {args : Array Value} {below : List Frame} {meth : Method} {c : Code} {cells slots : Nat} {Q : State → Prop} {G : xG} {β : Nat} {D : Nat → Prop} (C : Cx p s m args meth c RX7 cX7_valueOf 7 (some .int) (KK G)) (hRf : 2 ≤ R.frames) (hRl : 42 ≤ R.locals) (hcs : cells ≤ R.cells ∧ slots ≤ R.slots) (q0 : Nat) (q1 : Int32) : ∀ (n : Nat) (u4 : Int32) (x : XS) (J : XS) (H : Heap) (locs : List Loc) (ls : Array Slot), LX7_valueOf_25 q0 q1 n u4 x = some J → CW β D G x H → va_S D s.heap H locs → lv_has ls 7 [(0, .ref q0), (1, .int q1), (2, .ref (β + 22)), (4, .int u4)] → (∀ (x1 : XS), J = x1 → ∀ (H : Heap) (locs : List Loc) (ls : Array Slot), CW β D G x1 H → va_S D s.heap H locs → lv_has ls 7 [(0, .ref q0)] → W p l e R s m args below meth c H locs cells slots Q (F0 m 147 ls [])) → W p l e R s m args below meth c H locs cells slots Q (F0 m 25 ls []) := by
  have hx := C.1
  have hb := C.2.1
  have ho := C.2.2.2.1
  have hts := C.2.2.2.2.1
  intro n
  induction n with
  | zero =>
    intro u4 x J H locs ls hm
    exact absurd hm (by simp [LX7_valueOf_25])
  | succ n ih =>
    intro u4 x J H locs ls hm hw hS hl ke
    replace hm : BX7_valueOf_25 q0 q1 (LX7_valueOf_25 q0 q1 n) u4 x = some J := hm
    unfold BX7_valueOf_25 at hm
    refine lv_iload hx hb dX7_valueOf_25 (lv_at hl 3 rfl) ?_
    refine lv_aload_n hx hb dX7_valueOf_27 rfl (lv_at hl 0 rfl) ?_
    obtain ⟨v8, h9, hm⟩ := bind_e hm
    refine gdX7_9 C h9 hw dX7_valueOf_28 ?_
    refine lv_iload_n hx hb dX7_valueOf_31 rfl (lv_at hl 1 rfl) ?_
    obtain ⟨v10, h11, hm⟩ := bind_e hm
    refine x_dald C h11 hw dX7_valueOf_32 ?_
    refine lv_icmp_ge (tgt := 147) hx hb dX7_valueOf_33 (by decide) (fun cc => ?_) (fun cc => ?_)
    · replace hm := ite_p cc hm
      exact ke _ (Option.some.inj hm).symm _ _ _ hw hS (lv_sub hl [0] rfl)
    · replace hm := ite_n cc hm
      refine lv_iload hx hb dX7_valueOf_36 (lv_at hl 3 rfl) ?_
      refine lv_aload_n hx hb dX7_valueOf_38 rfl (lv_at hl 0 rfl) ?_
      obtain ⟨v12, h13, hm⟩ := bind_e hm
      refine gdX7_22 C h13 hw dX7_valueOf_39 ?_
      obtain ⟨v14, h15, hm⟩ := bind_e hm
      refine x_dlen C h15 hw dX7_valueOf_42 ?_
      refine lv_icmp_ge (tgt := 147) hx hb dX7_valueOf_43 (by decide) (fun cc => ?_) (fun cc => ?_)
      · replace hm := ite_p cc hm
        exact ke _ (Option.some.inj hm).symm _ _ _ hw hS (lv_sub hl [0] rfl)
      · replace hm := ite_n cc hm
        refine lv_aload_n hx hb dX7_valueOf_46 rfl (lv_at hl 0 rfl) ?_
        obtain ⟨v16, h17, hm⟩ := bind_e hm
        refine gdX7_22 C h17 hw dX7_valueOf_47 ?_
        refine lv_iload hx hb dX7_valueOf_50 (lv_at hl 3 rfl) ?_
        obtain ⟨v18, h19, hm⟩ := bind_e hm
        refine x_dald C h19 hw dX7_valueOf_52 ?_
        refine lv_istore (lv' := [(5, .int v18), (0, .ref q0), (1, .int q1), (2, .ref (β + 22)), (4, .int u4)]) hx hb dX7_valueOf_53 hl (by decide) rfl (fun ls hl => ?_)
        refine lv_iload hx hb dX7_valueOf_55 (lv_at hl 0 rfl) ?_
        refine lv_if_lt (tgt := 69) hx hb dX7_valueOf_57 (by decide) (fun cc => ?_) (fun cc => ?_)
        · replace hm := ite_p cc hm
          refine lv_iload hx hb dX7_valueOf_69 (lv_at hl 0 rfl) ?_
          obtain ⟨v20, h21, hm⟩ := bind_e hm
          refine sX7_35 C h21 hw hS hl.1 (Nat.le_of_ble_eq_true rfl) (Nat.le_trans (Nat.le_of_ble_eq_true rfl) hRf) (Nat.le_trans (Nat.le_of_ble_eq_true rfl) hRl) hcs dX7_valueOf_71 (fun H locs hw hS => ?_)
          refine x_ifeqB hx hb dX7_valueOf_74 (tgt := 90) (by decide) (fun cc => ?_) (fun cc => ?_)
          · replace hm := ite_n cc hm
            refine lv_iload hx hb dX7_valueOf_90 (lv_at hl 0 rfl) ?_
            refine lv_bipush (v := (-16)) hx hb dX7_valueOf_92 (by decide) ?_
            refine lv_icmp_eq (tgt := 104) hx hb dX7_valueOf_94 (by decide) (fun cc => ?_) (fun cc => ?_)
            · replace hm := ite_p cc hm
              refine lv_aload_n hx hb dX7_valueOf_104 rfl (lv_at hl 1 rfl) ?_
              refine lv_iload hx hb dX7_valueOf_105 (lv_at hl 0 rfl) ?_
              refine lv_aload_n hx hb dX7_valueOf_107 rfl (lv_at hl 1 rfl) ?_
              obtain ⟨h22, hm⟩ := chk_e hm
              obtain ⟨v23, x24, h25, hm⟩ := bind2_e hm
              refine sX7_39 C h22 h25 hw hS hl.1 (Nat.le_of_ble_eq_true rfl) (Nat.le_trans (Nat.le_of_ble_eq_true rfl) hRf) (Nat.le_trans (Nat.le_of_ble_eq_true rfl) hRl) hcs dX7_valueOf_108 (fun H locs hw hS => ?_)
              obtain ⟨v26, h27, hm⟩ := bind_e hm
              refine sX7_43 C h27 hw hS hl.1 (Nat.le_of_ble_eq_true rfl) (Nat.le_trans (Nat.le_of_ble_eq_true rfl) hRf) (Nat.le_trans (Nat.le_of_ble_eq_true rfl) hRl) hcs dX7_valueOf_111 (fun H locs hw hS => ?_)
              obtain ⟨h28, hm⟩ := chk_e hm
              obtain ⟨x29, h30, hm⟩ := bind_e hm
              refine sX7_31 C h28 h30 hw hS hl.1 (Nat.le_of_ble_eq_true rfl) (Nat.le_trans (Nat.le_of_ble_eq_true rfl) hRf) (Nat.le_trans (Nat.le_of_ble_eq_true rfl) hRl) hcs dX7_valueOf_114 (fun H locs hw hS => ?_)
              refine lv_goto (tgt := 141) hx hb dX7_valueOf_117 (by decide) ?_
              obtain ⟨v31, ev, hm⟩ := lt_e hm
              refine lv_iinc (v := v31) (lv' := [(4, .int v31), (5, .int v18), (0, .ref q0), (1, .int q1), (2, .ref (β + 22))]) hx hb dX7_valueOf_141 hl (k := 4) rfl (by rw [ev]; rfl) (by decide) rfl (fun ls hl => ?_)
              clear ev
              refine lv_goto (tgt := 25) hx hb dX7_valueOf_144 (by decide) ?_
              exact ih _ _ _ _ _ _ hm hw hS (lv_sub hl [2, 3, 4, 0] rfl) ke
            · replace hm := ite_n cc hm
              refine lv_iload hx hb dX7_valueOf_97 (lv_at hl 0 rfl) ?_
              refine lv_bipush (v := (-26)) hx hb dX7_valueOf_99 (by decide) ?_
              refine lv_icmp_ne (tgt := 120) hx hb dX7_valueOf_101 (by decide) (fun cc => ?_) (fun cc => ?_)
              · replace hm := ite_n cc hm
                refine lv_aload_n hx hb dX7_valueOf_120 rfl (lv_at hl 1 rfl) ?_
                obtain ⟨h32, hm⟩ := chk_e hm
                obtain ⟨v33, x34, h35, hm⟩ := bind2_e hm
                refine sX7_39 C h32 h35 hw hS hl.1 (Nat.le_of_ble_eq_true rfl) (Nat.le_trans (Nat.le_of_ble_eq_true rfl) hRf) (Nat.le_trans (Nat.le_of_ble_eq_true rfl) hRl) hcs dX7_valueOf_121 (fun H locs hw hS => ?_)
                refine lv_istore (lv' := [(6, .int v33), (5, .int v18), (0, .ref q0), (1, .int q1), (2, .ref (β + 22)), (4, .int u4)]) hx hb dX7_valueOf_124 hl (by decide) rfl (fun ls hl => ?_)
                refine lv_aload_n hx hb dX7_valueOf_126 rfl (lv_at hl 2 rfl) ?_
                refine lv_iload hx hb dX7_valueOf_127 (lv_at hl 1 rfl) ?_
                refine lv_aload_n hx hb dX7_valueOf_129 rfl (lv_at hl 2 rfl) ?_
                obtain ⟨h36, hm⟩ := chk_e hm
                obtain ⟨v37, x38, h39, hm⟩ := bind2_e hm
                refine sX7_39 C h36 h39 hw hS hl.1 (Nat.le_of_ble_eq_true rfl) (Nat.le_trans (Nat.le_of_ble_eq_true rfl) hRf) (Nat.le_trans (Nat.le_of_ble_eq_true rfl) hRl) hcs dX7_valueOf_130 (fun H locs hw hS => ?_)
                refine lv_iload hx hb dX7_valueOf_133 (lv_at hl 0 rfl) ?_
                obtain ⟨v40, h41, hm⟩ := bind_e hm
                refine sX7_47 C h41 hw hS hl.1 (Nat.le_of_ble_eq_true rfl) (Nat.le_trans (Nat.le_of_ble_eq_true rfl) hRf) (Nat.le_trans (Nat.le_of_ble_eq_true rfl) hRl) hcs dX7_valueOf_135 (fun H locs hw hS => ?_)
                obtain ⟨h42, hm⟩ := chk_e hm
                obtain ⟨x43, h44, hm⟩ := bind_e hm
                refine sX7_31 C h42 h44 hw hS hl.1 (Nat.le_of_ble_eq_true rfl) (Nat.le_trans (Nat.le_of_ble_eq_true rfl) hRf) (Nat.le_trans (Nat.le_of_ble_eq_true rfl) hRl) hcs dX7_valueOf_138 (fun H locs hw hS => ?_)
                obtain ⟨v45, ev, hm⟩ := lt_e hm
                refine lv_iinc (v := v45) (lv' := [(4, .int v45), (6, .int v33), (5, .int v18), (0, .ref q0), (1, .int q1), (2, .ref (β + 22))]) hx hb dX7_valueOf_141 hl (k := 5) rfl (by rw [ev]; rfl) (by decide) rfl (fun ls hl => ?_)
                clear ev
                refine lv_goto (tgt := 25) hx hb dX7_valueOf_144 (by decide) ?_
                exact ih _ _ _ _ _ _ hm hw hS (lv_sub hl [3, 4, 5, 0] rfl) ke
              · replace hm := ite_p cc hm
                refine lv_aload_n hx hb dX7_valueOf_104 rfl (lv_at hl 1 rfl) ?_
                refine lv_iload hx hb dX7_valueOf_105 (lv_at hl 0 rfl) ?_
                refine lv_aload_n hx hb dX7_valueOf_107 rfl (lv_at hl 1 rfl) ?_
                obtain ⟨h46, hm⟩ := chk_e hm
                obtain ⟨v47, x48, h49, hm⟩ := bind2_e hm
                refine sX7_39 C h46 h49 hw hS hl.1 (Nat.le_of_ble_eq_true rfl) (Nat.le_trans (Nat.le_of_ble_eq_true rfl) hRf) (Nat.le_trans (Nat.le_of_ble_eq_true rfl) hRl) hcs dX7_valueOf_108 (fun H locs hw hS => ?_)
                obtain ⟨v50, h51, hm⟩ := bind_e hm
                refine sX7_43 C h51 hw hS hl.1 (Nat.le_of_ble_eq_true rfl) (Nat.le_trans (Nat.le_of_ble_eq_true rfl) hRf) (Nat.le_trans (Nat.le_of_ble_eq_true rfl) hRl) hcs dX7_valueOf_111 (fun H locs hw hS => ?_)
                obtain ⟨h52, hm⟩ := chk_e hm
                obtain ⟨x53, h54, hm⟩ := bind_e hm
                refine sX7_31 C h52 h54 hw hS hl.1 (Nat.le_of_ble_eq_true rfl) (Nat.le_trans (Nat.le_of_ble_eq_true rfl) hRf) (Nat.le_trans (Nat.le_of_ble_eq_true rfl) hRl) hcs dX7_valueOf_114 (fun H locs hw hS => ?_)
                refine lv_goto (tgt := 141) hx hb dX7_valueOf_117 (by decide) ?_
                obtain ⟨v55, ev, hm⟩ := lt_e hm
                refine lv_iinc (v := v55) (lv' := [(4, .int v55), (5, .int v18), (0, .ref q0), (1, .int q1), (2, .ref (β + 22))]) hx hb dX7_valueOf_141 hl (k := 4) rfl (by rw [ev]; rfl) (by decide) rfl (fun ls hl => ?_)
                clear ev
                refine lv_goto (tgt := 25) hx hb dX7_valueOf_144 (by decide) ?_
                exact ih _ _ _ _ _ _ hm hw hS (lv_sub hl [2, 3, 4, 0] rfl) ke
          · replace hm := ite_p cc hm
            refine lv_aload_n hx hb dX7_valueOf_77 rfl (lv_at hl 1 rfl) ?_
            refine lv_aload_n hx hb dX7_valueOf_78 rfl (lv_at hl 3 rfl) ?_
            refine lv_iconst (v := (-1)) hx hb dX7_valueOf_79 (by decide) ?_
            refine lv_iload hx hb dX7_valueOf_80 (lv_at hl 0 rfl) ?_
            refine lv_isub hx hb dX7_valueOf_82 ?_
            obtain ⟨h56, hm⟩ := chk_e hm
            refine alX_22 C hw h56 dX7_valueOf_83 ?_
            obtain ⟨h57, hm⟩ := chk_e hm
            obtain ⟨x58, h59, hm⟩ := bind_e hm
            refine sX7_31 C h57 h59 hw hS hl.1 (Nat.le_of_ble_eq_true rfl) (Nat.le_trans (Nat.le_of_ble_eq_true rfl) hRf) (Nat.le_trans (Nat.le_of_ble_eq_true rfl) hRl) hcs dX7_valueOf_84 (fun H locs hw hS => ?_)
            refine lv_goto (tgt := 141) hx hb dX7_valueOf_87 (by decide) ?_
            obtain ⟨v60, ev, hm⟩ := lt_e hm
            refine lv_iinc (v := v60) (lv' := [(4, .int v60), (5, .int v18), (0, .ref q0), (1, .int q1), (2, .ref (β + 22))]) hx hb dX7_valueOf_141 hl (k := 4) rfl (by rw [ev]; rfl) (by decide) rfl (fun ls hl => ?_)
            clear ev
            refine lv_goto (tgt := 25) hx hb dX7_valueOf_144 (by decide) ?_
            exact ih _ _ _ _ _ _ hm hw hS (lv_sub hl [2, 3, 4, 0] rfl) ke
        · replace hm := ite_n cc hm
          refine lv_aload_n hx hb dX7_valueOf_60 rfl (lv_at hl 1 rfl) ?_
          refine lv_iload hx hb dX7_valueOf_61 (lv_at hl 0 rfl) ?_
          obtain ⟨h61, hm⟩ := chk_e hm
          obtain ⟨x62, h63, hm⟩ := bind_e hm
          refine sX7_31 C h61 h63 hw hS hl.1 (Nat.le_of_ble_eq_true rfl) (Nat.le_trans (Nat.le_of_ble_eq_true rfl) hRf) (Nat.le_trans (Nat.le_of_ble_eq_true rfl) hRl) hcs dX7_valueOf_63 (fun H locs hw hS => ?_)
          refine lv_goto (tgt := 141) hx hb dX7_valueOf_66 (by decide) ?_
          obtain ⟨v64, ev, hm⟩ := lt_e hm
          refine lv_iinc (v := v64) (lv' := [(4, .int v64), (5, .int v18), (0, .ref q0), (1, .int q1), (2, .ref (β + 22))]) hx hb dX7_valueOf_141 hl (k := 4) rfl (by rw [ev]; rfl) (by decide) rfl (fun ls hl => ?_)
          clear ev
          refine lv_goto (tgt := 25) hx hb dX7_valueOf_144 (by decide) ?_
          exact ih _ _ _ _ _ _ hm hw hS (lv_sub hl [2, 3, 4, 0] rfl) ke
abbrev rmX7_valueOf : Room := { frames := 2, cells := 0, slots := 0, locals := 42 }
set_option maxHeartbeats 4000000 in
set_option maxRecDepth 100000 in
theorem kX7_valueOf {l : Launch} {G : xG} {β : Nat} {D : Nat → Prop} {x x' : XS} {a0 : Nat} {a1 : Int32} {r : Int32} (hm : fX7_valueOf x a0 a1 = some (r, x')) : Met l yX7_valueOf (.code yX7_valueOf cX7_valueOf 7 (some .int) :: GT) rmX7_valueOf (PcW [.ref a0, .int a1, .ref (β + 22)] (CW β D G x) (KK G)) (QcW D (some (.int r)) (CW β D G x')) 0 0 D := by
  unfold fX7_valueOf at hm
  refine xpro (own := RX7) (by decide +kernel) rfl (Nat.le_of_ble_eq_true rfl) ?_
  intro p e s m args below meth c C hw ls hl
  have hx := C.1
  have hb := C.2.1
  have ho := C.2.2.2.1
  have hts := C.2.2.2.2.1
  have hS : va_S D s.heap s.heap [] := va_S.rf
  have hl : lv_has ls 7 [(0, .ref a0), (1, .int a1), (2, .ref (β + 22))] := hl
  have hRf : 2 ≤ rmX7_valueOf.frames := Nat.le_refl _
  have hRl : 42 ≤ rmX7_valueOf.locals := Nat.le_refl _
  have hcs : 0 ≤ rmX7_valueOf.cells ∧ 0 ≤ rmX7_valueOf.slots := ⟨Nat.le_refl _, Nat.le_refl _⟩
  refine lv_aload_n hx hb dX7_valueOf_0 rfl (lv_at hl 0 rfl) ?_
  refine lv_iconst (v := 0) hx hb dX7_valueOf_1 (by decide) ?_
  obtain ⟨x1, h2, hm⟩ := bind_e hm
  refine pdX7_18 C h2 hw hS dX7_valueOf_2 (fun H locs hw hS => ?_)
  refine lv_iload_n hx hb dX7_valueOf_5 rfl (lv_at hl 1 rfl) ?_
  obtain ⟨v7, hj, hm⟩ := bind_e hm
  have kk : ∀ (H : Heap) (locs : List Loc) (ls : Array Slot), CW β D G x1 H → va_S D s.heap H locs → lv_has ls 7 [(0, .ref a0), (1, .int a1), (2, .ref (β + 22))] → W p l e rmX7_valueOf s m args below meth c H locs 0 0 (MQ below (QcW D (some (.int r)) (CW β D G x')) args s 0 0 D) (F0 m 21 ls [.int v7]) := by
    intro H locs ls hw hS hl
    refine lv_istore_n (lv' := [(3, .int v7), (0, .ref a0), (1, .int a1), (2, .ref (β + 22))]) hx hb dX7_valueOf_21 rfl hl (by decide) rfl (fun ls hl => ?_)
    refine lv_iload_n hx hb dX7_valueOf_22 rfl (lv_at hl 0 rfl) ?_
    refine lv_istore (lv' := [(4, .int v7), (3, .int v7), (0, .ref a0), (1, .int a1), (2, .ref (β + 22))]) hx hb dX7_valueOf_23 hl (by decide) rfl (fun ls hl => ?_)
    obtain ⟨x65, hj, hm⟩ := bind_e hm
    refine lX7_valueOf_25 C hRf hRl hcs a0 a1 NF _ _ _ _ _ _ hj hw hS (lv_sub hl [2, 3, 4, 0] rfl) (fun x65_ e0 H locs ls hw hS hl => ?_)
    cases e0
    refine lv_aload_n hx hb dX7_valueOf_147 rfl (lv_at hl 0 rfl) ?_
    obtain ⟨h66, hm⟩ := chk_e hm
    obtain ⟨v67, x68, h69, hm⟩ := bind2_e hm
    refine sX7_39 C h66 h69 hw hS hl.1 (Nat.le_of_ble_eq_true rfl) (Nat.le_trans (Nat.le_of_ble_eq_true rfl) hRf) (Nat.le_trans (Nat.le_of_ble_eq_true rfl) hRl) hcs dX7_valueOf_148 (fun H locs hw hS => ?_)
    obtain ⟨rfl, rfl⟩ := inj2 hm
    exact xret_i C hw hS dX7_valueOf_151
  clear hm
  replace hm := hj
  clear hj
  refine lv_if_ne (tgt := 13) hx hb dX7_valueOf_6 (by decide) (fun cc => ?_) (fun cc => ?_)
  · replace hm := ite_n cc hm
    refine lv_aload_n hx hb dX7_valueOf_13 rfl (lv_at hl 0 rfl) ?_
    obtain ⟨v3, h4, hm⟩ := bind_e hm
    refine gdX7_9 C h4 hw dX7_valueOf_14 ?_
    refine lv_iload_n hx hb dX7_valueOf_17 rfl (lv_at hl 1 rfl) ?_
    refine lv_iconst (v := 1) hx hb dX7_valueOf_18 (by decide) ?_
    refine lv_isub hx hb dX7_valueOf_19 ?_
    obtain ⟨v5, h6, hm⟩ := bind_e hm
    refine x_dald C h6 hw dX7_valueOf_20 ?_
    obtain rfl := Option.some.inj hm
    exact kk _ _ _ hw hS (lv_sub hl [0, 1, 2] rfl)
  · replace hm := ite_p cc hm
    refine lv_iconst (v := 0) hx hb dX7_valueOf_9 (by decide) ?_
    refine lv_goto (tgt := 21) hx hb dX7_valueOf_10 (by decide) ?_
    obtain rfl := Option.some.inj hm
    exact kk _ _ _ hw hS (lv_sub hl [0, 1, 2] rfl)
theorem dX8_isWithin_0 : decode cX8_isWithin 0 = .ok (.iload_n 0, 1) := by decide +kernel
theorem dX8_isWithin_1 : decode cX8_isWithin 1 = .ok (.iload_n 1, 1) := by decide +kernel
theorem dX8_isWithin_2 : decode cX8_isWithin 2 = .ok (.if_icmp .lt 12, 3) := by decide +kernel
theorem dX8_isWithin_5 : decode cX8_isWithin 5 = .ok (.iload_n 0, 1) := by decide +kernel
theorem dX8_isWithin_6 : decode cX8_isWithin 6 = .ok (.iload_n 2, 1) := by decide +kernel
theorem dX8_isWithin_7 : decode cX8_isWithin 7 = .ok (.if_icmp .gt 7, 3) := by decide +kernel
theorem dX8_isWithin_10 : decode cX8_isWithin 10 = .ok (.iconst 1, 1) := by decide +kernel
theorem dX8_isWithin_11 : decode cX8_isWithin 11 = .ok (.goto 4, 3) := by decide +kernel
theorem dX8_isWithin_14 : decode cX8_isWithin 14 = .ok (.iconst 0, 1) := by decide +kernel
theorem dX8_isWithin_15 : decode cX8_isWithin 15 = .ok (.ireturn, 1) := by decide +kernel
def fX8_isWithin (a1 : Int32) (a2 : Int32) (a3 : Int32) : Option (Bool) := if a1 < a2 then some false else if a3 < a1 then some false else some true
abbrev rmX8_isWithin : Room := { frames := 0, cells := 0, slots := 0, locals := 0 }
set_option maxHeartbeats 4000000 in
set_option maxRecDepth 100000 in
theorem kX8_isWithin {l : Launch} {G : xG} {β : Nat} {D : Nat → Prop} {x : XS} {a1 : Int32} {a2 : Int32} {a3 : Int32} {r : Bool} (hm : fX8_isWithin a1 a2 a3 = some r) : Met l yX8_isWithin (.code yX8_isWithin cX8_isWithin 3 (some .boolean) :: GT) rmX8_isWithin (PcW [.int a1, .int a2, .int a3] (CW β D G x) (KK G)) (QcW D (some (.int (bI r))) (CW β D G x)) 0 0 D := by
  unfold fX8_isWithin at hm
  refine xpro (own := RX8) (by decide +kernel) rfl (Nat.le_of_ble_eq_true rfl) ?_
  intro p e s m args below meth c C hw ls hl
  have hx := C.1
  have hb := C.2.1
  have ho := C.2.2.2.1
  have hts := C.2.2.2.2.1
  have hS : va_S D s.heap s.heap [] := va_S.rf
  have hl : lv_has ls 3 [(0, .int a1), (1, .int a2), (2, .int a3)] := hl
  have hRf : 0 ≤ rmX8_isWithin.frames := Nat.le_refl _
  have hRl : 0 ≤ rmX8_isWithin.locals := Nat.le_refl _
  have hcs : 0 ≤ rmX8_isWithin.cells ∧ 0 ≤ rmX8_isWithin.slots := ⟨Nat.le_refl _, Nat.le_refl _⟩
  refine lv_iload_n hx hb dX8_isWithin_0 rfl (lv_at hl 0 rfl) ?_
  refine lv_iload_n hx hb dX8_isWithin_1 rfl (lv_at hl 1 rfl) ?_
  refine lv_icmp_lt (tgt := 14) hx hb dX8_isWithin_2 (by decide) (fun cc => ?_) (fun cc => ?_)
  · replace hm := ite_p cc hm
    refine lv_iconst (v := 0) hx hb dX8_isWithin_14 (by decide) ?_
    obtain rfl := Option.some.inj hm
    exact xret_z (v := bI false) C (bI_nar _) hw hS dX8_isWithin_15
  · replace hm := ite_n cc hm
    refine lv_iload_n hx hb dX8_isWithin_5 rfl (lv_at hl 0 rfl) ?_
    refine lv_iload_n hx hb dX8_isWithin_6 rfl (lv_at hl 2 rfl) ?_
    refine lv_icmp_gt (tgt := 14) hx hb dX8_isWithin_7 (by decide) (fun cc => ?_) (fun cc => ?_)
    · replace hm := ite_p cc hm
      refine lv_iconst (v := 0) hx hb dX8_isWithin_14 (by decide) ?_
      obtain rfl := Option.some.inj hm
      exact xret_z (v := bI false) C (bI_nar _) hw hS dX8_isWithin_15
    · replace hm := ite_n cc hm
      refine lv_iconst (v := 1) hx hb dX8_isWithin_10 (by decide) ?_
      refine lv_goto (tgt := 15) hx hb dX8_isWithin_11 (by decide) ?_
      obtain rfl := Option.some.inj hm
      exact xret_z (v := bI true) C (bI_nar _) hw hS dX8_isWithin_15
theorem dX8_isHorse_0 : decode cX8_isHorse 0 = .ok (.iload_n 1, 1) := by decide +kernel
theorem dX8_isHorse_1 : decode cX8_isHorse 1 = .ok (.iconst 0, 1) := by decide +kernel
theorem dX8_isHorse_2 : decode cX8_isHorse 2 = .ok (.aload_n 0, 1) := by decide +kernel
theorem dX8_isHorse_3 : decode cX8_isHorse 3 = .ok (.getfield 15, 3) := by decide +kernel
theorem dX8_isHorse_6 : decode cX8_isHorse 6 = .ok (.iconst 1, 1) := by decide +kernel
theorem dX8_isHorse_7 : decode cX8_isHorse 7 = .ok (.isub, 1) := by decide +kernel
theorem dX8_isHorse_8 : decode cX8_isHorse 8 = .ok (.invokestatic 138, 3) := by decide +kernel
theorem dX8_isHorse_11 : decode cX8_isHorse 11 = .ok (.ireturn, 1) := by decide +kernel
theorem iwX8 : ∀ w ∈ u_ws RX8 TX8 19, w ∈ GT := in_tb [366, 368, 370, 372, 374, 376, 378, 380, 382, 384, 386, 388, 390, 392, 394, 396, 398, 400, 402] (by decide +kernel) (by decide +kernel)
theorem gX8_15 {p : Program} {l : Launch} {e : Env} {R : Room} {s : State} {m : MethodId} {args : Array Value} {below : List Frame} {meth : Method} {c : Code} {H : Heap} {locs : List Loc} {cells slots : Nat} {Q : State → Prop} {cc : ByteArray} {pc nL : Nat} {ls : Array Slot} {rest : List Value} {ret : Option FieldType} {G : xG} {β : Nat} {D : Nat → Prop} {x : XS} (C : Cx p s m args meth c RX8 cc nL ret (KK G)) (hw : CW β D G x H) (hd : decode cc pc = .ok (.getfield 15, 3)) (kk : W p l e R s m args below meth c H locs cells slots Q (F0 m (pc + 3) ls (.int (x.1 0 1) :: rest))) : W p l e R s m args below meth c H locs cells slots Q (F0 m pc ls (.ref β :: rest)) :=
  va_get C.1 C.2.1 C.2.2.2.2.1 iwX8 C.2.2.2.1 C.K.1 (xP1 (hw.2.2.1 0 (by decide))) 0 rfl rfl 1 (by decide) (C.2.2.2.2.1 (.fieldLink RX8 15 RX8 "horseCount" "I") (tg 348 (by decide +kernel) rfl)) (fun _ h9 => h9) rfl hd kk
theorem sX8_138 {p : Program} {l : Launch} {e : Env} {R : Room} {s : State} {m : MethodId} {args : Array Value} {below : List Frame} {meth : Method} {c : Code} {H : Heap} {locs : List Loc} {cells slots : Nat} {Q : State → Prop} {cc : ByteArray} {pc nL : Nat} {ls : Array Slot} {rest : List Value} {ret : Option FieldType}  {G : xG} {β : Nat} {D : Nat → Prop} {x : XS} {a1 : Int32} {a2 : Int32} {a3 : Int32} {r : Bool} (C : Cx p s m args meth c RX8 cc nL ret (KK G)) (h : fX8_isWithin a1 a2 a3 = some r) (hw : CW β D G x H) (hS : va_S D s.heap H locs) (hsz : ls.size = nL) (hW : (rest.map fun v => v.category).sum ≤ 8) (hR : 1 ≤ R.frames) (hR2 : 22 ≤ R.locals) (hcs : cells ≤ R.cells ∧ slots ≤ R.slots) (hd : decode cc pc = .ok (.invokestatic 138, 3)) (kk : ∀ (H1 : Heap) (locs1 : List Loc), CW β D G x H1 → va_S D s.heap H1 locs1 → W p l e R s m args below meth c H1 locs1 cells slots Q (F0 m (pc + 3) ls (.int (bI r) :: rest))) : W p l e R s m args below meth c H locs cells slots Q (F0 m pc ls (.int a3 :: .int a2 :: .int a1 :: rest)) := by
  exact xcallS C (As := [.int a1, .int a2, .int a3]) (rest := rest) (nA := 3) (kX8_isWithin h) (tg 417 (by decide +kernel) rfl) (tg 418 (by decide +kernel) rfl) (tg 1 (by decide +kernel) rfl) (tg 419 (by decide +kernel) rfl) ⟨by decide +kernel, by decide +kernel, by decide +kernel⟩ rfl rfl ⟨hR, hR2⟩ hw hS (fun _ q => q) rfl rfl hsz hW hd hcs (fun H1 locs1 hw hz hk hS => kk H1 locs1 hw hS)
def fX8_isHorse (x : XS) (a1 : Int32) : Option (Bool) := Option.bind (fX8_isWithin a1 0 ((x.1 0 1) - 1)) fun v1 => some v1
abbrev rmX8_isHorse : Room := { frames := 1, cells := 0, slots := 0, locals := 22 }
set_option maxHeartbeats 4000000 in
set_option maxRecDepth 100000 in
theorem kX8_isHorse {l : Launch} {G : xG} {β : Nat} {D : Nat → Prop} {x : XS} {a1 : Int32} {r : Bool} (hm : fX8_isHorse x a1 = some r) : Met l yX8_isHorse (.code yX8_isHorse cX8_isHorse 2 (some .boolean) :: GT) rmX8_isHorse (PcW [.ref β, .int a1] (CW β D G x) (KK G)) (QcW D (some (.int (bI r))) (CW β D G x)) 0 0 D := by
  unfold fX8_isHorse at hm
  refine xpro (own := RX8) (by decide +kernel) rfl (Nat.le_of_ble_eq_true rfl) ?_
  intro p e s m args below meth c C hw ls hl
  have hx := C.1
  have hb := C.2.1
  have ho := C.2.2.2.1
  have hts := C.2.2.2.2.1
  have hS : va_S D s.heap s.heap [] := va_S.rf
  have hl : lv_has ls 2 [(0, .ref β), (1, .int a1)] := hl
  have hRf : 1 ≤ rmX8_isHorse.frames := Nat.le_refl _
  have hRl : 22 ≤ rmX8_isHorse.locals := Nat.le_refl _
  have hcs : 0 ≤ rmX8_isHorse.cells ∧ 0 ≤ rmX8_isHorse.slots := ⟨Nat.le_refl _, Nat.le_refl _⟩
  refine lv_iload_n hx hb dX8_isHorse_0 rfl (lv_at hl 1 rfl) ?_
  refine lv_iconst (v := 0) hx hb dX8_isHorse_1 (by decide) ?_
  refine lv_aload_n hx hb dX8_isHorse_2 rfl (lv_at hl 0 rfl) ?_
  refine gX8_15 C hw dX8_isHorse_3 ?_
  refine lv_iconst (v := 1) hx hb dX8_isHorse_6 (by decide) ?_
  refine lv_isub hx hb dX8_isHorse_7 ?_
  obtain ⟨v1, h2, hm⟩ := bind_e hm
  refine sX8_138 C h2 hw hS hl.1 (Nat.le_of_ble_eq_true rfl) (Nat.le_trans (Nat.le_of_ble_eq_true rfl) hRf) (Nat.le_trans (Nat.le_of_ble_eq_true rfl) hRl) hcs dX8_isHorse_8 (fun H locs hw hS => ?_)
  obtain rfl := Option.some.inj hm
  exact xret_z C (bI_nar _) hw hS dX8_isHorse_11
theorem dX8_horseAt_0 : decode cX8_horseAt 0 = .ok (.aload_n 0, 1) := by decide +kernel
theorem dX8_horseAt_1 : decode cX8_horseAt 1 = .ok (.iload_n 1, 1) := by decide +kernel
theorem dX8_horseAt_2 : decode cX8_horseAt 2 = .ok (.invokevirtual 154, 3) := by decide +kernel
theorem dX8_horseAt_5 : decode cX8_horseAt 5 = .ok (.ifCond .eq 12, 3) := by decide +kernel
theorem dX8_horseAt_8 : decode cX8_horseAt 8 = .ok (.aload_n 0, 1) := by decide +kernel
theorem dX8_horseAt_9 : decode cX8_horseAt 9 = .ok (.getfield 11, 3) := by decide +kernel
theorem dX8_horseAt_12 : decode cX8_horseAt 12 = .ok (.iload_n 1, 1) := by decide +kernel
theorem dX8_horseAt_13 : decode cX8_horseAt 13 = .ok (.aaload, 1) := by decide +kernel
theorem dX8_horseAt_14 : decode cX8_horseAt 14 = .ok (.goto 4, 3) := by decide +kernel
theorem dX8_horseAt_17 : decode cX8_horseAt 17 = .ok (.aconst_null, 1) := by decide +kernel
theorem dX8_horseAt_18 : decode cX8_horseAt 18 = .ok (.areturn, 1) := by decide +kernel
theorem sX8_154 {p : Program} {l : Launch} {e : Env} {R : Room} {s : State} {m : MethodId} {args : Array Value} {below : List Frame} {meth : Method} {c : Code} {H : Heap} {locs : List Loc} {cells slots : Nat} {Q : State → Prop} {cc : ByteArray} {pc nL : Nat} {ls : Array Slot} {rest : List Value} {ret : Option FieldType}  {G : xG} {β : Nat} {D : Nat → Prop} {x : XS} {a1 : Int32} {r : Bool} (C : Cx p s m args meth c RX8 cc nL ret (KK G)) (h : fX8_isHorse x a1 = some r) (hw : CW β D G x H) (hS : va_S D s.heap H locs) (hsz : ls.size = nL) (hW : (rest.map fun v => v.category).sum ≤ 8) (hR : 2 ≤ R.frames) (hR2 : 43 ≤ R.locals) (hcs : cells ≤ R.cells ∧ slots ≤ R.slots) (hd : decode cc pc = .ok (.invokevirtual 154, 3)) (kk : ∀ (H1 : Heap) (locs1 : List Loc), CW β D G x H1 → va_S D s.heap H1 locs1 → W p l e R s m args below meth c H1 locs1 cells slots Q (F0 m (pc + 3) ls (.int (bI r) :: rest))) : W p l e R s m args below meth c H locs cells slots Q (F0 m pc ls (.int a1 :: .ref β :: rest)) := by
  exact xcallV C (As := [.int a1]) (rest := rest) (nA := 1) (ci := 8) (kX8_isHorse h) (tg 464 (by decide +kernel) rfl) (tg 466 (by decide +kernel) rfl) (sg (List.mem_of_getElem? (i := 14) (by decide +kernel)) rfl) (tg 1 (by decide +kernel) rfl) (tg 467 (by decide +kernel) rfl) ⟨rfl, by decide +kernel, by decide +kernel, by decide +kernel⟩ rfl rfl rfl ⟨hR, hR2⟩ (hw.2.2.1 0 (by decide)) hw hS (fun _ q => q) rfl rfl hsz hW hd hcs (fun H1 locs1 hw hz hk hS => kk H1 locs1 hw hS)
theorem gX8_11 {p : Program} {l : Launch} {e : Env} {R : Room} {s : State} {m : MethodId} {args : Array Value} {below : List Frame} {meth : Method} {c : Code} {H : Heap} {locs : List Loc} {cells slots : Nat} {Q : State → Prop} {cc : ByteArray} {pc nL : Nat} {ls : Array Slot} {rest : List Value} {ret : Option FieldType} {G : xG} {β : Nat} {D : Nat → Prop} {x : XS} (C : Cx p s m args meth c RX8 cc nL ret (KK G)) (hw : CW β D G x H) (hd : decode cc pc = .ok (.getfield 11, 3)) (kk : W p l e R s m args below meth c H locs cells slots Q (F0 m (pc + 3) ls (.ref (β + 1) :: rest))) : W p l e R s m args below meth c H locs cells slots Q (F0 m pc ls (.ref β :: rest)) :=
  va_get C.1 C.2.1 C.2.2.2.2.1 iwX8 C.2.2.2.1 C.K.1 (xP1 (hw.2.2.1 0 (by decide))) 0 rfl rfl 0 (by decide) (C.2.2.2.2.1 (.fieldLink RX8 11 RX8 "stable" "[LAtThePost$Horse;") (tg 347 (by decide +kernel) rfl)) (fun _ h9 => h9) rfl hd kk
theorem alX_1 {p : Program} {l : Launch} {e : Env} {R : Room} {s : State} {m : MethodId} {args : Array Value} {below : List Frame} {meth : Method} {c : Code} {H : Heap} {locs : List Loc} {cells slots : Nat} {Q : State → Prop} {cc : ByteArray} {pc nL : Nat} {ls : Array Slot} {rest : List Value} {ret : Option FieldType} {G : xG} {β : Nat} {D : Nat → Prop} {x : XS} {own : String} {i : Int32} (C : Cx p s m args meth c own cc nL ret (KK G)) (hw : CW β D G x H) (hin : ib i 10) (hd : decode cc pc = .ok (.aaload, 1)) (kk : W p l e R s m args below meth c H locs cells slots Q (F0 m (pc + 1) ls (va_rf (x.2.2.1 1 i.toNatClampNeg) :: rest))) : W p l e R s m args below meth c H locs cells slots Q (F0 m pc ls (.int i :: .ref (β + 1) :: rest)) :=
  va_aldq (C := "AtThePost$Horse") C.1 C.2.1 C.K.1 (xP1 (hw.2.2.1 1 (by decide))) 0 4 rfl rfl hin hd kk
def fX8_horseAt (x : XS) (a1 : Int32) : Option (Option Nat) := Option.bind (fX8_isHorse x a1) fun v1 => if v1 = true then if ib a1 10 then lt (x.2.2.1 1 a1.toNatClampNeg) fun e4 => some e4 else none else some none
abbrev rmX8_horseAt : Room := { frames := 2, cells := 0, slots := 0, locals := 43 }
set_option maxHeartbeats 4000000 in
set_option maxRecDepth 100000 in
theorem kX8_horseAt {l : Launch} {G : xG} {β : Nat} {D : Nat → Prop} {x : XS} {a1 : Int32} {r : Option Nat} (hm : fX8_horseAt x a1 = some r) : Met l yX8_horseAt (.code yX8_horseAt cX8_horseAt 2 (some (.object "AtThePost$Horse")) :: GT) rmX8_horseAt (PcW [.ref β, .int a1] (CW β D G x) (KK G)) (QcW D (some (va_rf r)) (CW β D G x)) 0 0 D := by
  unfold fX8_horseAt at hm
  refine xpro (own := RX8) (by decide +kernel) rfl (Nat.le_of_ble_eq_true rfl) ?_
  intro p e s m args below meth c C hw ls hl
  have hx := C.1
  have hb := C.2.1
  have ho := C.2.2.2.1
  have hts := C.2.2.2.2.1
  have hS : va_S D s.heap s.heap [] := va_S.rf
  have hl : lv_has ls 2 [(0, .ref β), (1, .int a1)] := hl
  have hRf : 2 ≤ rmX8_horseAt.frames := Nat.le_refl _
  have hRl : 43 ≤ rmX8_horseAt.locals := Nat.le_refl _
  have hcs : 0 ≤ rmX8_horseAt.cells ∧ 0 ≤ rmX8_horseAt.slots := ⟨Nat.le_refl _, Nat.le_refl _⟩
  refine lv_aload_n hx hb dX8_horseAt_0 rfl (lv_at hl 0 rfl) ?_
  refine lv_iload_n hx hb dX8_horseAt_1 rfl (lv_at hl 1 rfl) ?_
  obtain ⟨v1, h2, hm⟩ := bind_e hm
  refine sX8_154 C h2 hw hS hl.1 (Nat.le_of_ble_eq_true rfl) (Nat.le_trans (Nat.le_of_ble_eq_true rfl) hRf) (Nat.le_trans (Nat.le_of_ble_eq_true rfl) hRl) hcs dX8_horseAt_2 (fun H locs hw hS => ?_)
  refine x_ifeqB hx hb dX8_horseAt_5 (tgt := 17) (by decide) (fun cc => ?_) (fun cc => ?_)
  · replace hm := ite_n cc hm
    refine lv_null hx hb dX8_horseAt_17 ?_
    obtain rfl := Option.some.inj hm
    exact xret_a C hw hS dX8_horseAt_18
  · replace hm := ite_p cc hm
    refine lv_aload_n hx hb dX8_horseAt_8 rfl (lv_at hl 0 rfl) ?_
    refine gX8_11 C hw dX8_horseAt_9 ?_
    refine lv_iload_n hx hb dX8_horseAt_12 rfl (lv_at hl 1 rfl) ?_
    obtain ⟨h3, hm⟩ := chk_e hm
    refine alX_1 C hw h3 dX8_horseAt_13 ?_
    refine topR hm (fun e4 hm => ?_)
    refine lv_goto (tgt := 18) hx hb dX8_horseAt_14 (by decide) ?_
    obtain rfl := Option.some.inj hm
    exact xret_a C hw hS dX8_horseAt_18
theorem dX8_set_0 : decode cX8_set 0 = .ok (.aload_n 0, 1) := by decide +kernel
theorem dX8_set_1 : decode cX8_set 1 = .ok (.iload_n 1, 1) := by decide +kernel
theorem dX8_set_2 : decode cX8_set 2 = .ok (.invokevirtual 134, 3) := by decide +kernel
theorem dX8_set_5 : decode cX8_set 5 = .ok (.astore 4, 2) := by decide +kernel
theorem dX8_set_7 : decode cX8_set 7 = .ok (.aload 4, 2) := by decide +kernel
theorem dX8_set_9 : decode cX8_set 9 = .ok (.ifnonnull 6, 3) := by decide +kernel
theorem dX8_set_12 : decode cX8_set 12 = .ok (.bipush (-2), 2) := by decide +kernel
theorem dX8_set_14 : decode cX8_set 14 = .ok (.ireturn, 1) := by decide +kernel
theorem dX8_set_15 : decode cX8_set 15 = .ok (.bipush (-2), 2) := by decide +kernel
theorem dX8_set_17 : decode cX8_set 17 = .ok (.istore 5, 2) := by decide +kernel
theorem dX8_set_19 : decode cX8_set 19 = .ok (.iload_n 2, 1) := by decide +kernel
theorem dX8_set_20 : decode cX8_set 20 = .ok (.ifCond .ne 29, 3) := by decide +kernel
theorem dX8_set_23 : decode cX8_set 23 = .ok (.iload_n 3, 1) := by decide +kernel
theorem dX8_set_24 : decode cX8_set 24 = .ok (.iconst 0, 1) := by decide +kernel
theorem dX8_set_25 : decode cX8_set 25 = .ok (.bipush 99, 2) := by decide +kernel
theorem dX8_set_27 : decode cX8_set 27 = .ok (.invokestatic 138, 3) := by decide +kernel
theorem dX8_set_30 : decode cX8_set 30 = .ok (.ifCond .eq 19, 3) := by decide +kernel
theorem dX8_set_33 : decode cX8_set 33 = .ok (.aload 4, 2) := by decide +kernel
theorem dX8_set_35 : decode cX8_set 35 = .ok (.getfield 141, 3) := by decide +kernel
theorem dX8_set_38 : decode cX8_set 38 = .ok (.istore 5, 2) := by decide +kernel
theorem dX8_set_40 : decode cX8_set 40 = .ok (.aload 4, 2) := by decide +kernel
theorem dX8_set_42 : decode cX8_set 42 = .ok (.iload_n 3, 1) := by decide +kernel
theorem dX8_set_43 : decode cX8_set 43 = .ok (.putfield 141, 3) := by decide +kernel
theorem dX8_set_46 : decode cX8_set 46 = .ok (.goto 62, 3) := by decide +kernel
theorem dX8_set_49 : decode cX8_set 49 = .ok (.iload_n 2, 1) := by decide +kernel
theorem dX8_set_50 : decode cX8_set 50 = .ok (.iconst 1, 1) := by decide +kernel
theorem dX8_set_51 : decode cX8_set 51 = .ok (.if_icmp .ne 29, 3) := by decide +kernel
theorem dX8_set_54 : decode cX8_set 54 = .ok (.iload_n 3, 1) := by decide +kernel
theorem dX8_set_55 : decode cX8_set 55 = .ok (.iconst 2, 1) := by decide +kernel
theorem dX8_set_56 : decode cX8_set 56 = .ok (.bipush 12, 2) := by decide +kernel
theorem dX8_set_58 : decode cX8_set 58 = .ok (.invokestatic 138, 3) := by decide +kernel
theorem dX8_set_61 : decode cX8_set 61 = .ok (.ifCond .eq 19, 3) := by decide +kernel
theorem dX8_set_64 : decode cX8_set 64 = .ok (.aload 4, 2) := by decide +kernel
theorem dX8_set_66 : decode cX8_set 66 = .ok (.getfield 144, 3) := by decide +kernel
theorem dX8_set_69 : decode cX8_set 69 = .ok (.istore 5, 2) := by decide +kernel
theorem dX8_set_71 : decode cX8_set 71 = .ok (.aload 4, 2) := by decide +kernel
theorem dX8_set_73 : decode cX8_set 73 = .ok (.iload_n 3, 1) := by decide +kernel
theorem dX8_set_74 : decode cX8_set 74 = .ok (.putfield 144, 3) := by decide +kernel
theorem dX8_set_77 : decode cX8_set 77 = .ok (.goto 31, 3) := by decide +kernel
theorem dX8_set_80 : decode cX8_set 80 = .ok (.iload_n 2, 1) := by decide +kernel
theorem dX8_set_81 : decode cX8_set 81 = .ok (.iconst 2, 1) := by decide +kernel
theorem dX8_set_82 : decode cX8_set 82 = .ok (.if_icmp .ne 26, 3) := by decide +kernel
theorem dX8_set_85 : decode cX8_set 85 = .ok (.iload_n 3, 1) := by decide +kernel
theorem dX8_set_86 : decode cX8_set 86 = .ok (.iconst 0, 1) := by decide +kernel
theorem dX8_set_87 : decode cX8_set 87 = .ok (.bipush 60, 2) := by decide +kernel
theorem dX8_set_89 : decode cX8_set 89 = .ok (.invokestatic 138, 3) := by decide +kernel
theorem dX8_set_92 : decode cX8_set 92 = .ok (.ifCond .eq 16, 3) := by decide +kernel
theorem dX8_set_95 : decode cX8_set 95 = .ok (.aload 4, 2) := by decide +kernel
theorem dX8_set_97 : decode cX8_set 97 = .ok (.getfield 147, 3) := by decide +kernel
theorem dX8_set_100 : decode cX8_set 100 = .ok (.istore 5, 2) := by decide +kernel
theorem dX8_set_102 : decode cX8_set 102 = .ok (.aload 4, 2) := by decide +kernel
theorem dX8_set_104 : decode cX8_set 104 = .ok (.iload_n 3, 1) := by decide +kernel
theorem dX8_set_105 : decode cX8_set 105 = .ok (.putfield 147, 3) := by decide +kernel
theorem dX8_set_108 : decode cX8_set 108 = .ok (.iload 5, 2) := by decide +kernel
theorem dX8_set_110 : decode cX8_set 110 = .ok (.ireturn, 1) := by decide +kernel
theorem sX8_134 {p : Program} {l : Launch} {e : Env} {R : Room} {s : State} {m : MethodId} {args : Array Value} {below : List Frame} {meth : Method} {c : Code} {H : Heap} {locs : List Loc} {cells slots : Nat} {Q : State → Prop} {cc : ByteArray} {pc nL : Nat} {ls : Array Slot} {rest : List Value} {ret : Option FieldType}  {G : xG} {β : Nat} {D : Nat → Prop} {x : XS} {a1 : Int32} {r : Option Nat} (C : Cx p s m args meth c RX8 cc nL ret (KK G)) (h : fX8_horseAt x a1 = some r) (hw : CW β D G x H) (hS : va_S D s.heap H locs) (hsz : ls.size = nL) (hW : (rest.map fun v => v.category).sum ≤ 8) (hR : 3 ≤ R.frames) (hR2 : 64 ≤ R.locals) (hcs : cells ≤ R.cells ∧ slots ≤ R.slots) (hd : decode cc pc = .ok (.invokevirtual 134, 3)) (kk : ∀ (H1 : Heap) (locs1 : List Loc), CW β D G x H1 → va_S D s.heap H1 locs1 → W p l e R s m args below meth c H1 locs1 cells slots Q (F0 m (pc + 3) ls (va_rf r :: rest))) : W p l e R s m args below meth c H locs cells slots Q (F0 m pc ls (.int a1 :: .ref β :: rest)) := by
  exact xcallV C (As := [.int a1]) (rest := rest) (nA := 1) (ci := 8) (kX8_horseAt h) (tg 460 (by decide +kernel) rfl) (tg 462 (by decide +kernel) rfl) (sg (List.mem_of_getElem? (i := 13) (by decide +kernel)) rfl) (tg 1 (by decide +kernel) rfl) (tg 463 (by decide +kernel) rfl) ⟨rfl, by decide +kernel, by decide +kernel, by decide +kernel⟩ rfl rfl rfl ⟨hR, hR2⟩ (hw.2.2.1 0 (by decide)) hw hS (fun _ q => q) rfl rfl hsz hW hd hcs (fun H1 locs1 hw hz hk hS => kk H1 locs1 hw hS)
theorem gdX8_147 {p : Program} {l : Launch} {e : Env} {R : Room} {s : State} {m : MethodId} {args : Array Value} {below : List Frame} {meth : Method} {c : Code} {H : Heap} {locs : List Loc} {cells slots : Nat} {Q : State → Prop} {cc : ByteArray} {pc nL : Nat} {ls : Array Slot} {rest : List Value} {ret : Option FieldType}  {G : xG} {β : Nat} {D : Nat → Prop} {x : XS} {a : Nat} {v : Int32} (C : Cx p s m args meth c RX8 cc nL ret (KK G)) (h : dI x a 1 5 = some v) (hw : CW β D G x H) (hd : decode cc pc = .ok (.getfield 147, 3)) (kk : W p l e R s m args below meth c H locs cells slots Q (F0 m (pc + 3) ls (.int v :: rest))) : W p l e R s m args below meth c H locs cells slots Q (F0 m pc ls (.ref a :: rest)) := by
  obtain ⟨fs, h1, h2⟩ := dI_e h
  exact va_getN (ci := 1) (fs := fs) C.1 C.2.1 C.2.2.2.2.1 iwX1 C.2.2.2.1 C.K.1 (xP1 (hw.2.2.2.1 a _ h1).2.2.2) 0 rfl rfl 5 (by decide) (va_Nw.use (w := .fieldLinkNest RX8 147 RX1 "lead" "I" "AtThePost") rfl (C.K.2.1 (RX8, 147, RX1, "lead", "I") (List.mem_of_getElem? (i := 21) rfl))) (fun _ h9 => h9) h2 hd kk
theorem pdX8_147 {p : Program} {l : Launch} {e : Env} {R : Room} {s : State} {m : MethodId} {args : Array Value} {below : List Frame} {meth : Method} {c : Code} {H : Heap} {locs : List Loc} {cells slots : Nat} {Q : State → Prop} {cc : ByteArray} {pc nL : Nat} {ls : Array Slot} {rest : List Value} {ret : Option FieldType}  {G : xG} {β : Nat} {D : Nat → Prop} {x x' : XS} {a : Nat} {v : Int32} (C : Cx p s m args meth c RX8 cc nL ret (KK G)) (h : dPut x a 1 5 (.int v) = some x') (hw : CW β D G x H) (hS : va_S D s.heap H locs) (hd : decode cc pc = .ok (.putfield 147, 3)) (kk : ∀ (H1 : Heap) (locs1 : List Loc), CW β D G x' H1 → va_S D s.heap H1 locs1 → W p l e R s m args below meth c H1 locs1 cells slots Q (F0 m (pc + 3) ls (rest))) : W p l e R s m args below meth c H locs cells slots Q (F0 m pc ls (.int v :: .ref a :: rest)) := by
  obtain ⟨fs, h1, h2, rfl⟩ := dPut_e h
  exact x_putN (ci := 1) (fs := fs) C.1 C.2.1 C.2.2.2.2.1 iwX1 tyX1 tyX1_ok nmX1 C.2.2.2.1 C.K.1 hS (hw.2.2.2.1 a _ h1).2.2.2 (hw.2.2.2.1 a _ h1).1 rfl 5 (by decide) (va_Nw.use (w := .fieldLinkNest RX8 147 RX1 "lead" "I" "AtThePost") rfl (C.K.2.1 (RX8, 147, RX1, "lead", "I") (List.mem_of_getElem? (i := 21) rfl))) (fun _ h9 => h9) rfl (ty := .int) (by decide +kernel) rfl rfl h2 hd (fun H1 locs1 hat ho hS => kk H1 locs1 (hw.setD h1 hat ho) hS)
theorem gdX8_144 {p : Program} {l : Launch} {e : Env} {R : Room} {s : State} {m : MethodId} {args : Array Value} {below : List Frame} {meth : Method} {c : Code} {H : Heap} {locs : List Loc} {cells slots : Nat} {Q : State → Prop} {cc : ByteArray} {pc nL : Nat} {ls : Array Slot} {rest : List Value} {ret : Option FieldType}  {G : xG} {β : Nat} {D : Nat → Prop} {x : XS} {a : Nat} {v : Int32} (C : Cx p s m args meth c RX8 cc nL ret (KK G)) (h : dI x a 1 4 = some v) (hw : CW β D G x H) (hd : decode cc pc = .ok (.getfield 144, 3)) (kk : W p l e R s m args below meth c H locs cells slots Q (F0 m (pc + 3) ls (.int v :: rest))) : W p l e R s m args below meth c H locs cells slots Q (F0 m pc ls (.ref a :: rest)) := by
  obtain ⟨fs, h1, h2⟩ := dI_e h
  exact va_getN (ci := 1) (fs := fs) C.1 C.2.1 C.2.2.2.2.1 iwX1 C.2.2.2.1 C.K.1 (xP1 (hw.2.2.2.1 a _ h1).2.2.2) 0 rfl rfl 4 (by decide) (va_Nw.use (w := .fieldLinkNest RX8 144 RX1 "age" "I" "AtThePost") rfl (C.K.2.1 (RX8, 144, RX1, "age", "I") (List.mem_of_getElem? (i := 19) rfl))) (fun _ h9 => h9) h2 hd kk
theorem pdX8_144 {p : Program} {l : Launch} {e : Env} {R : Room} {s : State} {m : MethodId} {args : Array Value} {below : List Frame} {meth : Method} {c : Code} {H : Heap} {locs : List Loc} {cells slots : Nat} {Q : State → Prop} {cc : ByteArray} {pc nL : Nat} {ls : Array Slot} {rest : List Value} {ret : Option FieldType}  {G : xG} {β : Nat} {D : Nat → Prop} {x x' : XS} {a : Nat} {v : Int32} (C : Cx p s m args meth c RX8 cc nL ret (KK G)) (h : dPut x a 1 4 (.int v) = some x') (hw : CW β D G x H) (hS : va_S D s.heap H locs) (hd : decode cc pc = .ok (.putfield 144, 3)) (kk : ∀ (H1 : Heap) (locs1 : List Loc), CW β D G x' H1 → va_S D s.heap H1 locs1 → W p l e R s m args below meth c H1 locs1 cells slots Q (F0 m (pc + 3) ls (rest))) : W p l e R s m args below meth c H locs cells slots Q (F0 m pc ls (.int v :: .ref a :: rest)) := by
  obtain ⟨fs, h1, h2, rfl⟩ := dPut_e h
  exact x_putN (ci := 1) (fs := fs) C.1 C.2.1 C.2.2.2.2.1 iwX1 tyX1 tyX1_ok nmX1 C.2.2.2.1 C.K.1 hS (hw.2.2.2.1 a _ h1).2.2.2 (hw.2.2.2.1 a _ h1).1 rfl 4 (by decide) (va_Nw.use (w := .fieldLinkNest RX8 144 RX1 "age" "I" "AtThePost") rfl (C.K.2.1 (RX8, 144, RX1, "age", "I") (List.mem_of_getElem? (i := 19) rfl))) (fun _ h9 => h9) rfl (ty := .int) (by decide +kernel) rfl rfl h2 hd (fun H1 locs1 hat ho hS => kk H1 locs1 (hw.setD h1 hat ho) hS)
theorem gdX8_141 {p : Program} {l : Launch} {e : Env} {R : Room} {s : State} {m : MethodId} {args : Array Value} {below : List Frame} {meth : Method} {c : Code} {H : Heap} {locs : List Loc} {cells slots : Nat} {Q : State → Prop} {cc : ByteArray} {pc nL : Nat} {ls : Array Slot} {rest : List Value} {ret : Option FieldType}  {G : xG} {β : Nat} {D : Nat → Prop} {x : XS} {a : Nat} {v : Int32} (C : Cx p s m args meth c RX8 cc nL ret (KK G)) (h : dI x a 1 3 = some v) (hw : CW β D G x H) (hd : decode cc pc = .ok (.getfield 141, 3)) (kk : W p l e R s m args below meth c H locs cells slots Q (F0 m (pc + 3) ls (.int v :: rest))) : W p l e R s m args below meth c H locs cells slots Q (F0 m pc ls (.ref a :: rest)) := by
  obtain ⟨fs, h1, h2⟩ := dI_e h
  exact va_getN (ci := 1) (fs := fs) C.1 C.2.1 C.2.2.2.2.1 iwX1 C.2.2.2.1 C.K.1 (xP1 (hw.2.2.2.1 a _ h1).2.2.2) 0 rfl rfl 3 (by decide) (va_Nw.use (w := .fieldLinkNest RX8 141 RX1 "strength" "I" "AtThePost") rfl (C.K.2.1 (RX8, 141, RX1, "strength", "I") (List.mem_of_getElem? (i := 17) rfl))) (fun _ h9 => h9) h2 hd kk
theorem pdX8_141 {p : Program} {l : Launch} {e : Env} {R : Room} {s : State} {m : MethodId} {args : Array Value} {below : List Frame} {meth : Method} {c : Code} {H : Heap} {locs : List Loc} {cells slots : Nat} {Q : State → Prop} {cc : ByteArray} {pc nL : Nat} {ls : Array Slot} {rest : List Value} {ret : Option FieldType}  {G : xG} {β : Nat} {D : Nat → Prop} {x x' : XS} {a : Nat} {v : Int32} (C : Cx p s m args meth c RX8 cc nL ret (KK G)) (h : dPut x a 1 3 (.int v) = some x') (hw : CW β D G x H) (hS : va_S D s.heap H locs) (hd : decode cc pc = .ok (.putfield 141, 3)) (kk : ∀ (H1 : Heap) (locs1 : List Loc), CW β D G x' H1 → va_S D s.heap H1 locs1 → W p l e R s m args below meth c H1 locs1 cells slots Q (F0 m (pc + 3) ls (rest))) : W p l e R s m args below meth c H locs cells slots Q (F0 m pc ls (.int v :: .ref a :: rest)) := by
  obtain ⟨fs, h1, h2, rfl⟩ := dPut_e h
  exact x_putN (ci := 1) (fs := fs) C.1 C.2.1 C.2.2.2.2.1 iwX1 tyX1 tyX1_ok nmX1 C.2.2.2.1 C.K.1 hS (hw.2.2.2.1 a _ h1).2.2.2 (hw.2.2.2.1 a _ h1).1 rfl 3 (by decide) (va_Nw.use (w := .fieldLinkNest RX8 141 RX1 "strength" "I" "AtThePost") rfl (C.K.2.1 (RX8, 141, RX1, "strength", "I") (List.mem_of_getElem? (i := 17) rfl))) (fun _ h9 => h9) rfl (ty := .int) (by decide +kernel) rfl rfl h2 hd (fun H1 locs1 hat ho hS => kk H1 locs1 (hw.setD h1 hat ho) hS)
def fX8_set (x : XS) (a1 : Int32) (a2 : Int32) (a3 : Int32) : Option (Int32 × XS) := Option.bind (fX8_horseAt x a1) fun v1 => oc v1 (some ((-2), x)) (fun p3 => if a2 = 0 then Option.bind (fX8_isWithin a3 0 99) fun v22 => if v22 = true then Option.bind (dI x p3 1 3) fun v42 => Option.bind (dPut x p3 1 3 (.int a3)) fun x44 => some (v42, x44) else if a2 = 1 then Option.bind (fX8_isWithin a3 2 12) fun v30 => if v30 = true then Option.bind (dI x p3 1 4) fun v38 => Option.bind (dPut x p3 1 4 (.int a3)) fun x40 => some (v38, x40) else if a2 = 2 then Option.bind (fX8_isWithin a3 0 60) fun v32 => if v32 = true then Option.bind (dI x p3 1 5) fun v34 => Option.bind (dPut x p3 1 5 (.int a3)) fun x36 => some (v34, x36) else some ((-2), x) else some ((-2), x) else if a2 = 2 then Option.bind (fX8_isWithin a3 0 60) fun v24 => if v24 = true then Option.bind (dI x p3 1 5) fun v26 => Option.bind (dPut x p3 1 5 (.int a3)) fun x28 => some (v26, x28) else some ((-2), x) else some ((-2), x) else if a2 = 1 then Option.bind (fX8_isWithin a3 2 12) fun v10 => if v10 = true then Option.bind (dI x p3 1 4) fun v18 => Option.bind (dPut x p3 1 4 (.int a3)) fun x20 => some (v18, x20) else if a2 = 2 then Option.bind (fX8_isWithin a3 0 60) fun v12 => if v12 = true then Option.bind (dI x p3 1 5) fun v14 => Option.bind (dPut x p3 1 5 (.int a3)) fun x16 => some (v14, x16) else some ((-2), x) else some ((-2), x) else if a2 = 2 then Option.bind (fX8_isWithin a3 0 60) fun v4 => if v4 = true then Option.bind (dI x p3 1 5) fun v6 => Option.bind (dPut x p3 1 5 (.int a3)) fun x8 => some (v6, x8) else some ((-2), x) else some ((-2), x))
abbrev rmX8_set : Room := { frames := 3, cells := 0, slots := 0, locals := 64 }
set_option maxHeartbeats 4000000 in
set_option maxRecDepth 100000 in
theorem kX8_set {l : Launch} {G : xG} {β : Nat} {D : Nat → Prop} {x x' : XS} {a1 : Int32} {a2 : Int32} {a3 : Int32} {r : Int32} (hm : fX8_set x a1 a2 a3 = some (r, x')) : Met l yX8_set (.code yX8_set cX8_set 6 (some .int) :: GT) rmX8_set (PcW [.ref β, .int a1, .int a2, .int a3] (CW β D G x) (KK G)) (QcW D (some (.int r)) (CW β D G x')) 0 0 D := by
  unfold fX8_set at hm
  refine xpro (own := RX8) (by decide +kernel) rfl (Nat.le_of_ble_eq_true rfl) ?_
  intro p e s m args below meth c C hw ls hl
  have hx := C.1
  have hb := C.2.1
  have ho := C.2.2.2.1
  have hts := C.2.2.2.2.1
  have hS : va_S D s.heap s.heap [] := va_S.rf
  have hl : lv_has ls 6 [(0, .ref β), (1, .int a1), (2, .int a2), (3, .int a3)] := hl
  have hRf : 3 ≤ rmX8_set.frames := Nat.le_refl _
  have hRl : 64 ≤ rmX8_set.locals := Nat.le_refl _
  have hcs : 0 ≤ rmX8_set.cells ∧ 0 ≤ rmX8_set.slots := ⟨Nat.le_refl _, Nat.le_refl _⟩
  refine lv_aload_n hx hb dX8_set_0 rfl (lv_at hl 0 rfl) ?_
  refine lv_iload_n hx hb dX8_set_1 rfl (lv_at hl 1 rfl) ?_
  obtain ⟨v1, h2, hm⟩ := bind_e hm
  refine sX8_134 C h2 hw hS hl.1 (Nat.le_of_ble_eq_true rfl) (Nat.le_trans (Nat.le_of_ble_eq_true rfl) hRf) (Nat.le_trans (Nat.le_of_ble_eq_true rfl) hRl) hcs dX8_set_2 (fun H locs hw hS => ?_)
  refine x_astoreq (lv' := [(4, va_rf v1), (0, .ref β), (1, .int a1), (2, .int a2), (3, .int a3)]) hx hb dX8_set_5 hl (by decide) rfl (fun ls hl => ?_)
  refine x_aloadq hx hb dX8_set_7 (lv_at hl 0 rfl) ?_
  rcases v1 with _ | p3
  · replace hm := oc_n hm
    refine lv_ifnonnullN hx hb dX8_set_9 ?_
    refine lv_bipush (v := (-2)) hx hb dX8_set_12 (by decide) ?_
    obtain ⟨rfl, rfl⟩ := inj2 hm
    exact xret_i C hw hS dX8_set_14
  · replace hm := oc_s hm
    refine lv_ifnonnull (tgt := 15) hx hb dX8_set_9 (by decide) ?_
    refine lv_bipush (v := (-2)) hx hb dX8_set_15 (by decide) ?_
    refine lv_istore (lv' := [(5, .int (-2)), (4, .ref p3), (0, .ref β), (1, .int a1), (2, .int a2), (3, .int a3)]) hx hb dX8_set_17 hl (by decide) rfl (fun ls hl => ?_)
    refine lv_iload_n hx hb dX8_set_19 rfl (lv_at hl 4 rfl) ?_
    refine lv_if_ne (tgt := 49) hx hb dX8_set_20 (by decide) (fun cc => ?_) (fun cc => ?_)
    · replace hm := ite_n cc hm
      refine lv_iload_n hx hb dX8_set_49 rfl (lv_at hl 4 rfl) ?_
      refine lv_iconst (v := 1) hx hb dX8_set_50 (by decide) ?_
      refine lv_icmp_ne (tgt := 80) hx hb dX8_set_51 (by decide) (fun cc => ?_) (fun cc => ?_)
      · replace hm := ite_n cc hm
        refine lv_iload_n hx hb dX8_set_80 rfl (lv_at hl 4 rfl) ?_
        refine lv_iconst (v := 2) hx hb dX8_set_81 (by decide) ?_
        refine lv_icmp_ne (tgt := 108) hx hb dX8_set_82 (by decide) (fun cc => ?_) (fun cc => ?_)
        · replace hm := ite_n cc hm
          refine lv_iload hx hb dX8_set_108 (lv_at hl 0 rfl) ?_
          obtain ⟨rfl, rfl⟩ := inj2 hm
          exact xret_i C hw hS dX8_set_110
        · replace hm := ite_p cc hm
          refine lv_iload_n hx hb dX8_set_85 rfl (lv_at hl 5 rfl) ?_
          refine lv_iconst (v := 0) hx hb dX8_set_86 (by decide) ?_
          refine lv_bipush (v := 60) hx hb dX8_set_87 (by decide) ?_
          obtain ⟨v4, h5, hm⟩ := bind_e hm
          refine sX8_138 C h5 hw hS hl.1 (Nat.le_of_ble_eq_true rfl) (Nat.le_trans (Nat.le_of_ble_eq_true rfl) hRf) (Nat.le_trans (Nat.le_of_ble_eq_true rfl) hRl) hcs dX8_set_89 (fun H locs hw hS => ?_)
          refine x_ifeqB hx hb dX8_set_92 (tgt := 108) (by decide) (fun cc => ?_) (fun cc => ?_)
          · replace hm := ite_n cc hm
            refine lv_iload hx hb dX8_set_108 (lv_at hl 0 rfl) ?_
            obtain ⟨rfl, rfl⟩ := inj2 hm
            exact xret_i C hw hS dX8_set_110
          · replace hm := ite_p cc hm
            refine lv_aload hx hb dX8_set_95 (lv_at hl 1 rfl) ?_
            obtain ⟨v6, h7, hm⟩ := bind_e hm
            refine gdX8_147 C h7 hw dX8_set_97 ?_
            refine lv_istore (lv' := [(5, .int v6), (4, .ref p3), (0, .ref β), (1, .int a1), (2, .int a2), (3, .int a3)]) hx hb dX8_set_100 hl (by decide) rfl (fun ls hl => ?_)
            refine lv_aload hx hb dX8_set_102 (lv_at hl 1 rfl) ?_
            refine lv_iload_n hx hb dX8_set_104 rfl (lv_at hl 5 rfl) ?_
            obtain ⟨x8, h9, hm⟩ := bind_e hm
            refine pdX8_147 C h9 hw hS dX8_set_105 (fun H locs hw hS => ?_)
            refine lv_iload hx hb dX8_set_108 (lv_at hl 0 rfl) ?_
            obtain ⟨rfl, rfl⟩ := inj2 hm
            exact xret_i C hw hS dX8_set_110
      · replace hm := ite_p cc hm
        refine lv_iload_n hx hb dX8_set_54 rfl (lv_at hl 5 rfl) ?_
        refine lv_iconst (v := 2) hx hb dX8_set_55 (by decide) ?_
        refine lv_bipush (v := 12) hx hb dX8_set_56 (by decide) ?_
        obtain ⟨v10, h11, hm⟩ := bind_e hm
        refine sX8_138 C h11 hw hS hl.1 (Nat.le_of_ble_eq_true rfl) (Nat.le_trans (Nat.le_of_ble_eq_true rfl) hRf) (Nat.le_trans (Nat.le_of_ble_eq_true rfl) hRl) hcs dX8_set_58 (fun H locs hw hS => ?_)
        refine x_ifeqB hx hb dX8_set_61 (tgt := 80) (by decide) (fun cc => ?_) (fun cc => ?_)
        · replace hm := ite_n cc hm
          refine lv_iload_n hx hb dX8_set_80 rfl (lv_at hl 4 rfl) ?_
          refine lv_iconst (v := 2) hx hb dX8_set_81 (by decide) ?_
          refine lv_icmp_ne (tgt := 108) hx hb dX8_set_82 (by decide) (fun cc => ?_) (fun cc => ?_)
          · replace hm := ite_n cc hm
            refine lv_iload hx hb dX8_set_108 (lv_at hl 0 rfl) ?_
            obtain ⟨rfl, rfl⟩ := inj2 hm
            exact xret_i C hw hS dX8_set_110
          · replace hm := ite_p cc hm
            refine lv_iload_n hx hb dX8_set_85 rfl (lv_at hl 5 rfl) ?_
            refine lv_iconst (v := 0) hx hb dX8_set_86 (by decide) ?_
            refine lv_bipush (v := 60) hx hb dX8_set_87 (by decide) ?_
            obtain ⟨v12, h13, hm⟩ := bind_e hm
            refine sX8_138 C h13 hw hS hl.1 (Nat.le_of_ble_eq_true rfl) (Nat.le_trans (Nat.le_of_ble_eq_true rfl) hRf) (Nat.le_trans (Nat.le_of_ble_eq_true rfl) hRl) hcs dX8_set_89 (fun H locs hw hS => ?_)
            refine x_ifeqB hx hb dX8_set_92 (tgt := 108) (by decide) (fun cc => ?_) (fun cc => ?_)
            · replace hm := ite_n cc hm
              refine lv_iload hx hb dX8_set_108 (lv_at hl 0 rfl) ?_
              obtain ⟨rfl, rfl⟩ := inj2 hm
              exact xret_i C hw hS dX8_set_110
            · replace hm := ite_p cc hm
              refine lv_aload hx hb dX8_set_95 (lv_at hl 1 rfl) ?_
              obtain ⟨v14, h15, hm⟩ := bind_e hm
              refine gdX8_147 C h15 hw dX8_set_97 ?_
              refine lv_istore (lv' := [(5, .int v14), (4, .ref p3), (0, .ref β), (1, .int a1), (2, .int a2), (3, .int a3)]) hx hb dX8_set_100 hl (by decide) rfl (fun ls hl => ?_)
              refine lv_aload hx hb dX8_set_102 (lv_at hl 1 rfl) ?_
              refine lv_iload_n hx hb dX8_set_104 rfl (lv_at hl 5 rfl) ?_
              obtain ⟨x16, h17, hm⟩ := bind_e hm
              refine pdX8_147 C h17 hw hS dX8_set_105 (fun H locs hw hS => ?_)
              refine lv_iload hx hb dX8_set_108 (lv_at hl 0 rfl) ?_
              obtain ⟨rfl, rfl⟩ := inj2 hm
              exact xret_i C hw hS dX8_set_110
        · replace hm := ite_p cc hm
          refine lv_aload hx hb dX8_set_64 (lv_at hl 1 rfl) ?_
          obtain ⟨v18, h19, hm⟩ := bind_e hm
          refine gdX8_144 C h19 hw dX8_set_66 ?_
          refine lv_istore (lv' := [(5, .int v18), (4, .ref p3), (0, .ref β), (1, .int a1), (2, .int a2), (3, .int a3)]) hx hb dX8_set_69 hl (by decide) rfl (fun ls hl => ?_)
          refine lv_aload hx hb dX8_set_71 (lv_at hl 1 rfl) ?_
          refine lv_iload_n hx hb dX8_set_73 rfl (lv_at hl 5 rfl) ?_
          obtain ⟨x20, h21, hm⟩ := bind_e hm
          refine pdX8_144 C h21 hw hS dX8_set_74 (fun H locs hw hS => ?_)
          refine lv_goto (tgt := 108) hx hb dX8_set_77 (by decide) ?_
          refine lv_iload hx hb dX8_set_108 (lv_at hl 0 rfl) ?_
          obtain ⟨rfl, rfl⟩ := inj2 hm
          exact xret_i C hw hS dX8_set_110
    · replace hm := ite_p cc hm
      refine lv_iload_n hx hb dX8_set_23 rfl (lv_at hl 5 rfl) ?_
      refine lv_iconst (v := 0) hx hb dX8_set_24 (by decide) ?_
      refine lv_bipush (v := 99) hx hb dX8_set_25 (by decide) ?_
      obtain ⟨v22, h23, hm⟩ := bind_e hm
      refine sX8_138 C h23 hw hS hl.1 (Nat.le_of_ble_eq_true rfl) (Nat.le_trans (Nat.le_of_ble_eq_true rfl) hRf) (Nat.le_trans (Nat.le_of_ble_eq_true rfl) hRl) hcs dX8_set_27 (fun H locs hw hS => ?_)
      refine x_ifeqB hx hb dX8_set_30 (tgt := 49) (by decide) (fun cc => ?_) (fun cc => ?_)
      · replace hm := ite_n cc hm
        refine lv_iload_n hx hb dX8_set_49 rfl (lv_at hl 4 rfl) ?_
        refine lv_iconst (v := 1) hx hb dX8_set_50 (by decide) ?_
        refine lv_icmp_ne (tgt := 80) hx hb dX8_set_51 (by decide) (fun cc => ?_) (fun cc => ?_)
        · replace hm := ite_n cc hm
          refine lv_iload_n hx hb dX8_set_80 rfl (lv_at hl 4 rfl) ?_
          refine lv_iconst (v := 2) hx hb dX8_set_81 (by decide) ?_
          refine lv_icmp_ne (tgt := 108) hx hb dX8_set_82 (by decide) (fun cc => ?_) (fun cc => ?_)
          · replace hm := ite_n cc hm
            refine lv_iload hx hb dX8_set_108 (lv_at hl 0 rfl) ?_
            obtain ⟨rfl, rfl⟩ := inj2 hm
            exact xret_i C hw hS dX8_set_110
          · replace hm := ite_p cc hm
            refine lv_iload_n hx hb dX8_set_85 rfl (lv_at hl 5 rfl) ?_
            refine lv_iconst (v := 0) hx hb dX8_set_86 (by decide) ?_
            refine lv_bipush (v := 60) hx hb dX8_set_87 (by decide) ?_
            obtain ⟨v24, h25, hm⟩ := bind_e hm
            refine sX8_138 C h25 hw hS hl.1 (Nat.le_of_ble_eq_true rfl) (Nat.le_trans (Nat.le_of_ble_eq_true rfl) hRf) (Nat.le_trans (Nat.le_of_ble_eq_true rfl) hRl) hcs dX8_set_89 (fun H locs hw hS => ?_)
            refine x_ifeqB hx hb dX8_set_92 (tgt := 108) (by decide) (fun cc => ?_) (fun cc => ?_)
            · replace hm := ite_n cc hm
              refine lv_iload hx hb dX8_set_108 (lv_at hl 0 rfl) ?_
              obtain ⟨rfl, rfl⟩ := inj2 hm
              exact xret_i C hw hS dX8_set_110
            · replace hm := ite_p cc hm
              refine lv_aload hx hb dX8_set_95 (lv_at hl 1 rfl) ?_
              obtain ⟨v26, h27, hm⟩ := bind_e hm
              refine gdX8_147 C h27 hw dX8_set_97 ?_
              refine lv_istore (lv' := [(5, .int v26), (4, .ref p3), (0, .ref β), (1, .int a1), (2, .int a2), (3, .int a3)]) hx hb dX8_set_100 hl (by decide) rfl (fun ls hl => ?_)
              refine lv_aload hx hb dX8_set_102 (lv_at hl 1 rfl) ?_
              refine lv_iload_n hx hb dX8_set_104 rfl (lv_at hl 5 rfl) ?_
              obtain ⟨x28, h29, hm⟩ := bind_e hm
              refine pdX8_147 C h29 hw hS dX8_set_105 (fun H locs hw hS => ?_)
              refine lv_iload hx hb dX8_set_108 (lv_at hl 0 rfl) ?_
              obtain ⟨rfl, rfl⟩ := inj2 hm
              exact xret_i C hw hS dX8_set_110
        · replace hm := ite_p cc hm
          refine lv_iload_n hx hb dX8_set_54 rfl (lv_at hl 5 rfl) ?_
          refine lv_iconst (v := 2) hx hb dX8_set_55 (by decide) ?_
          refine lv_bipush (v := 12) hx hb dX8_set_56 (by decide) ?_
          obtain ⟨v30, h31, hm⟩ := bind_e hm
          refine sX8_138 C h31 hw hS hl.1 (Nat.le_of_ble_eq_true rfl) (Nat.le_trans (Nat.le_of_ble_eq_true rfl) hRf) (Nat.le_trans (Nat.le_of_ble_eq_true rfl) hRl) hcs dX8_set_58 (fun H locs hw hS => ?_)
          refine x_ifeqB hx hb dX8_set_61 (tgt := 80) (by decide) (fun cc => ?_) (fun cc => ?_)
          · replace hm := ite_n cc hm
            refine lv_iload_n hx hb dX8_set_80 rfl (lv_at hl 4 rfl) ?_
            refine lv_iconst (v := 2) hx hb dX8_set_81 (by decide) ?_
            refine lv_icmp_ne (tgt := 108) hx hb dX8_set_82 (by decide) (fun cc => ?_) (fun cc => ?_)
            · replace hm := ite_n cc hm
              refine lv_iload hx hb dX8_set_108 (lv_at hl 0 rfl) ?_
              obtain ⟨rfl, rfl⟩ := inj2 hm
              exact xret_i C hw hS dX8_set_110
            · replace hm := ite_p cc hm
              refine lv_iload_n hx hb dX8_set_85 rfl (lv_at hl 5 rfl) ?_
              refine lv_iconst (v := 0) hx hb dX8_set_86 (by decide) ?_
              refine lv_bipush (v := 60) hx hb dX8_set_87 (by decide) ?_
              obtain ⟨v32, h33, hm⟩ := bind_e hm
              refine sX8_138 C h33 hw hS hl.1 (Nat.le_of_ble_eq_true rfl) (Nat.le_trans (Nat.le_of_ble_eq_true rfl) hRf) (Nat.le_trans (Nat.le_of_ble_eq_true rfl) hRl) hcs dX8_set_89 (fun H locs hw hS => ?_)
              refine x_ifeqB hx hb dX8_set_92 (tgt := 108) (by decide) (fun cc => ?_) (fun cc => ?_)
              · replace hm := ite_n cc hm
                refine lv_iload hx hb dX8_set_108 (lv_at hl 0 rfl) ?_
                obtain ⟨rfl, rfl⟩ := inj2 hm
                exact xret_i C hw hS dX8_set_110
              · replace hm := ite_p cc hm
                refine lv_aload hx hb dX8_set_95 (lv_at hl 1 rfl) ?_
                obtain ⟨v34, h35, hm⟩ := bind_e hm
                refine gdX8_147 C h35 hw dX8_set_97 ?_
                refine lv_istore (lv' := [(5, .int v34), (4, .ref p3), (0, .ref β), (1, .int a1), (2, .int a2), (3, .int a3)]) hx hb dX8_set_100 hl (by decide) rfl (fun ls hl => ?_)
                refine lv_aload hx hb dX8_set_102 (lv_at hl 1 rfl) ?_
                refine lv_iload_n hx hb dX8_set_104 rfl (lv_at hl 5 rfl) ?_
                obtain ⟨x36, h37, hm⟩ := bind_e hm
                refine pdX8_147 C h37 hw hS dX8_set_105 (fun H locs hw hS => ?_)
                refine lv_iload hx hb dX8_set_108 (lv_at hl 0 rfl) ?_
                obtain ⟨rfl, rfl⟩ := inj2 hm
                exact xret_i C hw hS dX8_set_110
          · replace hm := ite_p cc hm
            refine lv_aload hx hb dX8_set_64 (lv_at hl 1 rfl) ?_
            obtain ⟨v38, h39, hm⟩ := bind_e hm
            refine gdX8_144 C h39 hw dX8_set_66 ?_
            refine lv_istore (lv' := [(5, .int v38), (4, .ref p3), (0, .ref β), (1, .int a1), (2, .int a2), (3, .int a3)]) hx hb dX8_set_69 hl (by decide) rfl (fun ls hl => ?_)
            refine lv_aload hx hb dX8_set_71 (lv_at hl 1 rfl) ?_
            refine lv_iload_n hx hb dX8_set_73 rfl (lv_at hl 5 rfl) ?_
            obtain ⟨x40, h41, hm⟩ := bind_e hm
            refine pdX8_144 C h41 hw hS dX8_set_74 (fun H locs hw hS => ?_)
            refine lv_goto (tgt := 108) hx hb dX8_set_77 (by decide) ?_
            refine lv_iload hx hb dX8_set_108 (lv_at hl 0 rfl) ?_
            obtain ⟨rfl, rfl⟩ := inj2 hm
            exact xret_i C hw hS dX8_set_110
      · replace hm := ite_p cc hm
        refine lv_aload hx hb dX8_set_33 (lv_at hl 1 rfl) ?_
        obtain ⟨v42, h43, hm⟩ := bind_e hm
        refine gdX8_141 C h43 hw dX8_set_35 ?_
        refine lv_istore (lv' := [(5, .int v42), (4, .ref p3), (0, .ref β), (1, .int a1), (2, .int a2), (3, .int a3)]) hx hb dX8_set_38 hl (by decide) rfl (fun ls hl => ?_)
        refine lv_aload hx hb dX8_set_40 (lv_at hl 1 rfl) ?_
        refine lv_iload_n hx hb dX8_set_42 rfl (lv_at hl 5 rfl) ?_
        obtain ⟨x44, h45, hm⟩ := bind_e hm
        refine pdX8_141 C h45 hw hS dX8_set_43 (fun H locs hw hS => ?_)
        refine lv_goto (tgt := 108) hx hb dX8_set_46 (by decide) ?_
        refine lv_iload hx hb dX8_set_108 (lv_at hl 0 rfl) ?_
        obtain ⟨rfl, rfl⟩ := inj2 hm
        exact xret_i C hw hS dX8_set_110
theorem dX8_isGround_0 : decode cX8_isGround 0 = .ok (.iload_n 0, 1) := by decide +kernel
theorem dX8_isGround_1 : decode cX8_isGround 1 = .ok (.iconst 0, 1) := by decide +kernel
theorem dX8_isGround_2 : decode cX8_isGround 2 = .ok (.iconst 3, 1) := by decide +kernel
theorem dX8_isGround_3 : decode cX8_isGround 3 = .ok (.invokestatic 138, 3) := by decide +kernel
theorem dX8_isGround_6 : decode cX8_isGround 6 = .ok (.ireturn, 1) := by decide +kernel
def fX8_isGround (a1 : Int32) : Option (Bool) := Option.bind (fX8_isWithin a1 0 3) fun v1 => some v1
abbrev rmX8_isGround : Room := { frames := 1, cells := 0, slots := 0, locals := 22 }
set_option maxHeartbeats 4000000 in
set_option maxRecDepth 100000 in
theorem kX8_isGround {l : Launch} {G : xG} {β : Nat} {D : Nat → Prop} {x : XS} {a1 : Int32} {r : Bool} (hm : fX8_isGround a1 = some r) : Met l yX8_isGround (.code yX8_isGround cX8_isGround 1 (some .boolean) :: GT) rmX8_isGround (PcW [.int a1] (CW β D G x) (KK G)) (QcW D (some (.int (bI r))) (CW β D G x)) 0 0 D := by
  unfold fX8_isGround at hm
  refine xpro (own := RX8) (by decide +kernel) rfl (Nat.le_of_ble_eq_true rfl) ?_
  intro p e s m args below meth c C hw ls hl
  have hx := C.1
  have hb := C.2.1
  have ho := C.2.2.2.1
  have hts := C.2.2.2.2.1
  have hS : va_S D s.heap s.heap [] := va_S.rf
  have hl : lv_has ls 1 [(0, .int a1)] := hl
  have hRf : 1 ≤ rmX8_isGround.frames := Nat.le_refl _
  have hRl : 22 ≤ rmX8_isGround.locals := Nat.le_refl _
  have hcs : 0 ≤ rmX8_isGround.cells ∧ 0 ≤ rmX8_isGround.slots := ⟨Nat.le_refl _, Nat.le_refl _⟩
  refine lv_iload_n hx hb dX8_isGround_0 rfl (lv_at hl 0 rfl) ?_
  refine lv_iconst (v := 0) hx hb dX8_isGround_1 (by decide) ?_
  refine lv_iconst (v := 3) hx hb dX8_isGround_2 (by decide) ?_
  obtain ⟨v1, h2, hm⟩ := bind_e hm
  refine sX8_138 C h2 hw hS hl.1 (Nat.le_of_ble_eq_true rfl) (Nat.le_trans (Nat.le_of_ble_eq_true rfl) hRf) (Nat.le_trans (Nat.le_of_ble_eq_true rfl) hRl) hcs dX8_isGround_3 (fun H locs hw hS => ?_)
  obtain rfl := Option.some.inj hm
  exact xret_z C (bI_nar _) hw hS dX8_isGround_6
theorem dX8_pound_0 : decode cX8_pound 0 = .ok (.bipush (-2), 2) := by decide +kernel
theorem dX8_pound_2 : decode cX8_pound 2 = .ok (.istore_n 3, 1) := by decide +kernel
theorem dX8_pound_3 : decode cX8_pound 3 = .ok (.iload_n 1, 1) := by decide +kernel
theorem dX8_pound_4 : decode cX8_pound 4 = .ok (.invokestatic 150, 3) := by decide +kernel
theorem dX8_pound_7 : decode cX8_pound 7 = .ok (.ifCond .eq 30, 3) := by decide +kernel
theorem dX8_pound_10 : decode cX8_pound 10 = .ok (.iload_n 2, 1) := by decide +kernel
theorem dX8_pound_11 : decode cX8_pound 11 = .ok (.iconst 0, 1) := by decide +kernel
theorem dX8_pound_12 : decode cX8_pound 12 = .ok (.bipush 9, 2) := by decide +kernel
theorem dX8_pound_14 : decode cX8_pound 14 = .ok (.invokestatic 138, 3) := by decide +kernel
theorem dX8_pound_17 : decode cX8_pound 17 = .ok (.ifCond .eq 20, 3) := by decide +kernel
theorem dX8_pound_20 : decode cX8_pound 20 = .ok (.aload_n 0, 1) := by decide +kernel
theorem dX8_pound_21 : decode cX8_pound 21 = .ok (.getfield 19, 3) := by decide +kernel
theorem dX8_pound_24 : decode cX8_pound 24 = .ok (.iload_n 1, 1) := by decide +kernel
theorem dX8_pound_25 : decode cX8_pound 25 = .ok (.iaload, 1) := by decide +kernel
theorem dX8_pound_26 : decode cX8_pound 26 = .ok (.istore_n 3, 1) := by decide +kernel
theorem dX8_pound_27 : decode cX8_pound 27 = .ok (.aload_n 0, 1) := by decide +kernel
theorem dX8_pound_28 : decode cX8_pound 28 = .ok (.getfield 19, 3) := by decide +kernel
theorem dX8_pound_31 : decode cX8_pound 31 = .ok (.iload_n 1, 1) := by decide +kernel
theorem dX8_pound_32 : decode cX8_pound 32 = .ok (.iload_n 2, 1) := by decide +kernel
theorem dX8_pound_33 : decode cX8_pound 33 = .ok (.iastore, 1) := by decide +kernel
theorem dX8_pound_34 : decode cX8_pound 34 = .ok (.goto 27, 3) := by decide +kernel
theorem dX8_pound_37 : decode cX8_pound 37 = .ok (.iload_n 1, 1) := by decide +kernel
theorem dX8_pound_38 : decode cX8_pound 38 = .ok (.iconst 4, 1) := by decide +kernel
theorem dX8_pound_39 : decode cX8_pound 39 = .ok (.if_icmp .ne 22, 3) := by decide +kernel
theorem dX8_pound_42 : decode cX8_pound 42 = .ok (.iload_n 2, 1) := by decide +kernel
theorem dX8_pound_43 : decode cX8_pound 43 = .ok (.iconst 0, 1) := by decide +kernel
theorem dX8_pound_44 : decode cX8_pound 44 = .ok (.iconst 3, 1) := by decide +kernel
theorem dX8_pound_45 : decode cX8_pound 45 = .ok (.invokestatic 138, 3) := by decide +kernel
theorem dX8_pound_48 : decode cX8_pound 48 = .ok (.ifCond .eq 13, 3) := by decide +kernel
theorem dX8_pound_51 : decode cX8_pound 51 = .ok (.aload_n 0, 1) := by decide +kernel
theorem dX8_pound_52 : decode cX8_pound 52 = .ok (.getfield 23, 3) := by decide +kernel
theorem dX8_pound_55 : decode cX8_pound 55 = .ok (.istore_n 3, 1) := by decide +kernel
theorem dX8_pound_56 : decode cX8_pound 56 = .ok (.aload_n 0, 1) := by decide +kernel
theorem dX8_pound_57 : decode cX8_pound 57 = .ok (.iload_n 2, 1) := by decide +kernel
theorem dX8_pound_58 : decode cX8_pound 58 = .ok (.putfield 23, 3) := by decide +kernel
theorem dX8_pound_61 : decode cX8_pound 61 = .ok (.iload_n 3, 1) := by decide +kernel
theorem dX8_pound_62 : decode cX8_pound 62 = .ok (.ireturn, 1) := by decide +kernel
theorem sX8_150 {p : Program} {l : Launch} {e : Env} {R : Room} {s : State} {m : MethodId} {args : Array Value} {below : List Frame} {meth : Method} {c : Code} {H : Heap} {locs : List Loc} {cells slots : Nat} {Q : State → Prop} {cc : ByteArray} {pc nL : Nat} {ls : Array Slot} {rest : List Value} {ret : Option FieldType}  {G : xG} {β : Nat} {D : Nat → Prop} {x : XS} {a1 : Int32} {r : Bool} (C : Cx p s m args meth c RX8 cc nL ret (KK G)) (h : fX8_isGround a1 = some r) (hw : CW β D G x H) (hS : va_S D s.heap H locs) (hsz : ls.size = nL) (hW : (rest.map fun v => v.category).sum ≤ 8) (hR : 2 ≤ R.frames) (hR2 : 42 ≤ R.locals) (hcs : cells ≤ R.cells ∧ slots ≤ R.slots) (hd : decode cc pc = .ok (.invokestatic 150, 3)) (kk : ∀ (H1 : Heap) (locs1 : List Loc), CW β D G x H1 → va_S D s.heap H1 locs1 → W p l e R s m args below meth c H1 locs1 cells slots Q (F0 m (pc + 3) ls (.int (bI r) :: rest))) : W p l e R s m args below meth c H locs cells slots Q (F0 m pc ls (.int a1 :: rest)) := by
  exact xcallS C (As := [.int a1]) (rest := rest) (nA := 1) (kX8_isGround h) (tg 420 (by decide +kernel) rfl) (tg 421 (by decide +kernel) rfl) (tg 1 (by decide +kernel) rfl) (tg 422 (by decide +kernel) rfl) ⟨by decide +kernel, by decide +kernel, by decide +kernel⟩ rfl rfl ⟨hR, hR2⟩ hw hS (fun _ q => q) rfl rfl hsz hW hd hcs (fun H1 locs1 hw hz hk hS => kk H1 locs1 hw hS)
theorem gX8_23 {p : Program} {l : Launch} {e : Env} {R : Room} {s : State} {m : MethodId} {args : Array Value} {below : List Frame} {meth : Method} {c : Code} {H : Heap} {locs : List Loc} {cells slots : Nat} {Q : State → Prop} {cc : ByteArray} {pc nL : Nat} {ls : Array Slot} {rest : List Value} {ret : Option FieldType} {G : xG} {β : Nat} {D : Nat → Prop} {x : XS} (C : Cx p s m args meth c RX8 cc nL ret (KK G)) (hw : CW β D G x H) (hd : decode cc pc = .ok (.getfield 23, 3)) (kk : W p l e R s m args below meth c H locs cells slots Q (F0 m (pc + 3) ls (.int (x.1 0 3) :: rest))) : W p l e R s m args below meth c H locs cells slots Q (F0 m pc ls (.ref β :: rest)) :=
  va_get C.1 C.2.1 C.2.2.2.2.1 iwX8 C.2.2.2.1 C.K.1 (xP1 (hw.2.2.1 0 (by decide))) 0 rfl rfl 3 (by decide) (C.2.2.2.2.1 (.fieldLink RX8 23 RX8 "spread" "I") (tg 350 (by decide +kernel) rfl)) (fun _ h9 => h9) rfl hd kk
theorem pX8_23 {p : Program} {l : Launch} {e : Env} {R : Room} {s : State} {m : MethodId} {args : Array Value} {below : List Frame} {meth : Method} {c : Code} {H : Heap} {locs : List Loc} {cells slots : Nat} {Q : State → Prop} {cc : ByteArray} {pc nL : Nat} {ls : Array Slot} {rest : List Value} {ret : Option FieldType} {G : xG} {β : Nat} {D : Nat → Prop} {x : XS} {v : Int32} (C : Cx p s m args meth c RX8 cc nL ret (KK G)) (hw : CW β D G x H) (hS : va_S D s.heap H locs) (hd : decode cc pc = .ok (.putfield 23, 3)) (kk : ∀ (H1 : Heap) (locs1 : List Loc), CW β D G (xsS x 0 3 v) H1 → va_S D s.heap H1 locs1 → W p l e R s m args below meth c H1 locs1 cells slots Q (F0 m (pc + 3) ls (rest))) : W p l e R s m args below meth c H locs cells slots Q (F0 m pc ls (.int v :: .ref β :: rest)) :=
  x_put C.1 C.2.1 C.2.2.2.2.1 iwX8 tyX8 tyX8_ok nmX8 C.2.2.2.1 C.K.1 hS (hw.2.2.1 0 (by decide)) (hw.2.1 0 (by decide)) rfl 3 (by decide) (C.2.2.2.2.1 (.fieldLink RX8 23 RX8 "spread" "I") (tg 350 (by decide +kernel) rfl)) (fun _ h9 => h9) rfl (ty := .int) (by decide +kernel) rfl rfl (Nat.le_of_ble_eq_true rfl) hd (fun H1 locs1 hat ho hS => kk H1 locs1 (hw.setS 0 3 v hat ho) hS)
theorem gX8_19 {p : Program} {l : Launch} {e : Env} {R : Room} {s : State} {m : MethodId} {args : Array Value} {below : List Frame} {meth : Method} {c : Code} {H : Heap} {locs : List Loc} {cells slots : Nat} {Q : State → Prop} {cc : ByteArray} {pc nL : Nat} {ls : Array Slot} {rest : List Value} {ret : Option FieldType} {G : xG} {β : Nat} {D : Nat → Prop} {x : XS} (C : Cx p s m args meth c RX8 cc nL ret (KK G)) (hw : CW β D G x H) (hd : decode cc pc = .ok (.getfield 19, 3)) (kk : W p l e R s m args below meth c H locs cells slots Q (F0 m (pc + 3) ls (.ref (β + 2) :: rest))) : W p l e R s m args below meth c H locs cells slots Q (F0 m pc ls (.ref β :: rest)) :=
  va_get C.1 C.2.1 C.2.2.2.2.1 iwX8 C.2.2.2.1 C.K.1 (xP1 (hw.2.2.1 0 (by decide))) 0 rfl rfl 2 (by decide) (C.2.2.2.2.1 (.fieldLink RX8 19 RX8 "pounds" "[I") (tg 349 (by decide +kernel) rfl)) (fun _ h9 => h9) rfl hd kk
theorem alX_2 {p : Program} {l : Launch} {e : Env} {R : Room} {s : State} {m : MethodId} {args : Array Value} {below : List Frame} {meth : Method} {c : Code} {H : Heap} {locs : List Loc} {cells slots : Nat} {Q : State → Prop} {cc : ByteArray} {pc nL : Nat} {ls : Array Slot} {rest : List Value} {ret : Option FieldType} {G : xG} {β : Nat} {D : Nat → Prop} {x : XS} {own : String} {i : Int32} (C : Cx p s m args meth c own cc nL ret (KK G)) (hw : CW β D G x H) (hin : ib i 4) (hd : decode cc pc = .ok (.iaload, 1)) (kk : W p l e R s m args below meth c H locs cells slots Q (F0 m (pc + 1) ls (.int (x.2.1 2 i.toNatClampNeg) :: rest))) : W p l e R s m args below meth c H locs cells slots Q (F0 m pc ls (.int i :: .ref (β + 2) :: rest)) :=
  va_iald C.1 C.2.1 C.K.1 (xP1 (hw.2.2.1 2 (by decide))) 0 0 rfl rfl hin hd kk
theorem asX_2 {p : Program} {l : Launch} {e : Env} {R : Room} {s : State} {m : MethodId} {args : Array Value} {below : List Frame} {meth : Method} {c : Code} {H : Heap} {locs : List Loc} {cells slots : Nat} {Q : State → Prop} {cc : ByteArray} {pc nL : Nat} {ls : Array Slot} {rest : List Value} {ret : Option FieldType} {G : xG} {β : Nat} {D : Nat → Prop} {x : XS} {own : String} {i : Int32} {v : Int32} (C : Cx p s m args meth c own cc nL ret (KK G)) (hw : CW β D G x H) (hS : va_S D s.heap H locs) (hin : ib i 4) (hd : decode cc pc = .ok (.iastore, 1)) (kk : ∀ (H1 : Heap) (locs1 : List Loc), CW β D G (xsA x 2 i.toNatClampNeg v) H1 → va_S D s.heap H1 locs1 → W p l e R s m args below meth c H1 locs1 cells slots Q (F0 m (pc + 1) ls (rest))) : W p l e R s m args below meth c H locs cells slots Q (F0 m pc ls (.int v :: .int i :: .ref (β + 2) :: rest)) :=
  x_iast C.1 C.2.1 C.K.1 hS 0 (hw.2.2.1 2 (by decide)) (hw.2.1 2 (by decide)) rfl hin hd (fun H1 locs1 hat ho hS => kk H1 locs1 (hw.setA 2 _ _ hat ho) hS)
def fX8_pound (x : XS) (a1 : Int32) (a2 : Int32) : Option (Int32 × XS) := Option.bind (fX8_isGround a1) fun v1 => if v1 = true then Option.bind (fX8_isWithin a2 0 9) fun v7 => if v7 = true then if ib a1 4 then lt (x.2.1 2 a1.toNatClampNeg) fun v14 => if ib a1 4 then lt (xsA x 2 a1.toNatClampNeg a2) fun x16 => some (v14, x16) else none else none else if a1 = 4 then Option.bind (fX8_isWithin a2 0 3) fun v9 => if v9 = true then lt (x.1 0 3) fun v11 => lt (xsS x 0 3 a2) fun x12 => some (v11, x12) else some ((-2), x) else some ((-2), x) else if a1 = 4 then Option.bind (fX8_isWithin a2 0 3) fun v3 => if v3 = true then lt (x.1 0 3) fun v5 => lt (xsS x 0 3 a2) fun x6 => some (v5, x6) else some ((-2), x) else some ((-2), x)
abbrev rmX8_pound : Room := { frames := 2, cells := 0, slots := 0, locals := 42 }
set_option maxHeartbeats 4000000 in
set_option maxRecDepth 100000 in
theorem kX8_pound {l : Launch} {G : xG} {β : Nat} {D : Nat → Prop} {x x' : XS} {a1 : Int32} {a2 : Int32} {r : Int32} (hm : fX8_pound x a1 a2 = some (r, x')) : Met l yX8_pound (.code yX8_pound cX8_pound 4 (some .int) :: GT) rmX8_pound (PcW [.ref β, .int a1, .int a2] (CW β D G x) (KK G)) (QcW D (some (.int r)) (CW β D G x')) 0 0 D := by
  unfold fX8_pound at hm
  refine xpro (own := RX8) (by decide +kernel) rfl (Nat.le_of_ble_eq_true rfl) ?_
  intro p e s m args below meth c C hw ls hl
  have hx := C.1
  have hb := C.2.1
  have ho := C.2.2.2.1
  have hts := C.2.2.2.2.1
  have hS : va_S D s.heap s.heap [] := va_S.rf
  have hl : lv_has ls 4 [(0, .ref β), (1, .int a1), (2, .int a2)] := hl
  have hRf : 2 ≤ rmX8_pound.frames := Nat.le_refl _
  have hRl : 42 ≤ rmX8_pound.locals := Nat.le_refl _
  have hcs : 0 ≤ rmX8_pound.cells ∧ 0 ≤ rmX8_pound.slots := ⟨Nat.le_refl _, Nat.le_refl _⟩
  refine lv_bipush (v := (-2)) hx hb dX8_pound_0 (by decide) ?_
  refine lv_istore_n (lv' := [(3, .int (-2)), (0, .ref β), (1, .int a1), (2, .int a2)]) hx hb dX8_pound_2 rfl hl (by decide) rfl (fun ls hl => ?_)
  refine lv_iload_n hx hb dX8_pound_3 rfl (lv_at hl 2 rfl) ?_
  obtain ⟨v1, h2, hm⟩ := bind_e hm
  refine sX8_150 C h2 hw hS hl.1 (Nat.le_of_ble_eq_true rfl) (Nat.le_trans (Nat.le_of_ble_eq_true rfl) hRf) (Nat.le_trans (Nat.le_of_ble_eq_true rfl) hRl) hcs dX8_pound_4 (fun H locs hw hS => ?_)
  refine x_ifeqB hx hb dX8_pound_7 (tgt := 37) (by decide) (fun cc => ?_) (fun cc => ?_)
  · replace hm := ite_n cc hm
    refine lv_iload_n hx hb dX8_pound_37 rfl (lv_at hl 2 rfl) ?_
    refine lv_iconst (v := 4) hx hb dX8_pound_38 (by decide) ?_
    refine lv_icmp_ne (tgt := 61) hx hb dX8_pound_39 (by decide) (fun cc => ?_) (fun cc => ?_)
    · replace hm := ite_n cc hm
      refine lv_iload_n hx hb dX8_pound_61 rfl (lv_at hl 0 rfl) ?_
      obtain ⟨rfl, rfl⟩ := inj2 hm
      exact xret_i C hw hS dX8_pound_62
    · replace hm := ite_p cc hm
      refine lv_iload_n hx hb dX8_pound_42 rfl (lv_at hl 3 rfl) ?_
      refine lv_iconst (v := 0) hx hb dX8_pound_43 (by decide) ?_
      refine lv_iconst (v := 3) hx hb dX8_pound_44 (by decide) ?_
      obtain ⟨v3, h4, hm⟩ := bind_e hm
      refine sX8_138 C h4 hw hS hl.1 (Nat.le_of_ble_eq_true rfl) (Nat.le_trans (Nat.le_of_ble_eq_true rfl) hRf) (Nat.le_trans (Nat.le_of_ble_eq_true rfl) hRl) hcs dX8_pound_45 (fun H locs hw hS => ?_)
      refine x_ifeqB hx hb dX8_pound_48 (tgt := 61) (by decide) (fun cc => ?_) (fun cc => ?_)
      · replace hm := ite_n cc hm
        refine lv_iload_n hx hb dX8_pound_61 rfl (lv_at hl 0 rfl) ?_
        obtain ⟨rfl, rfl⟩ := inj2 hm
        exact xret_i C hw hS dX8_pound_62
      · replace hm := ite_p cc hm
        refine lv_aload_n hx hb dX8_pound_51 rfl (lv_at hl 1 rfl) ?_
        refine gX8_23 C hw dX8_pound_52 ?_
        refine topI hm (fun v5 hm => ?_)
        refine lv_istore_n (lv' := [(3, .int v5), (0, .ref β), (1, .int a1), (2, .int a2)]) hx hb dX8_pound_55 rfl hl (by decide) rfl (fun ls hl => ?_)
        refine lv_aload_n hx hb dX8_pound_56 rfl (lv_at hl 1 rfl) ?_
        refine lv_iload_n hx hb dX8_pound_57 rfl (lv_at hl 3 rfl) ?_
        refine pX8_23 C hw hS dX8_pound_58 (fun H locs hw hS => ?_)
        obtain ⟨x6, ev, hm⟩ := lt_e hm
        rw [← ev] at hw
        clear ev
        refine lv_iload_n hx hb dX8_pound_61 rfl (lv_at hl 0 rfl) ?_
        obtain ⟨rfl, rfl⟩ := inj2 hm
        exact xret_i C hw hS dX8_pound_62
  · replace hm := ite_p cc hm
    refine lv_iload_n hx hb dX8_pound_10 rfl (lv_at hl 3 rfl) ?_
    refine lv_iconst (v := 0) hx hb dX8_pound_11 (by decide) ?_
    refine lv_bipush (v := 9) hx hb dX8_pound_12 (by decide) ?_
    obtain ⟨v7, h8, hm⟩ := bind_e hm
    refine sX8_138 C h8 hw hS hl.1 (Nat.le_of_ble_eq_true rfl) (Nat.le_trans (Nat.le_of_ble_eq_true rfl) hRf) (Nat.le_trans (Nat.le_of_ble_eq_true rfl) hRl) hcs dX8_pound_14 (fun H locs hw hS => ?_)
    refine x_ifeqB hx hb dX8_pound_17 (tgt := 37) (by decide) (fun cc => ?_) (fun cc => ?_)
    · replace hm := ite_n cc hm
      refine lv_iload_n hx hb dX8_pound_37 rfl (lv_at hl 2 rfl) ?_
      refine lv_iconst (v := 4) hx hb dX8_pound_38 (by decide) ?_
      refine lv_icmp_ne (tgt := 61) hx hb dX8_pound_39 (by decide) (fun cc => ?_) (fun cc => ?_)
      · replace hm := ite_n cc hm
        refine lv_iload_n hx hb dX8_pound_61 rfl (lv_at hl 0 rfl) ?_
        obtain ⟨rfl, rfl⟩ := inj2 hm
        exact xret_i C hw hS dX8_pound_62
      · replace hm := ite_p cc hm
        refine lv_iload_n hx hb dX8_pound_42 rfl (lv_at hl 3 rfl) ?_
        refine lv_iconst (v := 0) hx hb dX8_pound_43 (by decide) ?_
        refine lv_iconst (v := 3) hx hb dX8_pound_44 (by decide) ?_
        obtain ⟨v9, h10, hm⟩ := bind_e hm
        refine sX8_138 C h10 hw hS hl.1 (Nat.le_of_ble_eq_true rfl) (Nat.le_trans (Nat.le_of_ble_eq_true rfl) hRf) (Nat.le_trans (Nat.le_of_ble_eq_true rfl) hRl) hcs dX8_pound_45 (fun H locs hw hS => ?_)
        refine x_ifeqB hx hb dX8_pound_48 (tgt := 61) (by decide) (fun cc => ?_) (fun cc => ?_)
        · replace hm := ite_n cc hm
          refine lv_iload_n hx hb dX8_pound_61 rfl (lv_at hl 0 rfl) ?_
          obtain ⟨rfl, rfl⟩ := inj2 hm
          exact xret_i C hw hS dX8_pound_62
        · replace hm := ite_p cc hm
          refine lv_aload_n hx hb dX8_pound_51 rfl (lv_at hl 1 rfl) ?_
          refine gX8_23 C hw dX8_pound_52 ?_
          refine topI hm (fun v11 hm => ?_)
          refine lv_istore_n (lv' := [(3, .int v11), (0, .ref β), (1, .int a1), (2, .int a2)]) hx hb dX8_pound_55 rfl hl (by decide) rfl (fun ls hl => ?_)
          refine lv_aload_n hx hb dX8_pound_56 rfl (lv_at hl 1 rfl) ?_
          refine lv_iload_n hx hb dX8_pound_57 rfl (lv_at hl 3 rfl) ?_
          refine pX8_23 C hw hS dX8_pound_58 (fun H locs hw hS => ?_)
          obtain ⟨x12, ev, hm⟩ := lt_e hm
          rw [← ev] at hw
          clear ev
          refine lv_iload_n hx hb dX8_pound_61 rfl (lv_at hl 0 rfl) ?_
          obtain ⟨rfl, rfl⟩ := inj2 hm
          exact xret_i C hw hS dX8_pound_62
    · replace hm := ite_p cc hm
      refine lv_aload_n hx hb dX8_pound_20 rfl (lv_at hl 1 rfl) ?_
      refine gX8_19 C hw dX8_pound_21 ?_
      refine lv_iload_n hx hb dX8_pound_24 rfl (lv_at hl 2 rfl) ?_
      obtain ⟨h13, hm⟩ := chk_e hm
      refine alX_2 C hw h13 dX8_pound_25 ?_
      refine topI hm (fun v14 hm => ?_)
      refine lv_istore_n (lv' := [(3, .int v14), (0, .ref β), (1, .int a1), (2, .int a2)]) hx hb dX8_pound_26 rfl hl (by decide) rfl (fun ls hl => ?_)
      refine lv_aload_n hx hb dX8_pound_27 rfl (lv_at hl 1 rfl) ?_
      refine gX8_19 C hw dX8_pound_28 ?_
      refine lv_iload_n hx hb dX8_pound_31 rfl (lv_at hl 2 rfl) ?_
      refine lv_iload_n hx hb dX8_pound_32 rfl (lv_at hl 3 rfl) ?_
      obtain ⟨h15, hm⟩ := chk_e hm
      refine asX_2 C hw hS h15 dX8_pound_33 (fun H locs hw hS => ?_)
      obtain ⟨x16, ev, hm⟩ := lt_e hm
      rw [← ev] at hw
      clear ev
      refine lv_goto (tgt := 61) hx hb dX8_pound_34 (by decide) ?_
      refine lv_iload_n hx hb dX8_pound_61 rfl (lv_at hl 0 rfl) ?_
      obtain ⟨rfl, rfl⟩ := inj2 hm
      exact xret_i C hw hS dX8_pound_62
theorem dX8_formOf_0 : decode cX8_formOf 0 = .ok (.aload_n 0, 1) := by decide +kernel
theorem dX8_formOf_1 : decode cX8_formOf 1 = .ok (.iload_n 1, 1) := by decide +kernel
theorem dX8_formOf_2 : decode cX8_formOf 2 = .ok (.invokevirtual 134, 3) := by decide +kernel
theorem dX8_formOf_5 : decode cX8_formOf 5 = .ok (.astore 4, 2) := by decide +kernel
theorem dX8_formOf_7 : decode cX8_formOf 7 = .ok (.aload 4, 2) := by decide +kernel
theorem dX8_formOf_9 : decode cX8_formOf 9 = .ok (.ifnonnull 7, 3) := by decide +kernel
theorem dX8_formOf_12 : decode cX8_formOf 12 = .ok (.iconst 0, 1) := by decide +kernel
theorem dX8_formOf_13 : decode cX8_formOf 13 = .ok (.goto 10, 3) := by decide +kernel
theorem dX8_formOf_16 : decode cX8_formOf 16 = .ok (.aload 4, 2) := by decide +kernel
theorem dX8_formOf_18 : decode cX8_formOf 18 = .ok (.iload_n 2, 1) := by decide +kernel
theorem dX8_formOf_19 : decode cX8_formOf 19 = .ok (.iload_n 3, 1) := by decide +kernel
theorem dX8_formOf_20 : decode cX8_formOf 20 = .ok (.invokevirtual 363, 3) := by decide +kernel
theorem dX8_formOf_23 : decode cX8_formOf 23 = .ok (.ireturn, 1) := by decide +kernel
theorem sX8_363 {p : Program} {l : Launch} {e : Env} {R : Room} {s : State} {m : MethodId} {args : Array Value} {below : List Frame} {meth : Method} {c : Code} {H : Heap} {locs : List Loc} {cells slots : Nat} {Q : State → Prop} {cc : ByteArray} {pc nL : Nat} {ls : Array Slot} {rest : List Value} {ret : Option FieldType}  {G : xG} {β : Nat} {D : Nat → Prop} {x : XS} {a0 : Nat} {a1 : Int32} {a2 : Int32} {r : Int32} (C : Cx p s m args meth c RX8 cc nL ret (KK G)) (hk : dK x a0 1 = true) (h : fX1_formOn x a0 a1 a2 = some r) (hw : CW β D G x H) (hS : va_S D s.heap H locs) (hsz : ls.size = nL) (hW : (rest.map fun v => v.category).sum ≤ 8) (hR : 3 ≤ R.frames) (hR2 : 63 ≤ R.locals) (hcs : cells ≤ R.cells ∧ slots ≤ R.slots) (hd : decode cc pc = .ok (.invokevirtual 363, 3)) (kk : ∀ (H1 : Heap) (locs1 : List Loc), CW β D G x H1 → va_S D s.heap H1 locs1 → W p l e R s m args below meth c H1 locs1 cells slots Q (F0 m (pc + 3) ls (.int r :: rest))) : W p l e R s m args below meth c H locs cells slots Q (F0 m pc ls (.int a2 :: .int a1 :: .ref a0 :: rest)) := by
  obtain ⟨fs0, hfs0⟩ := dK_e hk
  exact xcallV C (As := [.int a1, .int a2]) (rest := rest) (nA := 2) (ci := 1) (kX1_formOn h) (tg 481 (by decide +kernel) rfl) (tg 482 (by decide +kernel) rfl) (tg 483 (by decide +kernel) rfl) (tg 15 (by decide +kernel) rfl) (tg 484 (by decide +kernel) rfl) ⟨rfl, by decide +kernel, by decide +kernel, by decide +kernel⟩ rfl rfl rfl ⟨hR, hR2⟩ ((hw.2.2.2.1 a0 _ hfs0).2.2.2) hw hS (fun _ q => q) rfl rfl hsz hW hd hcs (fun H1 locs1 hw hz hk hS => kk H1 locs1 hw hS)
def fX8_formOf (x : XS) (a1 : Int32) (a2 : Int32) (a3 : Int32) : Option (Int32) := Option.bind (fX8_horseAt x a1) fun v1 => oc v1 (some 0) (fun p3 => if dK x p3 1 = true then Option.bind (fX1_formOn x p3 a2 a3) fun v5 => some v5 else none)
abbrev rmX8_formOf : Room := { frames := 3, cells := 0, slots := 0, locals := 64 }
set_option maxHeartbeats 4000000 in
set_option maxRecDepth 100000 in
theorem kX8_formOf {l : Launch} {G : xG} {β : Nat} {D : Nat → Prop} {x : XS} {a1 : Int32} {a2 : Int32} {a3 : Int32} {r : Int32} (hm : fX8_formOf x a1 a2 a3 = some r) : Met l yX8_formOf (.code yX8_formOf cX8_formOf 5 (some .int) :: GT) rmX8_formOf (PcW [.ref β, .int a1, .int a2, .int a3] (CW β D G x) (KK G)) (QcW D (some (.int r)) (CW β D G x)) 0 0 D := by
  unfold fX8_formOf at hm
  refine xpro (own := RX8) (by decide +kernel) rfl (Nat.le_of_ble_eq_true rfl) ?_
  intro p e s m args below meth c C hw ls hl
  have hx := C.1
  have hb := C.2.1
  have ho := C.2.2.2.1
  have hts := C.2.2.2.2.1
  have hS : va_S D s.heap s.heap [] := va_S.rf
  have hl : lv_has ls 5 [(0, .ref β), (1, .int a1), (2, .int a2), (3, .int a3)] := hl
  have hRf : 3 ≤ rmX8_formOf.frames := Nat.le_refl _
  have hRl : 64 ≤ rmX8_formOf.locals := Nat.le_refl _
  have hcs : 0 ≤ rmX8_formOf.cells ∧ 0 ≤ rmX8_formOf.slots := ⟨Nat.le_refl _, Nat.le_refl _⟩
  refine lv_aload_n hx hb dX8_formOf_0 rfl (lv_at hl 0 rfl) ?_
  refine lv_iload_n hx hb dX8_formOf_1 rfl (lv_at hl 1 rfl) ?_
  obtain ⟨v1, h2, hm⟩ := bind_e hm
  refine sX8_134 C h2 hw hS hl.1 (Nat.le_of_ble_eq_true rfl) (Nat.le_trans (Nat.le_of_ble_eq_true rfl) hRf) (Nat.le_trans (Nat.le_of_ble_eq_true rfl) hRl) hcs dX8_formOf_2 (fun H locs hw hS => ?_)
  refine x_astoreq (lv' := [(4, va_rf v1), (0, .ref β), (1, .int a1), (2, .int a2), (3, .int a3)]) hx hb dX8_formOf_5 hl (by decide) rfl (fun ls hl => ?_)
  refine x_aloadq hx hb dX8_formOf_7 (lv_at hl 0 rfl) ?_
  rcases v1 with _ | p3
  · replace hm := oc_n hm
    refine lv_ifnonnullN hx hb dX8_formOf_9 ?_
    refine lv_iconst (v := 0) hx hb dX8_formOf_12 (by decide) ?_
    refine lv_goto (tgt := 23) hx hb dX8_formOf_13 (by decide) ?_
    obtain rfl := Option.some.inj hm
    exact xret_i C hw hS dX8_formOf_23
  · replace hm := oc_s hm
    refine lv_ifnonnull (tgt := 16) hx hb dX8_formOf_9 (by decide) ?_
    refine lv_aload hx hb dX8_formOf_16 (lv_at hl 0 rfl) ?_
    refine lv_iload_n hx hb dX8_formOf_18 rfl (lv_at hl 3 rfl) ?_
    refine lv_iload_n hx hb dX8_formOf_19 rfl (lv_at hl 4 rfl) ?_
    obtain ⟨h4, hm⟩ := chk_e hm
    obtain ⟨v5, h6, hm⟩ := bind_e hm
    refine sX8_363 C h4 h6 hw hS hl.1 (Nat.le_of_ble_eq_true rfl) (Nat.le_trans (Nat.le_of_ble_eq_true rfl) hRf) (Nat.le_trans (Nat.le_of_ble_eq_true rfl) hRl) hcs dX8_formOf_20 (fun H locs hw hS => ?_)
    obtain rfl := Option.some.inj hm
    exact xret_i C hw hS dX8_formOf_23
theorem dX8_form_0 : decode cX8_form 0 = .ok (.aload_n 0, 1) := by decide +kernel
theorem dX8_form_1 : decode cX8_form 1 = .ok (.iload_n 1, 1) := by decide +kernel
theorem dX8_form_2 : decode cX8_form 2 = .ok (.invokevirtual 154, 3) := by decide +kernel
theorem dX8_form_5 : decode cX8_form 5 = .ok (.ifCond .eq 20, 3) := by decide +kernel
theorem dX8_form_8 : decode cX8_form 8 = .ok (.iload_n 2, 1) := by decide +kernel
theorem dX8_form_9 : decode cX8_form 9 = .ok (.invokestatic 150, 3) := by decide +kernel
theorem dX8_form_12 : decode cX8_form 12 = .ok (.ifCond .eq 13, 3) := by decide +kernel
theorem dX8_form_15 : decode cX8_form 15 = .ok (.iload_n 3, 1) := by decide +kernel
theorem dX8_form_16 : decode cX8_form 16 = .ok (.iconst 0, 1) := by decide +kernel
theorem dX8_form_17 : decode cX8_form 17 = .ok (.bipush 99, 2) := by decide +kernel
theorem dX8_form_19 : decode cX8_form 19 = .ok (.invokestatic 138, 3) := by decide +kernel
theorem dX8_form_22 : decode cX8_form 22 = .ok (.ifCond .ne 7, 3) := by decide +kernel
theorem dX8_form_25 : decode cX8_form 25 = .ok (.ldc2_w 157, 3) := by decide +kernel
theorem dX8_form_28 : decode cX8_form 28 = .ok (.lreturn, 1) := by decide +kernel
theorem dX8_form_29 : decode cX8_form 29 = .ok (.aload_n 0, 1) := by decide +kernel
theorem dX8_form_30 : decode cX8_form 30 = .ok (.iload_n 1, 1) := by decide +kernel
theorem dX8_form_31 : decode cX8_form 31 = .ok (.iload_n 2, 1) := by decide +kernel
theorem dX8_form_32 : decode cX8_form 32 = .ok (.iload_n 3, 1) := by decide +kernel
theorem dX8_form_33 : decode cX8_form 33 = .ok (.invokevirtual 159, 3) := by decide +kernel
theorem dX8_form_36 : decode cX8_form 36 = .ok (.i2l, 1) := by decide +kernel
theorem dX8_form_37 : decode cX8_form 37 = .ok (.lreturn, 1) := by decide +kernel
theorem sX8_159 {p : Program} {l : Launch} {e : Env} {R : Room} {s : State} {m : MethodId} {args : Array Value} {below : List Frame} {meth : Method} {c : Code} {H : Heap} {locs : List Loc} {cells slots : Nat} {Q : State → Prop} {cc : ByteArray} {pc nL : Nat} {ls : Array Slot} {rest : List Value} {ret : Option FieldType}  {G : xG} {β : Nat} {D : Nat → Prop} {x : XS} {a1 : Int32} {a2 : Int32} {a3 : Int32} {r : Int32} (C : Cx p s m args meth c RX8 cc nL ret (KK G)) (h : fX8_formOf x a1 a2 a3 = some r) (hw : CW β D G x H) (hS : va_S D s.heap H locs) (hsz : ls.size = nL) (hW : (rest.map fun v => v.category).sum ≤ 8) (hR : 4 ≤ R.frames) (hR2 : 88 ≤ R.locals) (hcs : cells ≤ R.cells ∧ slots ≤ R.slots) (hd : decode cc pc = .ok (.invokevirtual 159, 3)) (kk : ∀ (H1 : Heap) (locs1 : List Loc), CW β D G x H1 → va_S D s.heap H1 locs1 → W p l e R s m args below meth c H1 locs1 cells slots Q (F0 m (pc + 3) ls (.int r :: rest))) : W p l e R s m args below meth c H locs cells slots Q (F0 m pc ls (.int a3 :: .int a2 :: .int a1 :: .ref β :: rest)) := by
  exact xcallV C (As := [.int a1, .int a2, .int a3]) (rest := rest) (nA := 3) (ci := 8) (kX8_formOf h) (tg 477 (by decide +kernel) rfl) (tg 479 (by decide +kernel) rfl) (sg (List.mem_of_getElem? (i := 15) (by decide +kernel)) rfl) (tg 1 (by decide +kernel) rfl) (tg 480 (by decide +kernel) rfl) ⟨rfl, by decide +kernel, by decide +kernel, by decide +kernel⟩ rfl rfl rfl ⟨hR, hR2⟩ (hw.2.2.1 0 (by decide)) hw hS (fun _ q => q) rfl rfl hsz hW hd hcs (fun H1 locs1 hw hz hk hS => kk H1 locs1 hw hS)
def fX8_form (x : XS) (a1 : Int32) (a2 : Int32) (a3 : Int32) : Option (Int64) := Option.bind (fX8_isHorse x a1) fun v1 => if v1 = true then Option.bind (fX8_isGround a2) fun v3 => if v3 = true then Option.bind (fX8_isWithin a3 0 99) fun v5 => if v5 = true then Option.bind (fX8_formOf x a1 a2 a3) fun v7 => some (v7.toInt64) else some (-4611686018427387904) else some (-4611686018427387904) else some (-4611686018427387904)
abbrev rmX8_form : Room := { frames := 4, cells := 0, slots := 0, locals := 88 }
set_option maxHeartbeats 4000000 in
set_option maxRecDepth 100000 in
theorem kX8_form {l : Launch} {G : xG} {β : Nat} {D : Nat → Prop} {x : XS} {a1 : Int32} {a2 : Int32} {a3 : Int32} {r : Int64} (hm : fX8_form x a1 a2 a3 = some r) : Met l yX8_form (.code yX8_form cX8_form 4 (some .long) :: GT) rmX8_form (PcW [.ref β, .int a1, .int a2, .int a3] (CW β D G x) (KK G)) (QcW D (some (.long r)) (CW β D G x)) 0 0 D := by
  unfold fX8_form at hm
  refine xpro (own := RX8) (by decide +kernel) rfl (Nat.le_of_ble_eq_true rfl) ?_
  intro p e s m args below meth c C hw ls hl
  have hx := C.1
  have hb := C.2.1
  have ho := C.2.2.2.1
  have hts := C.2.2.2.2.1
  have hS : va_S D s.heap s.heap [] := va_S.rf
  have hl : lv_has ls 4 [(0, .ref β), (1, .int a1), (2, .int a2), (3, .int a3)] := hl
  have hRf : 4 ≤ rmX8_form.frames := Nat.le_refl _
  have hRl : 88 ≤ rmX8_form.locals := Nat.le_refl _
  have hcs : 0 ≤ rmX8_form.cells ∧ 0 ≤ rmX8_form.slots := ⟨Nat.le_refl _, Nat.le_refl _⟩
  refine lv_aload_n hx hb dX8_form_0 rfl (lv_at hl 0 rfl) ?_
  refine lv_iload_n hx hb dX8_form_1 rfl (lv_at hl 1 rfl) ?_
  obtain ⟨v1, h2, hm⟩ := bind_e hm
  refine sX8_154 C h2 hw hS hl.1 (Nat.le_of_ble_eq_true rfl) (Nat.le_trans (Nat.le_of_ble_eq_true rfl) hRf) (Nat.le_trans (Nat.le_of_ble_eq_true rfl) hRl) hcs dX8_form_2 (fun H locs hw hS => ?_)
  refine x_ifeqB hx hb dX8_form_5 (tgt := 25) (by decide) (fun cc => ?_) (fun cc => ?_)
  · replace hm := ite_n cc hm
    refine lv_ldc2 (v := (-4611686018427387904)) hx hb ho (hts (.constantLong RX8 157 (-4611686018427387904)) (tg 476 (by decide +kernel) rfl)) dX8_form_25 ?_
    obtain rfl := Option.some.inj hm
    exact xret_l C hw hS dX8_form_28
  · replace hm := ite_p cc hm
    refine lv_iload_n hx hb dX8_form_8 rfl (lv_at hl 2 rfl) ?_
    obtain ⟨v3, h4, hm⟩ := bind_e hm
    refine sX8_150 C h4 hw hS hl.1 (Nat.le_of_ble_eq_true rfl) (Nat.le_trans (Nat.le_of_ble_eq_true rfl) hRf) (Nat.le_trans (Nat.le_of_ble_eq_true rfl) hRl) hcs dX8_form_9 (fun H locs hw hS => ?_)
    refine x_ifeqB hx hb dX8_form_12 (tgt := 25) (by decide) (fun cc => ?_) (fun cc => ?_)
    · replace hm := ite_n cc hm
      refine lv_ldc2 (v := (-4611686018427387904)) hx hb ho (hts (.constantLong RX8 157 (-4611686018427387904)) (tg 476 (by decide +kernel) rfl)) dX8_form_25 ?_
      obtain rfl := Option.some.inj hm
      exact xret_l C hw hS dX8_form_28
    · replace hm := ite_p cc hm
      refine lv_iload_n hx hb dX8_form_15 rfl (lv_at hl 3 rfl) ?_
      refine lv_iconst (v := 0) hx hb dX8_form_16 (by decide) ?_
      refine lv_bipush (v := 99) hx hb dX8_form_17 (by decide) ?_
      obtain ⟨v5, h6, hm⟩ := bind_e hm
      refine sX8_138 C h6 hw hS hl.1 (Nat.le_of_ble_eq_true rfl) (Nat.le_trans (Nat.le_of_ble_eq_true rfl) hRf) (Nat.le_trans (Nat.le_of_ble_eq_true rfl) hRl) hcs dX8_form_19 (fun H locs hw hS => ?_)
      refine x_ifneB hx hb dX8_form_22 (tgt := 29) (by decide) (fun cc => ?_) (fun cc => ?_)
      · replace hm := ite_p cc hm
        refine lv_aload_n hx hb dX8_form_29 rfl (lv_at hl 0 rfl) ?_
        refine lv_iload_n hx hb dX8_form_30 rfl (lv_at hl 1 rfl) ?_
        refine lv_iload_n hx hb dX8_form_31 rfl (lv_at hl 2 rfl) ?_
        refine lv_iload_n hx hb dX8_form_32 rfl (lv_at hl 3 rfl) ?_
        obtain ⟨v7, h8, hm⟩ := bind_e hm
        refine sX8_159 C h8 hw hS hl.1 (Nat.le_of_ble_eq_true rfl) (Nat.le_trans (Nat.le_of_ble_eq_true rfl) hRf) (Nat.le_trans (Nat.le_of_ble_eq_true rfl) hRl) hcs dX8_form_33 (fun H locs hw hS => ?_)
        refine lv_i2l hx hb dX8_form_36 rfl ?_
        obtain rfl := Option.some.inj hm
        exact xret_l C hw hS dX8_form_37
      · replace hm := ite_n cc hm
        refine lv_ldc2 (v := (-4611686018427387904)) hx hb ho (hts (.constantLong RX8 157 (-4611686018427387904)) (tg 476 (by decide +kernel) rfl)) dX8_form_25 ?_
        obtain rfl := Option.some.inj hm
        exact xret_l C hw hS dX8_form_28
theorem dX8_raceAt_0 : decode cX8_raceAt 0 = .ok (.iload_n 1, 1) := by decide +kernel
theorem dX8_raceAt_1 : decode cX8_raceAt 1 = .ok (.iconst 0, 1) := by decide +kernel
theorem dX8_raceAt_2 : decode cX8_raceAt 2 = .ok (.aload_n 0, 1) := by decide +kernel
theorem dX8_raceAt_3 : decode cX8_raceAt 3 = .ok (.getfield 32, 3) := by decide +kernel
theorem dX8_raceAt_6 : decode cX8_raceAt 6 = .ok (.iconst 1, 1) := by decide +kernel
theorem dX8_raceAt_7 : decode cX8_raceAt 7 = .ok (.isub, 1) := by decide +kernel
theorem dX8_raceAt_8 : decode cX8_raceAt 8 = .ok (.invokestatic 138, 3) := by decide +kernel
theorem dX8_raceAt_11 : decode cX8_raceAt 11 = .ok (.ifCond .eq 12, 3) := by decide +kernel
theorem dX8_raceAt_14 : decode cX8_raceAt 14 = .ok (.aload_n 0, 1) := by decide +kernel
theorem dX8_raceAt_15 : decode cX8_raceAt 15 = .ok (.getfield 28, 3) := by decide +kernel
theorem dX8_raceAt_18 : decode cX8_raceAt 18 = .ok (.iload_n 1, 1) := by decide +kernel
theorem dX8_raceAt_19 : decode cX8_raceAt 19 = .ok (.aaload, 1) := by decide +kernel
theorem dX8_raceAt_20 : decode cX8_raceAt 20 = .ok (.goto 4, 3) := by decide +kernel
theorem dX8_raceAt_23 : decode cX8_raceAt 23 = .ok (.aconst_null, 1) := by decide +kernel
theorem dX8_raceAt_24 : decode cX8_raceAt 24 = .ok (.areturn, 1) := by decide +kernel
theorem gX8_32 {p : Program} {l : Launch} {e : Env} {R : Room} {s : State} {m : MethodId} {args : Array Value} {below : List Frame} {meth : Method} {c : Code} {H : Heap} {locs : List Loc} {cells slots : Nat} {Q : State → Prop} {cc : ByteArray} {pc nL : Nat} {ls : Array Slot} {rest : List Value} {ret : Option FieldType} {G : xG} {β : Nat} {D : Nat → Prop} {x : XS} (C : Cx p s m args meth c RX8 cc nL ret (KK G)) (hw : CW β D G x H) (hd : decode cc pc = .ok (.getfield 32, 3)) (kk : W p l e R s m args below meth c H locs cells slots Q (F0 m (pc + 3) ls (.int (x.1 0 5) :: rest))) : W p l e R s m args below meth c H locs cells slots Q (F0 m pc ls (.ref β :: rest)) :=
  va_get C.1 C.2.1 C.2.2.2.2.1 iwX8 C.2.2.2.1 C.K.1 (xP1 (hw.2.2.1 0 (by decide))) 0 rfl rfl 5 (by decide) (C.2.2.2.2.1 (.fieldLink RX8 32 RX8 "raceCount" "I") (tg 352 (by decide +kernel) rfl)) (fun _ h9 => h9) rfl hd kk
theorem gX8_28 {p : Program} {l : Launch} {e : Env} {R : Room} {s : State} {m : MethodId} {args : Array Value} {below : List Frame} {meth : Method} {c : Code} {H : Heap} {locs : List Loc} {cells slots : Nat} {Q : State → Prop} {cc : ByteArray} {pc nL : Nat} {ls : Array Slot} {rest : List Value} {ret : Option FieldType} {G : xG} {β : Nat} {D : Nat → Prop} {x : XS} (C : Cx p s m args meth c RX8 cc nL ret (KK G)) (hw : CW β D G x H) (hd : decode cc pc = .ok (.getfield 28, 3)) (kk : W p l e R s m args below meth c H locs cells slots Q (F0 m (pc + 3) ls (.ref (β + 3) :: rest))) : W p l e R s m args below meth c H locs cells slots Q (F0 m pc ls (.ref β :: rest)) :=
  va_get C.1 C.2.1 C.2.2.2.2.1 iwX8 C.2.2.2.1 C.K.1 (xP1 (hw.2.2.1 0 (by decide))) 0 rfl rfl 4 (by decide) (C.2.2.2.2.1 (.fieldLink RX8 28 RX8 "races" "[LAtThePost$Race;") (tg 351 (by decide +kernel) rfl)) (fun _ h9 => h9) rfl hd kk
theorem alX_3 {p : Program} {l : Launch} {e : Env} {R : Room} {s : State} {m : MethodId} {args : Array Value} {below : List Frame} {meth : Method} {c : Code} {H : Heap} {locs : List Loc} {cells slots : Nat} {Q : State → Prop} {cc : ByteArray} {pc nL : Nat} {ls : Array Slot} {rest : List Value} {ret : Option FieldType} {G : xG} {β : Nat} {D : Nat → Prop} {x : XS} {own : String} {i : Int32} (C : Cx p s m args meth c own cc nL ret (KK G)) (hw : CW β D G x H) (hin : ib i 24) (hd : decode cc pc = .ok (.aaload, 1)) (kk : W p l e R s m args below meth c H locs cells slots Q (F0 m (pc + 1) ls (va_rf (x.2.2.1 3 i.toNatClampNeg) :: rest))) : W p l e R s m args below meth c H locs cells slots Q (F0 m pc ls (.int i :: .ref (β + 3) :: rest)) :=
  va_aldq (C := "AtThePost$Race") C.1 C.2.1 C.K.1 (xP1 (hw.2.2.1 3 (by decide))) 0 5 rfl rfl hin hd kk
def fX8_raceAt (x : XS) (a1 : Int32) : Option (Option Nat) := Option.bind (fX8_isWithin a1 0 ((x.1 0 5) - 1)) fun v1 => if v1 = true then if ib a1 24 then lt (x.2.2.1 3 a1.toNatClampNeg) fun e4 => some e4 else none else some none
abbrev rmX8_raceAt : Room := { frames := 1, cells := 0, slots := 0, locals := 22 }
set_option maxHeartbeats 4000000 in
set_option maxRecDepth 100000 in
theorem kX8_raceAt {l : Launch} {G : xG} {β : Nat} {D : Nat → Prop} {x : XS} {a1 : Int32} {r : Option Nat} (hm : fX8_raceAt x a1 = some r) : Met l yX8_raceAt (.code yX8_raceAt cX8_raceAt 2 (some (.object "AtThePost$Race")) :: GT) rmX8_raceAt (PcW [.ref β, .int a1] (CW β D G x) (KK G)) (QcW D (some (va_rf r)) (CW β D G x)) 0 0 D := by
  unfold fX8_raceAt at hm
  refine xpro (own := RX8) (by decide +kernel) rfl (Nat.le_of_ble_eq_true rfl) ?_
  intro p e s m args below meth c C hw ls hl
  have hx := C.1
  have hb := C.2.1
  have ho := C.2.2.2.1
  have hts := C.2.2.2.2.1
  have hS : va_S D s.heap s.heap [] := va_S.rf
  have hl : lv_has ls 2 [(0, .ref β), (1, .int a1)] := hl
  have hRf : 1 ≤ rmX8_raceAt.frames := Nat.le_refl _
  have hRl : 22 ≤ rmX8_raceAt.locals := Nat.le_refl _
  have hcs : 0 ≤ rmX8_raceAt.cells ∧ 0 ≤ rmX8_raceAt.slots := ⟨Nat.le_refl _, Nat.le_refl _⟩
  refine lv_iload_n hx hb dX8_raceAt_0 rfl (lv_at hl 1 rfl) ?_
  refine lv_iconst (v := 0) hx hb dX8_raceAt_1 (by decide) ?_
  refine lv_aload_n hx hb dX8_raceAt_2 rfl (lv_at hl 0 rfl) ?_
  refine gX8_32 C hw dX8_raceAt_3 ?_
  refine lv_iconst (v := 1) hx hb dX8_raceAt_6 (by decide) ?_
  refine lv_isub hx hb dX8_raceAt_7 ?_
  obtain ⟨v1, h2, hm⟩ := bind_e hm
  refine sX8_138 C h2 hw hS hl.1 (Nat.le_of_ble_eq_true rfl) (Nat.le_trans (Nat.le_of_ble_eq_true rfl) hRf) (Nat.le_trans (Nat.le_of_ble_eq_true rfl) hRl) hcs dX8_raceAt_8 (fun H locs hw hS => ?_)
  refine x_ifeqB hx hb dX8_raceAt_11 (tgt := 23) (by decide) (fun cc => ?_) (fun cc => ?_)
  · replace hm := ite_n cc hm
    refine lv_null hx hb dX8_raceAt_23 ?_
    obtain rfl := Option.some.inj hm
    exact xret_a C hw hS dX8_raceAt_24
  · replace hm := ite_p cc hm
    refine lv_aload_n hx hb dX8_raceAt_14 rfl (lv_at hl 0 rfl) ?_
    refine gX8_28 C hw dX8_raceAt_15 ?_
    refine lv_iload_n hx hb dX8_raceAt_18 rfl (lv_at hl 1 rfl) ?_
    obtain ⟨h3, hm⟩ := chk_e hm
    refine alX_3 C hw h3 dX8_raceAt_19 ?_
    refine topR hm (fun e4 hm => ?_)
    refine lv_goto (tgt := 24) hx hb dX8_raceAt_20 (by decide) ?_
    obtain rfl := Option.some.inj hm
    exact xret_a C hw hS dX8_raceAt_24
theorem dX8_racesWon_0 : decode cX8_racesWon 0 = .ok (.iconst 0, 1) := by decide +kernel
theorem dX8_racesWon_1 : decode cX8_racesWon 1 = .ok (.istore_n 2, 1) := by decide +kernel
theorem dX8_racesWon_2 : decode cX8_racesWon 2 = .ok (.iconst 0, 1) := by decide +kernel
theorem dX8_racesWon_3 : decode cX8_racesWon 3 = .ok (.istore_n 3, 1) := by decide +kernel
theorem dX8_racesWon_4 : decode cX8_racesWon 4 = .ok (.iload_n 3, 1) := by decide +kernel
theorem dX8_racesWon_5 : decode cX8_racesWon 5 = .ok (.aload_n 0, 1) := by decide +kernel
theorem dX8_racesWon_6 : decode cX8_racesWon 6 = .ok (.getfield 32, 3) := by decide +kernel
theorem dX8_racesWon_9 : decode cX8_racesWon 9 = .ok (.if_icmp .ge 33, 3) := by decide +kernel
theorem dX8_racesWon_12 : decode cX8_racesWon 12 = .ok (.aload_n 0, 1) := by decide +kernel
theorem dX8_racesWon_13 : decode cX8_racesWon 13 = .ok (.iload_n 3, 1) := by decide +kernel
theorem dX8_racesWon_14 : decode cX8_racesWon 14 = .ok (.invokevirtual 265, 3) := by decide +kernel
theorem dX8_racesWon_17 : decode cX8_racesWon 17 = .ok (.astore 4, 2) := by decide +kernel
theorem dX8_racesWon_19 : decode cX8_racesWon 19 = .ok (.aload 4, 2) := by decide +kernel
theorem dX8_racesWon_21 : decode cX8_racesWon 21 = .ok (.ifnull 15, 3) := by decide +kernel
theorem dX8_racesWon_24 : decode cX8_racesWon 24 = .ok (.aload 4, 2) := by decide +kernel
theorem dX8_racesWon_26 : decode cX8_racesWon 26 = .ok (.iload_n 1, 1) := by decide +kernel
theorem dX8_racesWon_27 : decode cX8_racesWon 27 = .ok (.invokevirtual 403, 3) := by decide +kernel
theorem dX8_racesWon_30 : decode cX8_racesWon 30 = .ok (.ifCond .ne 6, 3) := by decide +kernel
theorem dX8_racesWon_33 : decode cX8_racesWon 33 = .ok (.iinc 2 1, 3) := by decide +kernel
theorem dX8_racesWon_36 : decode cX8_racesWon 36 = .ok (.iinc 3 1, 3) := by decide +kernel
theorem dX8_racesWon_39 : decode cX8_racesWon 39 = .ok (.goto (-35), 3) := by decide +kernel
theorem dX8_racesWon_42 : decode cX8_racesWon 42 = .ok (.iload_n 2, 1) := by decide +kernel
theorem dX8_racesWon_43 : decode cX8_racesWon 43 = .ok (.ireturn, 1) := by decide +kernel
theorem sX8_265 {p : Program} {l : Launch} {e : Env} {R : Room} {s : State} {m : MethodId} {args : Array Value} {below : List Frame} {meth : Method} {c : Code} {H : Heap} {locs : List Loc} {cells slots : Nat} {Q : State → Prop} {cc : ByteArray} {pc nL : Nat} {ls : Array Slot} {rest : List Value} {ret : Option FieldType}  {G : xG} {β : Nat} {D : Nat → Prop} {x : XS} {a1 : Int32} {r : Option Nat} (C : Cx p s m args meth c RX8 cc nL ret (KK G)) (h : fX8_raceAt x a1 = some r) (hw : CW β D G x H) (hS : va_S D s.heap H locs) (hsz : ls.size = nL) (hW : (rest.map fun v => v.category).sum ≤ 8) (hR : 2 ≤ R.frames) (hR2 : 43 ≤ R.locals) (hcs : cells ≤ R.cells ∧ slots ≤ R.slots) (hd : decode cc pc = .ok (.invokevirtual 265, 3)) (kk : ∀ (H1 : Heap) (locs1 : List Loc), CW β D G x H1 → va_S D s.heap H1 locs1 → W p l e R s m args below meth c H1 locs1 cells slots Q (F0 m (pc + 3) ls (va_rf r :: rest))) : W p l e R s m args below meth c H locs cells slots Q (F0 m pc ls (.int a1 :: .ref β :: rest)) := by
  exact xcallV C (As := [.int a1]) (rest := rest) (nA := 1) (ci := 8) (kX8_raceAt h) (tg 501 (by decide +kernel) rfl) (tg 503 (by decide +kernel) rfl) (sg (List.mem_of_getElem? (i := 18) (by decide +kernel)) rfl) (tg 1 (by decide +kernel) rfl) (tg 504 (by decide +kernel) rfl) ⟨rfl, by decide +kernel, by decide +kernel, by decide +kernel⟩ rfl rfl rfl ⟨hR, hR2⟩ (hw.2.2.1 0 (by decide)) hw hS (fun _ q => q) rfl rfl hsz hW hd hcs (fun H1 locs1 hw hz hk hS => kk H1 locs1 hw hS)
theorem sX8_403 {p : Program} {l : Launch} {e : Env} {R : Room} {s : State} {m : MethodId} {args : Array Value} {below : List Frame} {meth : Method} {c : Code} {H : Heap} {locs : List Loc} {cells slots : Nat} {Q : State → Prop} {cc : ByteArray} {pc nL : Nat} {ls : Array Slot} {rest : List Value} {ret : Option FieldType}  {G : xG} {β : Nat} {D : Nat → Prop} {x : XS} {a0 : Nat} {a1 : Int32} {r : Int32} (C : Cx p s m args meth c RX8 cc nL ret (KK G)) (hk : dK x a0 3 = true) (h : fX3_placeOf x a0 a1 = some r) (hw : CW β D G x H) (hS : va_S D s.heap H locs) (hsz : ls.size = nL) (hW : (rest.map fun v => v.category).sum ≤ 8) (hR : 1 ≤ R.frames) (hR2 : 22 ≤ R.locals) (hcs : cells ≤ R.cells ∧ slots ≤ R.slots) (hd : decode cc pc = .ok (.invokevirtual 403, 3)) (kk : ∀ (H1 : Heap) (locs1 : List Loc), CW β D G x H1 → va_S D s.heap H1 locs1 → W p l e R s m args below meth c H1 locs1 cells slots Q (F0 m (pc + 3) ls (.int r :: rest))) : W p l e R s m args below meth c H locs cells slots Q (F0 m pc ls (.int a1 :: .ref a0 :: rest)) := by
  obtain ⟨fs0, hfs0⟩ := dK_e hk
  exact xcallV C (As := [.int a1]) (rest := rest) (nA := 1) (ci := 3) (kX3_placeOf h) (tg 505 (by decide +kernel) rfl) (tg 506 (by decide +kernel) rfl) (tg 507 (by decide +kernel) rfl) (tg 17 (by decide +kernel) rfl) (tg 508 (by decide +kernel) rfl) ⟨rfl, by decide +kernel, by decide +kernel, by decide +kernel⟩ rfl rfl rfl ⟨hR, hR2⟩ ((hw.2.2.2.1 a0 _ hfs0).2.2.2) hw hS (fun _ q => q) rfl rfl hsz hW hd hcs (fun H1 locs1 hw hz hk hS => kk H1 locs1 hw hS)
def BX8_racesWon_4 (x : XS) (q1 : Int32) (lp : Int32 → Int32 → Option (Int32)) (u2 : Int32) (u3 : Int32) : Option (Int32) := if (x.1 0 5) ≤ u3 then some u2 else Option.bind (fX8_raceAt x u3) fun v1 => oc v1 (lt (u3 + 1) fun v4 => lp u2 v4) (fun p3 => if dK x p3 3 = true then Option.bind (fX3_placeOf x p3 q1) fun v6 => if v6 = 0 then lt (u2 + 1) fun v9 => lt (u3 + 1) fun v10 => lp v9 v10 else lt (u3 + 1) fun v8 => lp u2 v8 else none)
def LX8_racesWon_4 (x : XS) (q1 : Int32) : Nat → Int32 → Int32 → Option (Int32)
  | 0, _, _ => none
  | n + 1, u2, u3 => BX8_racesWon_4 x q1 (LX8_racesWon_4 x q1 n) u2 u3
def fX8_racesWon (x : XS) (a1 : Int32) : Option (Int32) := Option.bind (LX8_racesWon_4 x a1 NF 0 0) fun v11 => some v11
set_option maxHeartbeats 4000000 in
set_option maxRecDepth 100000 in
theorem lX8_racesWon_4 {p : Program} {l : Launch} {e : Env} {R : Room} {s : State} {m : MethodId} {args : Array Value} {below : List Frame} {meth : Method} {c : Code} {cells slots : Nat} {Q : State → Prop} {G : xG} {β : Nat} {D : Nat → Prop} (C : Cx p s m args meth c RX8 cX8_racesWon 5 (some .int) (KK G)) (hRf : 2 ≤ R.frames) (hRl : 43 ≤ R.locals) (hcs : cells ≤ R.cells ∧ slots ≤ R.slots) (x : XS) (q1 : Int32) : ∀ (n : Nat) (u2 : Int32) (u3 : Int32) (J : Int32) (H : Heap) (locs : List Loc) (ls : Array Slot), LX8_racesWon_4 x q1 n u2 u3 = some J → CW β D G x H → va_S D s.heap H locs → lv_has ls 5 [(0, .ref β), (1, .int q1), (2, .int u2), (3, .int u3)] → (∀ (w2 : Int32), J = w2 → ∀ (H : Heap) (locs : List Loc) (ls : Array Slot), CW β D G x H → va_S D s.heap H locs → lv_has ls 5 [(2, .int w2)] → W p l e R s m args below meth c H locs cells slots Q (F0 m 42 ls [])) → W p l e R s m args below meth c H locs cells slots Q (F0 m 4 ls []) := by
  have hx := C.1
  have hb := C.2.1
  have ho := C.2.2.2.1
  have hts := C.2.2.2.2.1
  intro n
  induction n with
  | zero =>
    intro u2 u3 J H locs ls hm
    exact absurd hm (by simp [LX8_racesWon_4])
  | succ n ih =>
    intro u2 u3 J H locs ls hm hw hS hl ke
    replace hm : BX8_racesWon_4 x q1 (LX8_racesWon_4 x q1 n) u2 u3 = some J := hm
    unfold BX8_racesWon_4 at hm
    refine lv_iload_n hx hb dX8_racesWon_4 rfl (lv_at hl 3 rfl) ?_
    refine lv_aload_n hx hb dX8_racesWon_5 rfl (lv_at hl 0 rfl) ?_
    refine gX8_32 C hw dX8_racesWon_6 ?_
    refine lv_icmp_ge (tgt := 42) hx hb dX8_racesWon_9 (by decide) (fun cc => ?_) (fun cc => ?_)
    · replace hm := ite_p cc hm
      exact ke _ (Option.some.inj hm).symm _ _ _ hw hS (lv_sub hl [2] rfl)
    · replace hm := ite_n cc hm
      refine lv_aload_n hx hb dX8_racesWon_12 rfl (lv_at hl 0 rfl) ?_
      refine lv_iload_n hx hb dX8_racesWon_13 rfl (lv_at hl 3 rfl) ?_
      obtain ⟨v1, h2, hm⟩ := bind_e hm
      refine sX8_265 C h2 hw hS hl.1 (Nat.le_of_ble_eq_true rfl) (Nat.le_trans (Nat.le_of_ble_eq_true rfl) hRf) (Nat.le_trans (Nat.le_of_ble_eq_true rfl) hRl) hcs dX8_racesWon_14 (fun H locs hw hS => ?_)
      refine x_astoreq (lv' := [(4, va_rf v1), (0, .ref β), (1, .int q1), (2, .int u2), (3, .int u3)]) hx hb dX8_racesWon_17 hl (by decide) rfl (fun ls hl => ?_)
      refine x_aloadq hx hb dX8_racesWon_19 (lv_at hl 0 rfl) ?_
      rcases v1 with _ | p3
      · replace hm := oc_n hm
        refine lv_ifnullN (tgt := 36) hx hb dX8_racesWon_21 (by decide) ?_
        obtain ⟨v4, ev, hm⟩ := lt_e hm
        refine lv_iinc (v := v4) (lv' := [(3, .int v4), (4, .null), (0, .ref β), (1, .int q1), (2, .int u2)]) hx hb dX8_racesWon_36 hl (k := 4) rfl (by rw [ev]; rfl) (by decide) rfl (fun ls hl => ?_)
        clear ev
        refine lv_goto (tgt := 4) hx hb dX8_racesWon_39 (by decide) ?_
        exact ih _ _ _ _ _ _ hm hw hS (lv_sub hl [2, 3, 4, 0] rfl) ke
      · replace hm := oc_s hm
        refine lv_ifnull hx hb dX8_racesWon_21 ?_
        refine lv_aload hx hb dX8_racesWon_24 (lv_at hl 0 rfl) ?_
        refine lv_iload_n hx hb dX8_racesWon_26 rfl (lv_at hl 2 rfl) ?_
        obtain ⟨h5, hm⟩ := chk_e hm
        obtain ⟨v6, h7, hm⟩ := bind_e hm
        refine sX8_403 C h5 h7 hw hS hl.1 (Nat.le_of_ble_eq_true rfl) (Nat.le_trans (Nat.le_of_ble_eq_true rfl) hRf) (Nat.le_trans (Nat.le_of_ble_eq_true rfl) hRl) hcs dX8_racesWon_27 (fun H locs hw hS => ?_)
        refine lv_if_ne (tgt := 36) hx hb dX8_racesWon_30 (by decide) (fun cc => ?_) (fun cc => ?_)
        · replace hm := ite_n cc hm
          obtain ⟨v8, ev, hm⟩ := lt_e hm
          refine lv_iinc (v := v8) (lv' := [(3, .int v8), (4, .ref p3), (0, .ref β), (1, .int q1), (2, .int u2)]) hx hb dX8_racesWon_36 hl (k := 4) rfl (by rw [ev]; rfl) (by decide) rfl (fun ls hl => ?_)
          clear ev
          refine lv_goto (tgt := 4) hx hb dX8_racesWon_39 (by decide) ?_
          exact ih _ _ _ _ _ _ hm hw hS (lv_sub hl [2, 3, 4, 0] rfl) ke
        · replace hm := ite_p cc hm
          obtain ⟨v9, ev, hm⟩ := lt_e hm
          refine lv_iinc (v := v9) (lv' := [(2, .int v9), (4, .ref p3), (0, .ref β), (1, .int q1), (3, .int u3)]) hx hb dX8_racesWon_33 hl (k := 3) rfl (by rw [ev]; rfl) (by decide) rfl (fun ls hl => ?_)
          clear ev
          obtain ⟨v10, ev, hm⟩ := lt_e hm
          refine lv_iinc (v := v10) (lv' := [(3, .int v10), (2, .int v9), (4, .ref p3), (0, .ref β), (1, .int q1)]) hx hb dX8_racesWon_36 hl (k := 4) rfl (by rw [ev]; rfl) (by decide) rfl (fun ls hl => ?_)
          clear ev
          refine lv_goto (tgt := 4) hx hb dX8_racesWon_39 (by decide) ?_
          exact ih _ _ _ _ _ _ hm hw hS (lv_sub hl [3, 4, 1, 0] rfl) ke
abbrev rmX8_racesWon : Room := { frames := 2, cells := 0, slots := 0, locals := 43 }
set_option maxHeartbeats 4000000 in
set_option maxRecDepth 100000 in
theorem kX8_racesWon {l : Launch} {G : xG} {β : Nat} {D : Nat → Prop} {x : XS} {a1 : Int32} {r : Int32} (hm : fX8_racesWon x a1 = some r) : Met l yX8_racesWon (.code yX8_racesWon cX8_racesWon 5 (some .int) :: GT) rmX8_racesWon (PcW [.ref β, .int a1] (CW β D G x) (KK G)) (QcW D (some (.int r)) (CW β D G x)) 0 0 D := by
  unfold fX8_racesWon at hm
  refine xpro (own := RX8) (by decide +kernel) rfl (Nat.le_of_ble_eq_true rfl) ?_
  intro p e s m args below meth c C hw ls hl
  have hx := C.1
  have hb := C.2.1
  have ho := C.2.2.2.1
  have hts := C.2.2.2.2.1
  have hS : va_S D s.heap s.heap [] := va_S.rf
  have hl : lv_has ls 5 [(0, .ref β), (1, .int a1)] := hl
  have hRf : 2 ≤ rmX8_racesWon.frames := Nat.le_refl _
  have hRl : 43 ≤ rmX8_racesWon.locals := Nat.le_refl _
  have hcs : 0 ≤ rmX8_racesWon.cells ∧ 0 ≤ rmX8_racesWon.slots := ⟨Nat.le_refl _, Nat.le_refl _⟩
  refine lv_iconst (v := 0) hx hb dX8_racesWon_0 (by decide) ?_
  refine lv_istore_n (lv' := [(2, .int 0), (0, .ref β), (1, .int a1)]) hx hb dX8_racesWon_1 rfl hl (by decide) rfl (fun ls hl => ?_)
  refine lv_iconst (v := 0) hx hb dX8_racesWon_2 (by decide) ?_
  refine lv_istore_n (lv' := [(3, .int 0), (2, .int 0), (0, .ref β), (1, .int a1)]) hx hb dX8_racesWon_3 rfl hl (by decide) rfl (fun ls hl => ?_)
  obtain ⟨v11, hj, hm⟩ := bind_e hm
  refine lX8_racesWon_4 C hRf hRl hcs x a1 NF _ _ _ _ _ _ hj hw hS (lv_sub hl [2, 3, 1, 0] rfl) (fun v11_ e0 H locs ls hw hS hl => ?_)
  cases e0
  refine lv_iload_n hx hb dX8_racesWon_42 rfl (lv_at hl 0 rfl) ?_
  obtain rfl := Option.some.inj hm
  exact xret_i C hw hS dX8_racesWon_43
