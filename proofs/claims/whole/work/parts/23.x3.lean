theorem dX8_ruled_0 : decode cX8_ruled 0 = .ok (.aload_n 0, 1) := by decide +kernel
theorem dX8_ruled_1 : decode cX8_ruled 1 = .ok (.iload_n 2, 1) := by decide +kernel
theorem dX8_ruled_2 : decode cX8_ruled 2 = .ok (.invokevirtual 134, 3) := by decide +kernel
theorem dX8_ruled_5 : decode cX8_ruled 5 = .ok (.astore 7, 2) := by decide +kernel
theorem dX8_ruled_7 : decode cX8_ruled 7 = .ok (.aload_n 0, 1) := by decide +kernel
theorem dX8_ruled_8 : decode cX8_ruled 8 = .ok (.getfield 60, 3) := by decide +kernel
theorem dX8_ruled_11 : decode cX8_ruled 11 = .ok (.iconst 0, 1) := by decide +kernel
theorem dX8_ruled_12 : decode cX8_ruled 12 = .ok (.aload_n 0, 1) := by decide +kernel
theorem dX8_ruled_13 : decode cX8_ruled 13 = .ok (.getfield 57, 3) := by decide +kernel
theorem dX8_ruled_16 : decode cX8_ruled 16 = .ok (.iconst 1, 1) := by decide +kernel
theorem dX8_ruled_17 : decode cX8_ruled 17 = .ok (.isub, 1) := by decide +kernel
theorem dX8_ruled_18 : decode cX8_ruled 18 = .ok (.invokestatic 138, 3) := by decide +kernel
theorem dX8_ruled_21 : decode cX8_ruled 21 = .ok (.ifCond .eq 15, 3) := by decide +kernel
theorem dX8_ruled_24 : decode cX8_ruled 24 = .ok (.aload_n 0, 1) := by decide +kernel
theorem dX8_ruled_25 : decode cX8_ruled 25 = .ok (.getfield 53, 3) := by decide +kernel
theorem dX8_ruled_28 : decode cX8_ruled 28 = .ok (.aload_n 0, 1) := by decide +kernel
theorem dX8_ruled_29 : decode cX8_ruled 29 = .ok (.getfield 60, 3) := by decide +kernel
theorem dX8_ruled_32 : decode cX8_ruled 32 = .ok (.aaload, 1) := by decide +kernel
theorem dX8_ruled_33 : decode cX8_ruled 33 = .ok (.goto 4, 3) := by decide +kernel
theorem dX8_ruled_36 : decode cX8_ruled 36 = .ok (.aconst_null, 1) := by decide +kernel
theorem dX8_ruled_37 : decode cX8_ruled 37 = .ok (.astore 8, 2) := by decide +kernel
theorem dX8_ruled_39 : decode cX8_ruled 39 = .ok (.aload 7, 2) := by decide +kernel
theorem dX8_ruled_41 : decode cX8_ruled 41 = .ok (.ifnull 8, 3) := by decide +kernel
theorem dX8_ruled_44 : decode cX8_ruled 44 = .ok (.aload 8, 2) := by decide +kernel
theorem dX8_ruled_46 : decode cX8_ruled 46 = .ok (.ifnonnull 5, 3) := by decide +kernel
theorem dX8_ruled_49 : decode cX8_ruled 49 = .ok (.iconst 0, 1) := by decide +kernel
theorem dX8_ruled_50 : decode cX8_ruled 50 = .ok (.ireturn, 1) := by decide +kernel
theorem dX8_ruled_51 : decode cX8_ruled 51 = .ok (.aload_n 0, 1) := by decide +kernel
theorem dX8_ruled_52 : decode cX8_ruled 52 = .ok (.getfield 83, 3) := by decide +kernel
theorem dX8_ruled_55 : decode cX8_ruled 55 = .ok (.iconst 0, 1) := by decide +kernel
theorem dX8_ruled_56 : decode cX8_ruled 56 = .ok (.aload 7, 2) := by decide +kernel
theorem dX8_ruled_58 : decode cX8_ruled 58 = .ok (.getfield 141, 3) := by decide +kernel
theorem dX8_ruled_61 : decode cX8_ruled 61 = .ok (.iastore, 1) := by decide +kernel
theorem dX8_ruled_62 : decode cX8_ruled 62 = .ok (.aload_n 0, 1) := by decide +kernel
theorem dX8_ruled_63 : decode cX8_ruled 63 = .ok (.getfield 83, 3) := by decide +kernel
theorem dX8_ruled_66 : decode cX8_ruled 66 = .ok (.iconst 1, 1) := by decide +kernel
theorem dX8_ruled_67 : decode cX8_ruled 67 = .ok (.iload_n 3, 1) := by decide +kernel
theorem dX8_ruled_68 : decode cX8_ruled 68 = .ok (.iastore, 1) := by decide +kernel
theorem dX8_ruled_69 : decode cX8_ruled 69 = .ok (.aload_n 0, 1) := by decide +kernel
theorem dX8_ruled_70 : decode cX8_ruled 70 = .ok (.getfield 83, 3) := by decide +kernel
theorem dX8_ruled_73 : decode cX8_ruled 73 = .ok (.iconst 2, 1) := by decide +kernel
theorem dX8_ruled_74 : decode cX8_ruled 74 = .ok (.iload 4, 2) := by decide +kernel
theorem dX8_ruled_76 : decode cX8_ruled 76 = .ok (.iastore, 1) := by decide +kernel
theorem dX8_ruled_77 : decode cX8_ruled 77 = .ok (.aload_n 0, 1) := by decide +kernel
theorem dX8_ruled_78 : decode cX8_ruled 78 = .ok (.getfield 83, 3) := by decide +kernel
theorem dX8_ruled_81 : decode cX8_ruled 81 = .ok (.iconst 3, 1) := by decide +kernel
theorem dX8_ruled_82 : decode cX8_ruled 82 = .ok (.iload 5, 2) := by decide +kernel
theorem dX8_ruled_84 : decode cX8_ruled 84 = .ok (.iastore, 1) := by decide +kernel
theorem dX8_ruled_85 : decode cX8_ruled 85 = .ok (.aload_n 0, 1) := by decide +kernel
theorem dX8_ruled_86 : decode cX8_ruled 86 = .ok (.getfield 83, 3) := by decide +kernel
theorem dX8_ruled_89 : decode cX8_ruled 89 = .ok (.iconst 4, 1) := by decide +kernel
theorem dX8_ruled_90 : decode cX8_ruled 90 = .ok (.aload 7, 2) := by decide +kernel
theorem dX8_ruled_92 : decode cX8_ruled 92 = .ok (.getfield 144, 3) := by decide +kernel
theorem dX8_ruled_95 : decode cX8_ruled 95 = .ok (.iastore, 1) := by decide +kernel
theorem dX8_ruled_96 : decode cX8_ruled 96 = .ok (.aload_n 0, 1) := by decide +kernel
theorem dX8_ruled_97 : decode cX8_ruled 97 = .ok (.getfield 83, 3) := by decide +kernel
theorem dX8_ruled_100 : decode cX8_ruled 100 = .ok (.iconst 5, 1) := by decide +kernel
theorem dX8_ruled_101 : decode cX8_ruled 101 = .ok (.iload 6, 2) := by decide +kernel
theorem dX8_ruled_103 : decode cX8_ruled 103 = .ok (.iconst (-1), 1) := by decide +kernel
theorem dX8_ruled_104 : decode cX8_ruled 104 = .ok (.if_icmp .ne 11, 3) := by decide +kernel
theorem dX8_ruled_107 : decode cX8_ruled 107 = .ok (.aload 7, 2) := by decide +kernel
theorem dX8_ruled_109 : decode cX8_ruled 109 = .ok (.getfield 170, 3) := by decide +kernel
theorem dX8_ruled_112 : decode cX8_ruled 112 = .ok (.goto 5, 3) := by decide +kernel
theorem dX8_ruled_115 : decode cX8_ruled 115 = .ok (.iload 6, 2) := by decide +kernel
theorem dX8_ruled_117 : decode cX8_ruled 117 = .ok (.iastore, 1) := by decide +kernel
theorem dX8_ruled_118 : decode cX8_ruled 118 = .ok (.aload 8, 2) := by decide +kernel
theorem dX8_ruled_120 : decode cX8_ruled 120 = .ok (.iload_n 1, 1) := by decide +kernel
theorem dX8_ruled_121 : decode cX8_ruled 121 = .ok (.aload_n 0, 1) := by decide +kernel
theorem dX8_ruled_122 : decode cX8_ruled 122 = .ok (.getfield 83, 3) := by decide +kernel
theorem dX8_ruled_125 : decode cX8_ruled 125 = .ok (.invokevirtual 389, 3) := by decide +kernel
theorem dX8_ruled_128 : decode cX8_ruled 128 = .ok (.ireturn, 1) := by decide +kernel
theorem gX8_60 {p : Program} {l : Launch} {e : Env} {R : Room} {s : State} {m : MethodId} {args : Array Value} {below : List Frame} {meth : Method} {c : Code} {H : Heap} {locs : List Loc} {cells slots : Nat} {Q : State → Prop} {cc : ByteArray} {pc nL : Nat} {ls : Array Slot} {rest : List Value} {ret : Option FieldType} {G : xG} {β : Nat} {D : Nat → Prop} {x : XS} (C : Cx p s m args meth c RX8 cc nL ret (KK G)) (hw : CW β D G x H) (hd : decode cc pc = .ok (.getfield 60, 3)) (kk : W p l e R s m args below meth c H locs cells slots Q (F0 m (pc + 3) ls (.int (x.1 0 10) :: rest))) : W p l e R s m args below meth c H locs cells slots Q (F0 m pc ls (.ref β :: rest)) :=
  va_get C.1 C.2.1 C.2.2.2.2.1 iwX8 C.2.2.2.1 C.K.1 (xP1 (hw.2.2.1 0 (by decide))) 0 rfl rfl 10 (by decide) (C.2.2.2.2.1 (.fieldLink RX8 60 RX8 "rule" "I") (tg 357 (by decide +kernel) rfl)) (fun _ h9 => h9) rfl hd kk
theorem gX8_57 {p : Program} {l : Launch} {e : Env} {R : Room} {s : State} {m : MethodId} {args : Array Value} {below : List Frame} {meth : Method} {c : Code} {H : Heap} {locs : List Loc} {cells slots : Nat} {Q : State → Prop} {cc : ByteArray} {pc nL : Nat} {ls : Array Slot} {rest : List Value} {ret : Option FieldType} {G : xG} {β : Nat} {D : Nat → Prop} {x : XS} (C : Cx p s m args meth c RX8 cc nL ret (KK G)) (hw : CW β D G x H) (hd : decode cc pc = .ok (.getfield 57, 3)) (kk : W p l e R s m args below meth c H locs cells slots Q (F0 m (pc + 3) ls (.int (x.1 0 9) :: rest))) : W p l e R s m args below meth c H locs cells slots Q (F0 m pc ls (.ref β :: rest)) :=
  va_get C.1 C.2.1 C.2.2.2.2.1 iwX8 C.2.2.2.1 C.K.1 (xP1 (hw.2.2.1 0 (by decide))) 0 rfl rfl 9 (by decide) (C.2.2.2.2.1 (.fieldLink RX8 57 RX8 "textCount" "I") (tg 356 (by decide +kernel) rfl)) (fun _ h9 => h9) rfl hd kk
theorem gX8_53 {p : Program} {l : Launch} {e : Env} {R : Room} {s : State} {m : MethodId} {args : Array Value} {below : List Frame} {meth : Method} {c : Code} {H : Heap} {locs : List Loc} {cells slots : Nat} {Q : State → Prop} {cc : ByteArray} {pc nL : Nat} {ls : Array Slot} {rest : List Value} {ret : Option FieldType} {G : xG} {β : Nat} {D : Nat → Prop} {x : XS} (C : Cx p s m args meth c RX8 cc nL ret (KK G)) (hw : CW β D G x H) (hd : decode cc pc = .ok (.getfield 53, 3)) (kk : W p l e R s m args below meth c H locs cells slots Q (F0 m (pc + 3) ls (.ref (β + 9) :: rest))) : W p l e R s m args below meth c H locs cells slots Q (F0 m pc ls (.ref β :: rest)) :=
  va_get C.1 C.2.1 C.2.2.2.2.1 iwX8 C.2.2.2.1 C.K.1 (xP1 (hw.2.2.1 0 (by decide))) 0 rfl rfl 8 (by decide) (C.2.2.2.2.1 (.fieldLink RX8 53 RX8 "texts" "[LAtThePost$Text;") (tg 355 (by decide +kernel) rfl)) (fun _ h9 => h9) rfl hd kk
theorem alX_9 {p : Program} {l : Launch} {e : Env} {R : Room} {s : State} {m : MethodId} {args : Array Value} {below : List Frame} {meth : Method} {c : Code} {H : Heap} {locs : List Loc} {cells slots : Nat} {Q : State → Prop} {cc : ByteArray} {pc nL : Nat} {ls : Array Slot} {rest : List Value} {ret : Option FieldType} {G : xG} {β : Nat} {D : Nat → Prop} {x : XS} {own : String} {i : Int32} (C : Cx p s m args meth c own cc nL ret (KK G)) (hw : CW β D G x H) (hin : ib i 6) (hd : decode cc pc = .ok (.aaload, 1)) (kk : W p l e R s m args below meth c H locs cells slots Q (F0 m (pc + 1) ls (va_rf (x.2.2.1 9 i.toNatClampNeg) :: rest))) : W p l e R s m args below meth c H locs cells slots Q (F0 m pc ls (.int i :: .ref (β + 9) :: rest)) :=
  va_aldq (C := "AtThePost$Text") C.1 C.2.1 C.K.1 (xP1 (hw.2.2.1 9 (by decide))) 0 7 rfl rfl hin hd kk
theorem gX8_83 {p : Program} {l : Launch} {e : Env} {R : Room} {s : State} {m : MethodId} {args : Array Value} {below : List Frame} {meth : Method} {c : Code} {H : Heap} {locs : List Loc} {cells slots : Nat} {Q : State → Prop} {cc : ByteArray} {pc nL : Nat} {ls : Array Slot} {rest : List Value} {ret : Option FieldType} {G : xG} {β : Nat} {D : Nat → Prop} {x : XS} (C : Cx p s m args meth c RX8 cc nL ret (KK G)) (hw : CW β D G x H) (hd : decode cc pc = .ok (.getfield 83, 3)) (kk : W p l e R s m args below meth c H locs cells slots Q (F0 m (pc + 3) ls (.ref (β + 22) :: rest))) : W p l e R s m args below meth c H locs cells slots Q (F0 m pc ls (.ref β :: rest)) :=
  va_get C.1 C.2.1 C.2.2.2.2.1 iwX8 C.2.2.2.1 C.K.1 (xP1 (hw.2.2.1 0 (by decide))) 0 rfl rfl 14 (by decide) (C.2.2.2.2.1 (.fieldLink RX8 83 RX8 "nameValues" "[I") (tg 361 (by decide +kernel) rfl)) (fun _ h9 => h9) rfl hd kk
theorem asX_22 {p : Program} {l : Launch} {e : Env} {R : Room} {s : State} {m : MethodId} {args : Array Value} {below : List Frame} {meth : Method} {c : Code} {H : Heap} {locs : List Loc} {cells slots : Nat} {Q : State → Prop} {cc : ByteArray} {pc nL : Nat} {ls : Array Slot} {rest : List Value} {ret : Option FieldType} {G : xG} {β : Nat} {D : Nat → Prop} {x : XS} {own : String} {i : Int32} {v : Int32} (C : Cx p s m args meth c own cc nL ret (KK G)) (hw : CW β D G x H) (hS : va_S D s.heap H locs) (hin : ib i 6) (hd : decode cc pc = .ok (.iastore, 1)) (kk : ∀ (H1 : Heap) (locs1 : List Loc), CW β D G (xsA x 22 i.toNatClampNeg v) H1 → va_S D s.heap H1 locs1 → W p l e R s m args below meth c H1 locs1 cells slots Q (F0 m (pc + 1) ls (rest))) : W p l e R s m args below meth c H locs cells slots Q (F0 m pc ls (.int v :: .int i :: .ref (β + 22) :: rest)) :=
  x_iast C.1 C.2.1 C.K.1 hS 0 (hw.2.2.1 22 (by decide)) (hw.2.1 22 (by decide)) rfl hin hd (fun H1 locs1 hat ho hS => kk H1 locs1 (hw.setA 22 _ _ hat ho) hS)
theorem sX8_389 {p : Program} {l : Launch} {e : Env} {R : Room} {s : State} {m : MethodId} {args : Array Value} {below : List Frame} {meth : Method} {c : Code} {H : Heap} {locs : List Loc} {cells slots : Nat} {Q : State → Prop} {cc : ByteArray} {pc nL : Nat} {ls : Array Slot} {rest : List Value} {ret : Option FieldType}  {G : xG} {β : Nat} {D : Nat → Prop} {x x' : XS} {a0 : Nat} {a1 : Int32} {r : Int32} (C : Cx p s m args meth c RX8 cc nL ret (KK G)) (hk : dK x a0 7 = true) (h : fX7_valueOf x a0 a1 = some (r, x')) (hw : CW β D G x H) (hS : va_S D s.heap H locs) (hsz : ls.size = nL) (hW : (rest.map fun v => v.category).sum ≤ 8) (hR : 3 ≤ R.frames) (hR2 : 68 ≤ R.locals) (hcs : cells ≤ R.cells ∧ slots ≤ R.slots) (hd : decode cc pc = .ok (.invokevirtual 389, 3)) (kk : ∀ (H1 : Heap) (locs1 : List Loc), CW β D G x' H1 → va_S D s.heap H1 locs1 → W p l e R s m args below meth c H1 locs1 cells slots Q (F0 m (pc + 3) ls (.int r :: rest))) : W p l e R s m args below meth c H locs cells slots Q (F0 m pc ls (.ref (β + 22) :: .int a1 :: .ref a0 :: rest)) := by
  obtain ⟨fs0, hfs0⟩ := dK_e hk
  exact xcallV C (As := [.int a1, .ref (β + 22)]) (rest := rest) (nA := 2) (ci := 7) (kX7_valueOf h) (tg 525 (by decide +kernel) rfl) (tg 526 (by decide +kernel) rfl) (tg 527 (by decide +kernel) rfl) (tg 11 (by decide +kernel) rfl) (tg 528 (by decide +kernel) rfl) ⟨rfl, by decide +kernel, by decide +kernel, by decide +kernel⟩ rfl rfl rfl ⟨hR, hR2⟩ ((hw.2.2.2.1 a0 _ hfs0).2.2.2) hw hS (fun _ q => q) rfl rfl hsz hW hd hcs (fun H1 locs1 hw hz hk hS => kk H1 locs1 hw hS)
theorem gdX8_170 {p : Program} {l : Launch} {e : Env} {R : Room} {s : State} {m : MethodId} {args : Array Value} {below : List Frame} {meth : Method} {c : Code} {H : Heap} {locs : List Loc} {cells slots : Nat} {Q : State → Prop} {cc : ByteArray} {pc nL : Nat} {ls : Array Slot} {rest : List Value} {ret : Option FieldType}  {G : xG} {β : Nat} {D : Nat → Prop} {x : XS} {a : Nat} {v : Int32} (C : Cx p s m args meth c RX8 cc nL ret (KK G)) (h : dI x a 1 2 = some v) (hw : CW β D G x H) (hd : decode cc pc = .ok (.getfield 170, 3)) (kk : W p l e R s m args below meth c H locs cells slots Q (F0 m (pc + 3) ls (.int v :: rest))) : W p l e R s m args below meth c H locs cells slots Q (F0 m pc ls (.ref a :: rest)) := by
  obtain ⟨fs, h1, h2⟩ := dI_e h
  exact va_getN (ci := 1) (fs := fs) C.1 C.2.1 C.2.2.2.2.1 iwX1 C.2.2.2.1 C.K.1 (xP1 (hw.2.2.2.1 a _ h1).2.2.2) 0 rfl rfl 2 (by decide) (va_Nw.use (w := .fieldLinkNest RX8 170 RX1 "homeGround" "I" "AtThePost") rfl (C.K.2.1 (RX8, 170, RX1, "homeGround", "I") (List.mem_of_getElem? (i := 15) rfl))) (fun _ h9 => h9) h2 hd kk
def fX8_ruled (x : XS) (a1 : Int32) (a2 : Int32) (a3 : Int32) (a4 : Int32) (a5 : Int32) (a6 : Int32) : Option (Int32 × XS) := Option.bind (fX8_horseAt x a2) fun v1 => Option.bind (fX8_isWithin (x.1 0 10) 0 ((x.1 0 9) - 1)) fun v3 => Option.bind (if v3 = true then if ib (x.1 0 10) 6 then lt (x.2.2.1 9 (x.1 0 10).toNatClampNeg) fun e6 => some e6 else none else some none) fun v7 => oc v1 (some (0, x)) (fun p8 => oc v7 (some (0, x)) (fun p9 => Option.bind (dI x p8 1 3) fun v10 => if ib 0 6 then lt (xsA x 22 (0 : Int32).toNatClampNeg v10) fun x13 => if ib 1 6 then lt (xsA x13 22 (1 : Int32).toNatClampNeg a3) fun x15 => if ib 2 6 then lt (xsA x15 22 (2 : Int32).toNatClampNeg a4) fun x17 => if ib 3 6 then lt (xsA x17 22 (3 : Int32).toNatClampNeg a5) fun x19 => Option.bind (dI x19 p8 1 4) fun v20 => if ib 4 6 then lt (xsA x19 22 (4 : Int32).toNatClampNeg v20) fun x23 => if a6 = (-1) then Option.bind (dI x23 p8 1 2) fun v30 => if ib 5 6 then lt (xsA x23 22 (5 : Int32).toNatClampNeg v30) fun x33 => if dK x33 p9 7 = true then bind2 (fX7_valueOf x33 p9 a1) fun v35 x36 => some (v35, x36) else none else none else if ib 5 6 then lt (xsA x23 22 (5 : Int32).toNatClampNeg a6) fun x25 => if dK x25 p9 7 = true then bind2 (fX7_valueOf x25 p9 a1) fun v27 x28 => some (v27, x28) else none else none else none else none else none else none else none))
abbrev rmX8_ruled : Room := { frames := 3, cells := 0, slots := 0, locals := 68 }
set_option maxHeartbeats 4000000 in
set_option maxRecDepth 100000 in
theorem kX8_ruled {l : Launch} {G : xG} {β : Nat} {D : Nat → Prop} {x x' : XS} {a1 : Int32} {a2 : Int32} {a3 : Int32} {a4 : Int32} {a5 : Int32} {a6 : Int32} {r : Int32} (hm : fX8_ruled x a1 a2 a3 a4 a5 a6 = some (r, x')) : Met l yX8_ruled (.code yX8_ruled cX8_ruled 9 (some .int) :: GT) rmX8_ruled (PcW [.ref β, .int a1, .int a2, .int a3, .int a4, .int a5, .int a6] (CW β D G x) (KK G)) (QcW D (some (.int r)) (CW β D G x')) 0 0 D := by
  unfold fX8_ruled at hm
  refine xpro (own := RX8) (by decide +kernel) rfl (Nat.le_of_ble_eq_true rfl) ?_
  intro p e s m args below meth c C hw ls hl
  have hx := C.1
  have hb := C.2.1
  have ho := C.2.2.2.1
  have hts := C.2.2.2.2.1
  have hS : va_S D s.heap s.heap [] := va_S.rf
  have hl : lv_has ls 9 [(0, .ref β), (1, .int a1), (2, .int a2), (3, .int a3), (4, .int a4), (5, .int a5), (6, .int a6)] := hl
  have hRf : 3 ≤ rmX8_ruled.frames := Nat.le_refl _
  have hRl : 68 ≤ rmX8_ruled.locals := Nat.le_refl _
  have hcs : 0 ≤ rmX8_ruled.cells ∧ 0 ≤ rmX8_ruled.slots := ⟨Nat.le_refl _, Nat.le_refl _⟩
  refine lv_aload_n hx hb dX8_ruled_0 rfl (lv_at hl 0 rfl) ?_
  refine lv_iload_n hx hb dX8_ruled_1 rfl (lv_at hl 2 rfl) ?_
  obtain ⟨v1, h2, hm⟩ := bind_e hm
  refine sX8_134 C h2 hw hS hl.1 (Nat.le_of_ble_eq_true rfl) (Nat.le_trans (Nat.le_of_ble_eq_true rfl) hRf) (Nat.le_trans (Nat.le_of_ble_eq_true rfl) hRl) hcs dX8_ruled_2 (fun H locs hw hS => ?_)
  refine x_astoreq (lv' := [(7, va_rf v1), (0, .ref β), (1, .int a1), (2, .int a2), (3, .int a3), (4, .int a4), (5, .int a5), (6, .int a6)]) hx hb dX8_ruled_5 hl (by decide) rfl (fun ls hl => ?_)
  refine lv_aload_n hx hb dX8_ruled_7 rfl (lv_at hl 1 rfl) ?_
  refine gX8_60 C hw dX8_ruled_8 ?_
  refine lv_iconst (v := 0) hx hb dX8_ruled_11 (by decide) ?_
  refine lv_aload_n hx hb dX8_ruled_12 rfl (lv_at hl 1 rfl) ?_
  refine gX8_57 C hw dX8_ruled_13 ?_
  refine lv_iconst (v := 1) hx hb dX8_ruled_16 (by decide) ?_
  refine lv_isub hx hb dX8_ruled_17 ?_
  obtain ⟨v3, h4, hm⟩ := bind_e hm
  refine sX8_138 C h4 hw hS hl.1 (Nat.le_of_ble_eq_true rfl) (Nat.le_trans (Nat.le_of_ble_eq_true rfl) hRf) (Nat.le_trans (Nat.le_of_ble_eq_true rfl) hRl) hcs dX8_ruled_18 (fun H locs hw hS => ?_)
  obtain ⟨v7, hj, hm⟩ := bind_e hm
  have kk : ∀ (H : Heap) (locs : List Loc) (ls : Array Slot), CW β D G x H → va_S D s.heap H locs → lv_has ls 9 [(0, .ref β), (1, .int a1), (3, .int a3), (4, .int a4), (5, .int a5), (6, .int a6), (7, va_rf v1)] → W p l e rmX8_ruled s m args below meth c H locs 0 0 (MQ below (QcW D (some (.int r)) (CW β D G x')) args s 0 0 D) (F0 m 37 ls [va_rf v7]) := by
    intro H locs ls hw hS hl
    refine x_astoreq (lv' := [(8, va_rf v7), (0, .ref β), (1, .int a1), (3, .int a3), (4, .int a4), (5, .int a5), (6, .int a6), (7, va_rf v1)]) hx hb dX8_ruled_37 hl (by decide) (by cases v1 <;> rfl) (fun ls hl => ?_)
    refine x_aloadq hx hb dX8_ruled_39 (lv_at hl 7 rfl) ?_
    rcases v1 with _ | p8
    · replace hm := oc_n hm
      refine lv_ifnullN (tgt := 49) hx hb dX8_ruled_41 (by decide) ?_
      refine lv_iconst (v := 0) hx hb dX8_ruled_49 (by decide) ?_
      obtain ⟨rfl, rfl⟩ := inj2 hm
      exact xret_i C hw hS dX8_ruled_50
    · replace hm := oc_s hm
      refine lv_ifnull hx hb dX8_ruled_41 ?_
      refine x_aloadq hx hb dX8_ruled_44 (lv_at hl 0 rfl) ?_
      rcases v7 with _ | p9
      · replace hm := oc_n hm
        refine lv_ifnonnullN hx hb dX8_ruled_46 ?_
        refine lv_iconst (v := 0) hx hb dX8_ruled_49 (by decide) ?_
        obtain ⟨rfl, rfl⟩ := inj2 hm
        exact xret_i C hw hS dX8_ruled_50
      · replace hm := oc_s hm
        refine lv_ifnonnull (tgt := 51) hx hb dX8_ruled_46 (by decide) ?_
        refine lv_aload_n hx hb dX8_ruled_51 rfl (lv_at hl 1 rfl) ?_
        refine gX8_83 C hw dX8_ruled_52 ?_
        refine lv_iconst (v := 0) hx hb dX8_ruled_55 (by decide) ?_
        refine lv_aload hx hb dX8_ruled_56 (lv_at hl 7 rfl) ?_
        obtain ⟨v10, h11, hm⟩ := bind_e hm
        refine gdX8_141 C h11 hw dX8_ruled_58 ?_
        obtain ⟨h12, hm⟩ := chk_e hm
        refine asX_22 C hw hS h12 dX8_ruled_61 (fun H locs hw hS => ?_)
        obtain ⟨x13, ev, hm⟩ := lt_e hm
        rw [← ev] at hw
        clear ev
        refine lv_aload_n hx hb dX8_ruled_62 rfl (lv_at hl 1 rfl) ?_
        refine gX8_83 C hw dX8_ruled_63 ?_
        refine lv_iconst (v := 1) hx hb dX8_ruled_66 (by decide) ?_
        refine lv_iload_n hx hb dX8_ruled_67 rfl (lv_at hl 3 rfl) ?_
        obtain ⟨h14, hm⟩ := chk_e hm
        refine asX_22 C hw hS h14 dX8_ruled_68 (fun H locs hw hS => ?_)
        obtain ⟨x15, ev, hm⟩ := lt_e hm
        rw [← ev] at hw
        clear ev
        refine lv_aload_n hx hb dX8_ruled_69 rfl (lv_at hl 1 rfl) ?_
        refine gX8_83 C hw dX8_ruled_70 ?_
        refine lv_iconst (v := 2) hx hb dX8_ruled_73 (by decide) ?_
        refine lv_iload hx hb dX8_ruled_74 (lv_at hl 4 rfl) ?_
        obtain ⟨h16, hm⟩ := chk_e hm
        refine asX_22 C hw hS h16 dX8_ruled_76 (fun H locs hw hS => ?_)
        obtain ⟨x17, ev, hm⟩ := lt_e hm
        rw [← ev] at hw
        clear ev
        refine lv_aload_n hx hb dX8_ruled_77 rfl (lv_at hl 1 rfl) ?_
        refine gX8_83 C hw dX8_ruled_78 ?_
        refine lv_iconst (v := 3) hx hb dX8_ruled_81 (by decide) ?_
        refine lv_iload hx hb dX8_ruled_82 (lv_at hl 5 rfl) ?_
        obtain ⟨h18, hm⟩ := chk_e hm
        refine asX_22 C hw hS h18 dX8_ruled_84 (fun H locs hw hS => ?_)
        obtain ⟨x19, ev, hm⟩ := lt_e hm
        rw [← ev] at hw
        clear ev
        refine lv_aload_n hx hb dX8_ruled_85 rfl (lv_at hl 1 rfl) ?_
        refine gX8_83 C hw dX8_ruled_86 ?_
        refine lv_iconst (v := 4) hx hb dX8_ruled_89 (by decide) ?_
        refine lv_aload hx hb dX8_ruled_90 (lv_at hl 7 rfl) ?_
        obtain ⟨v20, h21, hm⟩ := bind_e hm
        refine gdX8_144 C h21 hw dX8_ruled_92 ?_
        obtain ⟨h22, hm⟩ := chk_e hm
        refine asX_22 C hw hS h22 dX8_ruled_95 (fun H locs hw hS => ?_)
        obtain ⟨x23, ev, hm⟩ := lt_e hm
        rw [← ev] at hw
        clear ev
        refine lv_aload_n hx hb dX8_ruled_96 rfl (lv_at hl 1 rfl) ?_
        refine gX8_83 C hw dX8_ruled_97 ?_
        refine lv_iconst (v := 5) hx hb dX8_ruled_100 (by decide) ?_
        refine lv_iload hx hb dX8_ruled_101 (lv_at hl 6 rfl) ?_
        refine lv_iconst (v := (-1)) hx hb dX8_ruled_103 (by decide) ?_
        refine lv_icmp_ne (tgt := 115) hx hb dX8_ruled_104 (by decide) (fun cc => ?_) (fun cc => ?_)
        · replace hm := ite_n cc hm
          refine lv_iload hx hb dX8_ruled_115 (lv_at hl 6 rfl) ?_
          obtain ⟨h24, hm⟩ := chk_e hm
          refine asX_22 C hw hS h24 dX8_ruled_117 (fun H locs hw hS => ?_)
          obtain ⟨x25, ev, hm⟩ := lt_e hm
          rw [← ev] at hw
          clear ev
          refine lv_aload hx hb dX8_ruled_118 (lv_at hl 0 rfl) ?_
          refine lv_iload_n hx hb dX8_ruled_120 rfl (lv_at hl 2 rfl) ?_
          refine lv_aload_n hx hb dX8_ruled_121 rfl (lv_at hl 1 rfl) ?_
          refine gX8_83 C hw dX8_ruled_122 ?_
          obtain ⟨h26, hm⟩ := chk_e hm
          obtain ⟨v27, x28, h29, hm⟩ := bind2_e hm
          refine sX8_389 C h26 h29 hw hS hl.1 (Nat.le_of_ble_eq_true rfl) (Nat.le_trans (Nat.le_of_ble_eq_true rfl) hRf) (Nat.le_trans (Nat.le_of_ble_eq_true rfl) hRl) hcs dX8_ruled_125 (fun H locs hw hS => ?_)
          obtain ⟨rfl, rfl⟩ := inj2 hm
          exact xret_i C hw hS dX8_ruled_128
        · replace hm := ite_p cc hm
          refine lv_aload hx hb dX8_ruled_107 (lv_at hl 7 rfl) ?_
          obtain ⟨v30, h31, hm⟩ := bind_e hm
          refine gdX8_170 C h31 hw dX8_ruled_109 ?_
          refine lv_goto (tgt := 117) hx hb dX8_ruled_112 (by decide) ?_
          obtain ⟨h32, hm⟩ := chk_e hm
          refine asX_22 C hw hS h32 dX8_ruled_117 (fun H locs hw hS => ?_)
          obtain ⟨x33, ev, hm⟩ := lt_e hm
          rw [← ev] at hw
          clear ev
          refine lv_aload hx hb dX8_ruled_118 (lv_at hl 0 rfl) ?_
          refine lv_iload_n hx hb dX8_ruled_120 rfl (lv_at hl 2 rfl) ?_
          refine lv_aload_n hx hb dX8_ruled_121 rfl (lv_at hl 1 rfl) ?_
          refine gX8_83 C hw dX8_ruled_122 ?_
          obtain ⟨h34, hm⟩ := chk_e hm
          obtain ⟨v35, x36, h37, hm⟩ := bind2_e hm
          refine sX8_389 C h34 h37 hw hS hl.1 (Nat.le_of_ble_eq_true rfl) (Nat.le_trans (Nat.le_of_ble_eq_true rfl) hRf) (Nat.le_trans (Nat.le_of_ble_eq_true rfl) hRl) hcs dX8_ruled_125 (fun H locs hw hS => ?_)
          obtain ⟨rfl, rfl⟩ := inj2 hm
          exact xret_i C hw hS dX8_ruled_128
  clear hm
  replace hm := hj
  clear hj
  refine x_ifeqB hx hb dX8_ruled_21 (tgt := 36) (by decide) (fun cc => ?_) (fun cc => ?_)
  · replace hm := ite_n cc hm
    refine lv_null hx hb dX8_ruled_36 ?_
    obtain rfl := Option.some.inj hm
    exact kk _ _ _ hw hS (lv_sub hl [1, 2, 4, 5, 6, 7, 0] rfl)
  · replace hm := ite_p cc hm
    refine lv_aload_n hx hb dX8_ruled_24 rfl (lv_at hl 1 rfl) ?_
    refine gX8_53 C hw dX8_ruled_25 ?_
    refine lv_aload_n hx hb dX8_ruled_28 rfl (lv_at hl 1 rfl) ?_
    refine gX8_60 C hw dX8_ruled_29 ?_
    obtain ⟨h5, hm⟩ := chk_e hm
    refine alX_9 C hw h5 dX8_ruled_32 ?_
    refine topR hm (fun e6 hm => ?_)
    refine lv_goto (tgt := 37) hx hb dX8_ruled_33 (by decide) ?_
    obtain rfl := Option.some.inj hm
    exact kk _ _ _ hw hS (lv_sub hl [1, 2, 4, 5, 6, 7, 0] rfl)
theorem dX8_ruledAhead_0 : decode cX8_ruledAhead 0 = .ok (.aload_n 0, 1) := by decide +kernel
theorem dX8_ruledAhead_1 : decode cX8_ruledAhead 1 = .ok (.iload_n 1, 1) := by decide +kernel
theorem dX8_ruledAhead_2 : decode cX8_ruledAhead 2 = .ok (.iload_n 2, 1) := by decide +kernel
theorem dX8_ruledAhead_3 : decode cX8_ruledAhead 3 = .ok (.iload_n 3, 1) := by decide +kernel
theorem dX8_ruledAhead_4 : decode cX8_ruledAhead 4 = .ok (.aload_n 0, 1) := by decide +kernel
theorem dX8_ruledAhead_5 : decode cX8_ruledAhead 5 = .ok (.iload_n 2, 1) := by decide +kernel
theorem dX8_ruledAhead_6 : decode cX8_ruledAhead 6 = .ok (.invokevirtual 173, 3) := by decide +kernel
theorem dX8_ruledAhead_9 : decode cX8_ruledAhead 9 = .ok (.iconst 0, 1) := by decide +kernel
theorem dX8_ruledAhead_10 : decode cX8_ruledAhead 10 = .ok (.iconst (-1), 1) := by decide +kernel
theorem dX8_ruledAhead_11 : decode cX8_ruledAhead 11 = .ok (.invokevirtual 393, 3) := by decide +kernel
theorem dX8_ruledAhead_14 : decode cX8_ruledAhead 14 = .ok (.ireturn, 1) := by decide +kernel
theorem sX8_173 {p : Program} {l : Launch} {e : Env} {R : Room} {s : State} {m : MethodId} {args : Array Value} {below : List Frame} {meth : Method} {c : Code} {H : Heap} {locs : List Loc} {cells slots : Nat} {Q : State → Prop} {cc : ByteArray} {pc nL : Nat} {ls : Array Slot} {rest : List Value} {ret : Option FieldType}  {G : xG} {β : Nat} {D : Nat → Prop} {x : XS} {a1 : Int32} {r : Int32} (C : Cx p s m args meth c RX8 cc nL ret (KK G)) (h : fX8_racesWon x a1 = some r) (hw : CW β D G x H) (hS : va_S D s.heap H locs) (hsz : ls.size = nL) (hW : (rest.map fun v => v.category).sum ≤ 8) (hR : 3 ≤ R.frames) (hR2 : 67 ≤ R.locals) (hcs : cells ≤ R.cells ∧ slots ≤ R.slots) (hd : decode cc pc = .ok (.invokevirtual 173, 3)) (kk : ∀ (H1 : Heap) (locs1 : List Loc), CW β D G x H1 → va_S D s.heap H1 locs1 → W p l e R s m args below meth c H1 locs1 cells slots Q (F0 m (pc + 3) ls (.int r :: rest))) : W p l e R s m args below meth c H locs cells slots Q (F0 m pc ls (.int a1 :: .ref β :: rest)) := by
  exact xcallV C (As := [.int a1]) (rest := rest) (nA := 1) (ci := 8) (kX8_racesWon h) (tg 497 (by decide +kernel) rfl) (tg 499 (by decide +kernel) rfl) (sg (List.mem_of_getElem? (i := 17) (by decide +kernel)) rfl) (tg 1 (by decide +kernel) rfl) (tg 500 (by decide +kernel) rfl) ⟨rfl, by decide +kernel, by decide +kernel, by decide +kernel⟩ rfl rfl rfl ⟨hR, hR2⟩ (hw.2.2.1 0 (by decide)) hw hS (fun _ q => q) rfl rfl hsz hW hd hcs (fun H1 locs1 hw hz hk hS => kk H1 locs1 hw hS)
theorem sX8_393 {p : Program} {l : Launch} {e : Env} {R : Room} {s : State} {m : MethodId} {args : Array Value} {below : List Frame} {meth : Method} {c : Code} {H : Heap} {locs : List Loc} {cells slots : Nat} {Q : State → Prop} {cc : ByteArray} {pc nL : Nat} {ls : Array Slot} {rest : List Value} {ret : Option FieldType}  {G : xG} {β : Nat} {D : Nat → Prop} {x x' : XS} {a1 : Int32} {a2 : Int32} {a3 : Int32} {a4 : Int32} {a5 : Int32} {a6 : Int32} {r : Int32} (C : Cx p s m args meth c RX8 cc nL ret (KK G)) (h : fX8_ruled x a1 a2 a3 a4 a5 a6 = some (r, x')) (hw : CW β D G x H) (hS : va_S D s.heap H locs) (hsz : ls.size = nL) (hW : (rest.map fun v => v.category).sum ≤ 8) (hR : 4 ≤ R.frames) (hR2 : 96 ≤ R.locals) (hcs : cells ≤ R.cells ∧ slots ≤ R.slots) (hd : decode cc pc = .ok (.invokevirtual 393, 3)) (kk : ∀ (H1 : Heap) (locs1 : List Loc), CW β D G x' H1 → va_S D s.heap H1 locs1 → W p l e R s m args below meth c H1 locs1 cells slots Q (F0 m (pc + 3) ls (.int r :: rest))) : W p l e R s m args below meth c H locs cells slots Q (F0 m pc ls (.int a6 :: .int a5 :: .int a4 :: .int a3 :: .int a2 :: .int a1 :: .ref β :: rest)) := by
  exact xcallV C (As := [.int a1, .int a2, .int a3, .int a4, .int a5, .int a6]) (rest := rest) (nA := 6) (ci := 8) (kX8_ruled h) (tg 521 (by decide +kernel) rfl) (tg 523 (by decide +kernel) rfl) (sg (List.mem_of_getElem? (i := 22) (by decide +kernel)) rfl) (tg 1 (by decide +kernel) rfl) (tg 524 (by decide +kernel) rfl) ⟨rfl, by decide +kernel, by decide +kernel, by decide +kernel⟩ rfl rfl rfl ⟨hR, hR2⟩ (hw.2.2.1 0 (by decide)) hw hS (fun _ q => q) rfl rfl hsz hW hd hcs (fun H1 locs1 hw hz hk hS => kk H1 locs1 hw hS)
def fX8_ruledAhead (x : XS) (a1 : Int32) (a2 : Int32) (a3 : Int32) : Option (Int32 × XS) := Option.bind (fX8_racesWon x a2) fun v1 => bind2 (fX8_ruled x a1 a2 a3 v1 0 (-1)) fun v3 x4 => some (v3, x4)
abbrev rmX8_ruledAhead : Room := { frames := 4, cells := 0, slots := 0, locals := 96 }
set_option maxHeartbeats 4000000 in
set_option maxRecDepth 100000 in
theorem kX8_ruledAhead {l : Launch} {G : xG} {β : Nat} {D : Nat → Prop} {x x' : XS} {a1 : Int32} {a2 : Int32} {a3 : Int32} {r : Int32} (hm : fX8_ruledAhead x a1 a2 a3 = some (r, x')) : Met l yX8_ruledAhead (.code yX8_ruledAhead cX8_ruledAhead 4 (some .int) :: GT) rmX8_ruledAhead (PcW [.ref β, .int a1, .int a2, .int a3] (CW β D G x) (KK G)) (QcW D (some (.int r)) (CW β D G x')) 0 0 D := by
  unfold fX8_ruledAhead at hm
  refine xpro (own := RX8) (by decide +kernel) rfl (Nat.le_of_ble_eq_true rfl) ?_
  intro p e s m args below meth c C hw ls hl
  have hx := C.1
  have hb := C.2.1
  have ho := C.2.2.2.1
  have hts := C.2.2.2.2.1
  have hS : va_S D s.heap s.heap [] := va_S.rf
  have hl : lv_has ls 4 [(0, .ref β), (1, .int a1), (2, .int a2), (3, .int a3)] := hl
  have hRf : 4 ≤ rmX8_ruledAhead.frames := Nat.le_refl _
  have hRl : 96 ≤ rmX8_ruledAhead.locals := Nat.le_refl _
  have hcs : 0 ≤ rmX8_ruledAhead.cells ∧ 0 ≤ rmX8_ruledAhead.slots := ⟨Nat.le_refl _, Nat.le_refl _⟩
  refine lv_aload_n hx hb dX8_ruledAhead_0 rfl (lv_at hl 0 rfl) ?_
  refine lv_iload_n hx hb dX8_ruledAhead_1 rfl (lv_at hl 1 rfl) ?_
  refine lv_iload_n hx hb dX8_ruledAhead_2 rfl (lv_at hl 2 rfl) ?_
  refine lv_iload_n hx hb dX8_ruledAhead_3 rfl (lv_at hl 3 rfl) ?_
  refine lv_aload_n hx hb dX8_ruledAhead_4 rfl (lv_at hl 0 rfl) ?_
  refine lv_iload_n hx hb dX8_ruledAhead_5 rfl (lv_at hl 2 rfl) ?_
  obtain ⟨v1, h2, hm⟩ := bind_e hm
  refine sX8_173 C h2 hw hS hl.1 (Nat.le_of_ble_eq_true rfl) (Nat.le_trans (Nat.le_of_ble_eq_true rfl) hRf) (Nat.le_trans (Nat.le_of_ble_eq_true rfl) hRl) hcs dX8_ruledAhead_6 (fun H locs hw hS => ?_)
  refine lv_iconst (v := 0) hx hb dX8_ruledAhead_9 (by decide) ?_
  refine lv_iconst (v := (-1)) hx hb dX8_ruledAhead_10 (by decide) ?_
  obtain ⟨v3, x4, h5, hm⟩ := bind2_e hm
  refine sX8_393 C h5 hw hS hl.1 (Nat.le_of_ble_eq_true rfl) (Nat.le_trans (Nat.le_of_ble_eq_true rfl) hRf) (Nat.le_trans (Nat.le_of_ble_eq_true rfl) hRl) hcs dX8_ruledAhead_11 (fun H locs hw hS => ?_)
  obtain ⟨rfl, rfl⟩ := inj2 hm
  exact xret_i C hw hS dX8_ruledAhead_14
theorem dX8_holdCost_0 : decode cX8_holdCost 0 = .ok (.aload_n 0, 1) := by decide +kernel
theorem dX8_holdCost_1 : decode cX8_holdCost 1 = .ok (.iconst 1, 1) := by decide +kernel
theorem dX8_holdCost_2 : decode cX8_holdCost 2 = .ok (.iload_n 1, 1) := by decide +kernel
theorem dX8_holdCost_3 : decode cX8_holdCost 3 = .ok (.iload_n 2, 1) := by decide +kernel
theorem dX8_holdCost_4 : decode cX8_holdCost 4 = .ok (.invokevirtual 184, 3) := by decide +kernel
theorem dX8_holdCost_7 : decode cX8_holdCost 7 = .ok (.iconst 0, 1) := by decide +kernel
theorem dX8_holdCost_8 : decode cX8_holdCost 8 = .ok (.sipush 999, 3) := by decide +kernel
theorem dX8_holdCost_11 : decode cX8_holdCost 11 = .ok (.invokestatic 397, 3) := by decide +kernel
theorem dX8_holdCost_14 : decode cX8_holdCost 14 = .ok (.ireturn, 1) := by decide +kernel
theorem sX8_184 {p : Program} {l : Launch} {e : Env} {R : Room} {s : State} {m : MethodId} {args : Array Value} {below : List Frame} {meth : Method} {c : Code} {H : Heap} {locs : List Loc} {cells slots : Nat} {Q : State → Prop} {cc : ByteArray} {pc nL : Nat} {ls : Array Slot} {rest : List Value} {ret : Option FieldType}  {G : xG} {β : Nat} {D : Nat → Prop} {x x' : XS} {a1 : Int32} {a2 : Int32} {a3 : Int32} {r : Int32} (C : Cx p s m args meth c RX8 cc nL ret (KK G)) (h : fX8_ruledAhead x a1 a2 a3 = some (r, x')) (hw : CW β D G x H) (hS : va_S D s.heap H locs) (hsz : ls.size = nL) (hW : (rest.map fun v => v.category).sum ≤ 8) (hR : 5 ≤ R.frames) (hR2 : 119 ≤ R.locals) (hcs : cells ≤ R.cells ∧ slots ≤ R.slots) (hd : decode cc pc = .ok (.invokevirtual 184, 3)) (kk : ∀ (H1 : Heap) (locs1 : List Loc), CW β D G x' H1 → va_S D s.heap H1 locs1 → W p l e R s m args below meth c H1 locs1 cells slots Q (F0 m (pc + 3) ls (.int r :: rest))) : W p l e R s m args below meth c H locs cells slots Q (F0 m pc ls (.int a3 :: .int a2 :: .int a1 :: .ref β :: rest)) := by
  exact xcallV C (As := [.int a1, .int a2, .int a3]) (rest := rest) (nA := 3) (ci := 8) (kX8_ruledAhead h) (tg 517 (by decide +kernel) rfl) (tg 519 (by decide +kernel) rfl) (sg (List.mem_of_getElem? (i := 21) (by decide +kernel)) rfl) (tg 1 (by decide +kernel) rfl) (tg 520 (by decide +kernel) rfl) ⟨rfl, by decide +kernel, by decide +kernel, by decide +kernel⟩ rfl rfl rfl ⟨hR, hR2⟩ (hw.2.2.1 0 (by decide)) hw hS (fun _ q => q) rfl rfl hsz hW hd hcs (fun H1 locs1 hw hz hk hS => kk H1 locs1 hw hS)
theorem sX8_397 {p : Program} {l : Launch} {e : Env} {R : Room} {s : State} {m : MethodId} {args : Array Value} {below : List Frame} {meth : Method} {c : Code} {H : Heap} {locs : List Loc} {cells slots : Nat} {Q : State → Prop} {cc : ByteArray} {pc nL : Nat} {ls : Array Slot} {rest : List Value} {ret : Option FieldType}  {G : xG} {β : Nat} {D : Nat → Prop} {x : XS} {a1 : Int32} {a2 : Int32} {a3 : Int32} {r : Int32} (C : Cx p s m args meth c RX8 cc nL ret (KK G)) (h : fX8_bounded a1 a2 a3 = some r) (hw : CW β D G x H) (hS : va_S D s.heap H locs) (hsz : ls.size = nL) (hW : (rest.map fun v => v.category).sum ≤ 8) (hR : 2 ≤ R.frames) (hR2 : 43 ≤ R.locals) (hcs : cells ≤ R.cells ∧ slots ≤ R.slots) (hd : decode cc pc = .ok (.invokestatic 397, 3)) (kk : ∀ (H1 : Heap) (locs1 : List Loc), CW β D G x H1 → va_S D s.heap H1 locs1 → W p l e R s m args below meth c H1 locs1 cells slots Q (F0 m (pc + 3) ls (.int r :: rest))) : W p l e R s m args below meth c H locs cells slots Q (F0 m pc ls (.int a3 :: .int a2 :: .int a1 :: rest)) := by
  exact xcallS C (As := [.int a1, .int a2, .int a3]) (rest := rest) (nA := 3) (kX8_bounded h) (tg 547 (by decide +kernel) rfl) (tg 548 (by decide +kernel) rfl) (tg 1 (by decide +kernel) rfl) (tg 549 (by decide +kernel) rfl) ⟨by decide +kernel, by decide +kernel, by decide +kernel⟩ rfl rfl ⟨hR, hR2⟩ hw hS (fun _ q => q) rfl rfl hsz hW hd hcs (fun H1 locs1 hw hz hk hS => kk H1 locs1 hw hS)
def fX8_holdCost (x : XS) (a1 : Int32) (a2 : Int32) : Option (Int32 × XS) := bind2 (fX8_ruledAhead x 1 a1 a2) fun v1 x2 => Option.bind (fX8_bounded v1 0 999) fun v4 => some (v4, x2)
abbrev rmX8_holdCost : Room := { frames := 5, cells := 0, slots := 0, locals := 119 }
set_option maxHeartbeats 4000000 in
set_option maxRecDepth 100000 in
theorem kX8_holdCost {l : Launch} {G : xG} {β : Nat} {D : Nat → Prop} {x x' : XS} {a1 : Int32} {a2 : Int32} {r : Int32} (hm : fX8_holdCost x a1 a2 = some (r, x')) : Met l yX8_holdCost (.code yX8_holdCost cX8_holdCost 3 (some .int) :: GT) rmX8_holdCost (PcW [.ref β, .int a1, .int a2] (CW β D G x) (KK G)) (QcW D (some (.int r)) (CW β D G x')) 0 0 D := by
  unfold fX8_holdCost at hm
  refine xpro (own := RX8) (by decide +kernel) rfl (Nat.le_of_ble_eq_true rfl) ?_
  intro p e s m args below meth c C hw ls hl
  have hx := C.1
  have hb := C.2.1
  have ho := C.2.2.2.1
  have hts := C.2.2.2.2.1
  have hS : va_S D s.heap s.heap [] := va_S.rf
  have hl : lv_has ls 3 [(0, .ref β), (1, .int a1), (2, .int a2)] := hl
  have hRf : 5 ≤ rmX8_holdCost.frames := Nat.le_refl _
  have hRl : 119 ≤ rmX8_holdCost.locals := Nat.le_refl _
  have hcs : 0 ≤ rmX8_holdCost.cells ∧ 0 ≤ rmX8_holdCost.slots := ⟨Nat.le_refl _, Nat.le_refl _⟩
  refine lv_aload_n hx hb dX8_holdCost_0 rfl (lv_at hl 0 rfl) ?_
  refine lv_iconst (v := 1) hx hb dX8_holdCost_1 (by decide) ?_
  refine lv_iload_n hx hb dX8_holdCost_2 rfl (lv_at hl 1 rfl) ?_
  refine lv_iload_n hx hb dX8_holdCost_3 rfl (lv_at hl 2 rfl) ?_
  obtain ⟨v1, x2, h3, hm⟩ := bind2_e hm
  refine sX8_184 C h3 hw hS hl.1 (Nat.le_of_ble_eq_true rfl) (Nat.le_trans (Nat.le_of_ble_eq_true rfl) hRf) (Nat.le_trans (Nat.le_of_ble_eq_true rfl) hRl) hcs dX8_holdCost_4 (fun H locs hw hS => ?_)
  refine lv_iconst (v := 0) hx hb dX8_holdCost_7 (by decide) ?_
  refine lv_sipush (v := 999) hx hb dX8_holdCost_8 (by decide) ?_
  obtain ⟨v4, h5, hm⟩ := bind_e hm
  refine sX8_397 C h5 hw hS hl.1 (Nat.le_of_ble_eq_true rfl) (Nat.le_trans (Nat.le_of_ble_eq_true rfl) hRf) (Nat.le_trans (Nat.le_of_ble_eq_true rfl) hRl) hcs dX8_holdCost_11 (fun H locs hw hS => ?_)
  obtain ⟨rfl, rfl⟩ := inj2 hm
  exact xret_i C hw hS dX8_holdCost_14
theorem dX8_racesRun_0 : decode cX8_racesRun 0 = .ok (.iconst 0, 1) := by decide +kernel
theorem dX8_racesRun_1 : decode cX8_racesRun 1 = .ok (.istore_n 2, 1) := by decide +kernel
theorem dX8_racesRun_2 : decode cX8_racesRun 2 = .ok (.iconst 0, 1) := by decide +kernel
theorem dX8_racesRun_3 : decode cX8_racesRun 3 = .ok (.istore_n 3, 1) := by decide +kernel
theorem dX8_racesRun_4 : decode cX8_racesRun 4 = .ok (.iload_n 3, 1) := by decide +kernel
theorem dX8_racesRun_5 : decode cX8_racesRun 5 = .ok (.aload_n 0, 1) := by decide +kernel
theorem dX8_racesRun_6 : decode cX8_racesRun 6 = .ok (.getfield 32, 3) := by decide +kernel
theorem dX8_racesRun_9 : decode cX8_racesRun 9 = .ok (.if_icmp .ge 34, 3) := by decide +kernel
theorem dX8_racesRun_12 : decode cX8_racesRun 12 = .ok (.aload_n 0, 1) := by decide +kernel
theorem dX8_racesRun_13 : decode cX8_racesRun 13 = .ok (.iload_n 3, 1) := by decide +kernel
theorem dX8_racesRun_14 : decode cX8_racesRun 14 = .ok (.invokevirtual 265, 3) := by decide +kernel
theorem dX8_racesRun_17 : decode cX8_racesRun 17 = .ok (.astore 4, 2) := by decide +kernel
theorem dX8_racesRun_19 : decode cX8_racesRun 19 = .ok (.aload 4, 2) := by decide +kernel
theorem dX8_racesRun_21 : decode cX8_racesRun 21 = .ok (.ifnull 16, 3) := by decide +kernel
theorem dX8_racesRun_24 : decode cX8_racesRun 24 = .ok (.aload 4, 2) := by decide +kernel
theorem dX8_racesRun_26 : decode cX8_racesRun 26 = .ok (.iload_n 1, 1) := by decide +kernel
theorem dX8_racesRun_27 : decode cX8_racesRun 27 = .ok (.invokevirtual 403, 3) := by decide +kernel
theorem dX8_racesRun_30 : decode cX8_racesRun 30 = .ok (.iconst (-1), 1) := by decide +kernel
theorem dX8_racesRun_31 : decode cX8_racesRun 31 = .ok (.if_icmp .eq 6, 3) := by decide +kernel
theorem dX8_racesRun_34 : decode cX8_racesRun 34 = .ok (.iinc 2 1, 3) := by decide +kernel
theorem dX8_racesRun_37 : decode cX8_racesRun 37 = .ok (.iinc 3 1, 3) := by decide +kernel
theorem dX8_racesRun_40 : decode cX8_racesRun 40 = .ok (.goto (-36), 3) := by decide +kernel
theorem dX8_racesRun_43 : decode cX8_racesRun 43 = .ok (.iload_n 2, 1) := by decide +kernel
theorem dX8_racesRun_44 : decode cX8_racesRun 44 = .ok (.ireturn, 1) := by decide +kernel
def BX8_racesRun_4 (x : XS) (q1 : Int32) (lp : Int32 → Int32 → Option (Int32)) (u2 : Int32) (u3 : Int32) : Option (Int32) := if (x.1 0 5) ≤ u3 then some u2 else Option.bind (fX8_raceAt x u3) fun v1 => oc v1 (lt (u3 + 1) fun v4 => lp u2 v4) (fun p3 => if dK x p3 3 = true then Option.bind (fX3_placeOf x p3 q1) fun v6 => if v6 = (-1) then lt (u3 + 1) fun v8 => lp u2 v8 else lt (u2 + 1) fun v9 => lt (u3 + 1) fun v10 => lp v9 v10 else none)
def LX8_racesRun_4 (x : XS) (q1 : Int32) : Nat → Int32 → Int32 → Option (Int32)
  | 0, _, _ => none
  | n + 1, u2, u3 => BX8_racesRun_4 x q1 (LX8_racesRun_4 x q1 n) u2 u3
def fX8_racesRun (x : XS) (a1 : Int32) : Option (Int32) := Option.bind (LX8_racesRun_4 x a1 NF 0 0) fun v11 => some v11
set_option maxHeartbeats 4000000 in
set_option maxRecDepth 100000 in
theorem lX8_racesRun_4 {p : Program} {l : Launch} {e : Env} {R : Room} {s : State} {m : MethodId} {args : Array Value} {below : List Frame} {meth : Method} {c : Code} {cells slots : Nat} {Q : State → Prop} {G : xG} {β : Nat} {D : Nat → Prop} (C : Cx p s m args meth c RX8 cX8_racesRun 5 (some .int) (KK G)) (hRf : 2 ≤ R.frames) (hRl : 43 ≤ R.locals) (hcs : cells ≤ R.cells ∧ slots ≤ R.slots) (x : XS) (q1 : Int32) : ∀ (n : Nat) (u2 : Int32) (u3 : Int32) (J : Int32) (H : Heap) (locs : List Loc) (ls : Array Slot), LX8_racesRun_4 x q1 n u2 u3 = some J → CW β D G x H → va_S D s.heap H locs → lv_has ls 5 [(0, .ref β), (1, .int q1), (2, .int u2), (3, .int u3)] → (∀ (w2 : Int32), J = w2 → ∀ (H : Heap) (locs : List Loc) (ls : Array Slot), CW β D G x H → va_S D s.heap H locs → lv_has ls 5 [(2, .int w2)] → W p l e R s m args below meth c H locs cells slots Q (F0 m 43 ls [])) → W p l e R s m args below meth c H locs cells slots Q (F0 m 4 ls []) := by
  have hx := C.1
  have hb := C.2.1
  have ho := C.2.2.2.1
  have hts := C.2.2.2.2.1
  intro n
  induction n with
  | zero =>
    intro u2 u3 J H locs ls hm
    exact absurd hm (by simp [LX8_racesRun_4])
  | succ n ih =>
    intro u2 u3 J H locs ls hm hw hS hl ke
    replace hm : BX8_racesRun_4 x q1 (LX8_racesRun_4 x q1 n) u2 u3 = some J := hm
    unfold BX8_racesRun_4 at hm
    refine lv_iload_n hx hb dX8_racesRun_4 rfl (lv_at hl 3 rfl) ?_
    refine lv_aload_n hx hb dX8_racesRun_5 rfl (lv_at hl 0 rfl) ?_
    refine gX8_32 C hw dX8_racesRun_6 ?_
    refine lv_icmp_ge (tgt := 43) hx hb dX8_racesRun_9 (by decide) (fun cc => ?_) (fun cc => ?_)
    · replace hm := ite_p cc hm
      exact ke _ (Option.some.inj hm).symm _ _ _ hw hS (lv_sub hl [2] rfl)
    · replace hm := ite_n cc hm
      refine lv_aload_n hx hb dX8_racesRun_12 rfl (lv_at hl 0 rfl) ?_
      refine lv_iload_n hx hb dX8_racesRun_13 rfl (lv_at hl 3 rfl) ?_
      obtain ⟨v1, h2, hm⟩ := bind_e hm
      refine sX8_265 C h2 hw hS hl.1 (Nat.le_of_ble_eq_true rfl) (Nat.le_trans (Nat.le_of_ble_eq_true rfl) hRf) (Nat.le_trans (Nat.le_of_ble_eq_true rfl) hRl) hcs dX8_racesRun_14 (fun H locs hw hS => ?_)
      refine x_astoreq (lv' := [(4, va_rf v1), (0, .ref β), (1, .int q1), (2, .int u2), (3, .int u3)]) hx hb dX8_racesRun_17 hl (by decide) rfl (fun ls hl => ?_)
      refine x_aloadq hx hb dX8_racesRun_19 (lv_at hl 0 rfl) ?_
      rcases v1 with _ | p3
      · replace hm := oc_n hm
        refine lv_ifnullN (tgt := 37) hx hb dX8_racesRun_21 (by decide) ?_
        obtain ⟨v4, ev, hm⟩ := lt_e hm
        refine lv_iinc (v := v4) (lv' := [(3, .int v4), (4, .null), (0, .ref β), (1, .int q1), (2, .int u2)]) hx hb dX8_racesRun_37 hl (k := 4) rfl (by rw [ev]; rfl) (by decide) rfl (fun ls hl => ?_)
        clear ev
        refine lv_goto (tgt := 4) hx hb dX8_racesRun_40 (by decide) ?_
        exact ih _ _ _ _ _ _ hm hw hS (lv_sub hl [2, 3, 4, 0] rfl) ke
      · replace hm := oc_s hm
        refine lv_ifnull hx hb dX8_racesRun_21 ?_
        refine lv_aload hx hb dX8_racesRun_24 (lv_at hl 0 rfl) ?_
        refine lv_iload_n hx hb dX8_racesRun_26 rfl (lv_at hl 2 rfl) ?_
        obtain ⟨h5, hm⟩ := chk_e hm
        obtain ⟨v6, h7, hm⟩ := bind_e hm
        refine sX8_403 C h5 h7 hw hS hl.1 (Nat.le_of_ble_eq_true rfl) (Nat.le_trans (Nat.le_of_ble_eq_true rfl) hRf) (Nat.le_trans (Nat.le_of_ble_eq_true rfl) hRl) hcs dX8_racesRun_27 (fun H locs hw hS => ?_)
        refine lv_iconst (v := (-1)) hx hb dX8_racesRun_30 (by decide) ?_
        refine lv_icmp_eq (tgt := 37) hx hb dX8_racesRun_31 (by decide) (fun cc => ?_) (fun cc => ?_)
        · replace hm := ite_p cc hm
          obtain ⟨v8, ev, hm⟩ := lt_e hm
          refine lv_iinc (v := v8) (lv' := [(3, .int v8), (4, .ref p3), (0, .ref β), (1, .int q1), (2, .int u2)]) hx hb dX8_racesRun_37 hl (k := 4) rfl (by rw [ev]; rfl) (by decide) rfl (fun ls hl => ?_)
          clear ev
          refine lv_goto (tgt := 4) hx hb dX8_racesRun_40 (by decide) ?_
          exact ih _ _ _ _ _ _ hm hw hS (lv_sub hl [2, 3, 4, 0] rfl) ke
        · replace hm := ite_n cc hm
          obtain ⟨v9, ev, hm⟩ := lt_e hm
          refine lv_iinc (v := v9) (lv' := [(2, .int v9), (4, .ref p3), (0, .ref β), (1, .int q1), (3, .int u3)]) hx hb dX8_racesRun_34 hl (k := 3) rfl (by rw [ev]; rfl) (by decide) rfl (fun ls hl => ?_)
          clear ev
          obtain ⟨v10, ev, hm⟩ := lt_e hm
          refine lv_iinc (v := v10) (lv' := [(3, .int v10), (2, .int v9), (4, .ref p3), (0, .ref β), (1, .int q1)]) hx hb dX8_racesRun_37 hl (k := 4) rfl (by rw [ev]; rfl) (by decide) rfl (fun ls hl => ?_)
          clear ev
          refine lv_goto (tgt := 4) hx hb dX8_racesRun_40 (by decide) ?_
          exact ih _ _ _ _ _ _ hm hw hS (lv_sub hl [3, 4, 1, 0] rfl) ke
abbrev rmX8_racesRun : Room := { frames := 2, cells := 0, slots := 0, locals := 43 }
set_option maxHeartbeats 4000000 in
set_option maxRecDepth 100000 in
theorem kX8_racesRun {l : Launch} {G : xG} {β : Nat} {D : Nat → Prop} {x : XS} {a1 : Int32} {r : Int32} (hm : fX8_racesRun x a1 = some r) : Met l yX8_racesRun (.code yX8_racesRun cX8_racesRun 5 (some .int) :: GT) rmX8_racesRun (PcW [.ref β, .int a1] (CW β D G x) (KK G)) (QcW D (some (.int r)) (CW β D G x)) 0 0 D := by
  unfold fX8_racesRun at hm
  refine xpro (own := RX8) (by decide +kernel) rfl (Nat.le_of_ble_eq_true rfl) ?_
  intro p e s m args below meth c C hw ls hl
  have hx := C.1
  have hb := C.2.1
  have ho := C.2.2.2.1
  have hts := C.2.2.2.2.1
  have hS : va_S D s.heap s.heap [] := va_S.rf
  have hl : lv_has ls 5 [(0, .ref β), (1, .int a1)] := hl
  have hRf : 2 ≤ rmX8_racesRun.frames := Nat.le_refl _
  have hRl : 43 ≤ rmX8_racesRun.locals := Nat.le_refl _
  have hcs : 0 ≤ rmX8_racesRun.cells ∧ 0 ≤ rmX8_racesRun.slots := ⟨Nat.le_refl _, Nat.le_refl _⟩
  refine lv_iconst (v := 0) hx hb dX8_racesRun_0 (by decide) ?_
  refine lv_istore_n (lv' := [(2, .int 0), (0, .ref β), (1, .int a1)]) hx hb dX8_racesRun_1 rfl hl (by decide) rfl (fun ls hl => ?_)
  refine lv_iconst (v := 0) hx hb dX8_racesRun_2 (by decide) ?_
  refine lv_istore_n (lv' := [(3, .int 0), (2, .int 0), (0, .ref β), (1, .int a1)]) hx hb dX8_racesRun_3 rfl hl (by decide) rfl (fun ls hl => ?_)
  obtain ⟨v11, hj, hm⟩ := bind_e hm
  refine lX8_racesRun_4 C hRf hRl hcs x a1 NF _ _ _ _ _ _ hj hw hS (lv_sub hl [2, 3, 1, 0] rfl) (fun v11_ e0 H locs ls hw hS hl => ?_)
  cases e0
  refine lv_iload_n hx hb dX8_racesRun_43 rfl (lv_at hl 0 rfl) ?_
  obtain rfl := Option.some.inj hm
  exact xret_i C hw hS dX8_racesRun_44
theorem dX8_told_0 : decode cX8_told 0 = .ok (.aload_n 0, 1) := by decide +kernel
theorem dX8_told_1 : decode cX8_told 1 = .ok (.iload_n 1, 1) := by decide +kernel
theorem dX8_told_2 : decode cX8_told 2 = .ok (.invokevirtual 134, 3) := by decide +kernel
theorem dX8_told_5 : decode cX8_told 5 = .ok (.astore_n 3, 1) := by decide +kernel
theorem dX8_told_6 : decode cX8_told 6 = .ok (.aload_n 3, 1) := by decide +kernel
theorem dX8_told_7 : decode cX8_told 7 = .ok (.ifnonnull 6, 3) := by decide +kernel
theorem dX8_told_10 : decode cX8_told 10 = .ok (.ldc 163, 2) := by decide +kernel
theorem dX8_told_12 : decode cX8_told 12 = .ok (.ireturn, 1) := by decide +kernel
theorem dX8_told_13 : decode cX8_told 13 = .ok (.iload_n 2, 1) := by decide +kernel
theorem dX8_told_14 : decode cX8_told 14 = .ok (.tableswitch 117 0 9 #[54, 59, 64, 69, 74, 79, 84, 90, 96, 106], 54) := by decide +kernel
theorem dX8_told_68 : decode cX8_told 68 = .ok (.aload_n 3, 1) := by decide +kernel
theorem dX8_told_69 : decode cX8_told 69 = .ok (.getfield 164, 3) := by decide +kernel
theorem dX8_told_72 : decode cX8_told 72 = .ok (.ireturn, 1) := by decide +kernel
theorem dX8_told_73 : decode cX8_told 73 = .ok (.aload_n 3, 1) := by decide +kernel
theorem dX8_told_74 : decode cX8_told 74 = .ok (.getfield 141, 3) := by decide +kernel
theorem dX8_told_77 : decode cX8_told 77 = .ok (.ireturn, 1) := by decide +kernel
theorem dX8_told_78 : decode cX8_told 78 = .ok (.aload_n 3, 1) := by decide +kernel
theorem dX8_told_79 : decode cX8_told 79 = .ok (.getfield 144, 3) := by decide +kernel
theorem dX8_told_82 : decode cX8_told 82 = .ok (.ireturn, 1) := by decide +kernel
theorem dX8_told_83 : decode cX8_told 83 = .ok (.aload_n 3, 1) := by decide +kernel
theorem dX8_told_84 : decode cX8_told 84 = .ok (.getfield 167, 3) := by decide +kernel
theorem dX8_told_87 : decode cX8_told 87 = .ok (.ireturn, 1) := by decide +kernel
theorem dX8_told_88 : decode cX8_told 88 = .ok (.aload_n 3, 1) := by decide +kernel
theorem dX8_told_89 : decode cX8_told 89 = .ok (.getfield 170, 3) := by decide +kernel
theorem dX8_told_92 : decode cX8_told 92 = .ok (.ireturn, 1) := by decide +kernel
theorem dX8_told_93 : decode cX8_told 93 = .ok (.aload_n 3, 1) := by decide +kernel
theorem dX8_told_94 : decode cX8_told 94 = .ok (.getfield 147, 3) := by decide +kernel
theorem dX8_told_97 : decode cX8_told 97 = .ok (.ireturn, 1) := by decide +kernel
theorem dX8_told_98 : decode cX8_told 98 = .ok (.aload_n 0, 1) := by decide +kernel
theorem dX8_told_99 : decode cX8_told 99 = .ok (.iload_n 1, 1) := by decide +kernel
theorem dX8_told_100 : decode cX8_told 100 = .ok (.invokevirtual 173, 3) := by decide +kernel
theorem dX8_told_103 : decode cX8_told 103 = .ok (.ireturn, 1) := by decide +kernel
theorem dX8_told_104 : decode cX8_told 104 = .ok (.aload_n 0, 1) := by decide +kernel
theorem dX8_told_105 : decode cX8_told 105 = .ok (.iload_n 1, 1) := by decide +kernel
theorem dX8_told_106 : decode cX8_told 106 = .ok (.invokevirtual 177, 3) := by decide +kernel
theorem dX8_told_109 : decode cX8_told 109 = .ok (.ireturn, 1) := by decide +kernel
theorem dX8_told_110 : decode cX8_told 110 = .ok (.aload_n 0, 1) := by decide +kernel
theorem dX8_told_111 : decode cX8_told 111 = .ok (.iload_n 1, 1) := by decide +kernel
theorem dX8_told_112 : decode cX8_told 112 = .ok (.aload_n 3, 1) := by decide +kernel
theorem dX8_told_113 : decode cX8_told 113 = .ok (.getfield 147, 3) := by decide +kernel
theorem dX8_told_116 : decode cX8_told 116 = .ok (.invokevirtual 180, 3) := by decide +kernel
theorem dX8_told_119 : decode cX8_told 119 = .ok (.ireturn, 1) := by decide +kernel
theorem dX8_told_120 : decode cX8_told 120 = .ok (.aload_n 0, 1) := by decide +kernel
theorem dX8_told_121 : decode cX8_told 121 = .ok (.iconst 2, 1) := by decide +kernel
theorem dX8_told_122 : decode cX8_told 122 = .ok (.iload_n 1, 1) := by decide +kernel
theorem dX8_told_123 : decode cX8_told 123 = .ok (.aload_n 3, 1) := by decide +kernel
theorem dX8_told_124 : decode cX8_told 124 = .ok (.getfield 147, 3) := by decide +kernel
theorem dX8_told_127 : decode cX8_told 127 = .ok (.invokevirtual 184, 3) := by decide +kernel
theorem dX8_told_130 : decode cX8_told 130 = .ok (.ireturn, 1) := by decide +kernel
theorem dX8_told_131 : decode cX8_told 131 = .ok (.ldc 163, 2) := by decide +kernel
theorem dX8_told_133 : decode cX8_told 133 = .ok (.ireturn, 1) := by decide +kernel
theorem gdX8_164 {p : Program} {l : Launch} {e : Env} {R : Room} {s : State} {m : MethodId} {args : Array Value} {below : List Frame} {meth : Method} {c : Code} {H : Heap} {locs : List Loc} {cells slots : Nat} {Q : State → Prop} {cc : ByteArray} {pc nL : Nat} {ls : Array Slot} {rest : List Value} {ret : Option FieldType}  {G : xG} {β : Nat} {D : Nat → Prop} {x : XS} {a : Nat} {v : Int32} (C : Cx p s m args meth c RX8 cc nL ret (KK G)) (h : dI x a 1 0 = some v) (hw : CW β D G x H) (hd : decode cc pc = .ok (.getfield 164, 3)) (kk : W p l e R s m args below meth c H locs cells slots Q (F0 m (pc + 3) ls (.int v :: rest))) : W p l e R s m args below meth c H locs cells slots Q (F0 m pc ls (.ref a :: rest)) := by
  obtain ⟨fs, h1, h2⟩ := dI_e h
  exact va_getN (ci := 1) (fs := fs) C.1 C.2.1 C.2.2.2.2.1 iwX1 C.2.2.2.1 C.K.1 (xP1 (hw.2.2.2.1 a _ h1).2.2.2) 0 rfl rfl 0 (by decide) (va_Nw.use (w := .fieldLinkNest RX8 164 RX1 "kind" "I" "AtThePost") rfl (C.K.2.1 (RX8, 164, RX1, "kind", "I") (List.mem_of_getElem? (i := 13) rfl))) (fun _ h9 => h9) h2 hd kk
theorem gdX8_167 {p : Program} {l : Launch} {e : Env} {R : Room} {s : State} {m : MethodId} {args : Array Value} {below : List Frame} {meth : Method} {c : Code} {H : Heap} {locs : List Loc} {cells slots : Nat} {Q : State → Prop} {cc : ByteArray} {pc nL : Nat} {ls : Array Slot} {rest : List Value} {ret : Option FieldType}  {G : xG} {β : Nat} {D : Nat → Prop} {x : XS} {a : Nat} {v : Int32} (C : Cx p s m args meth c RX8 cc nL ret (KK G)) (h : dI x a 1 1 = some v) (hw : CW β D G x H) (hd : decode cc pc = .ok (.getfield 167, 3)) (kk : W p l e R s m args below meth c H locs cells slots Q (F0 m (pc + 3) ls (.int v :: rest))) : W p l e R s m args below meth c H locs cells slots Q (F0 m pc ls (.ref a :: rest)) := by
  obtain ⟨fs, h1, h2⟩ := dI_e h
  exact va_getN (ci := 1) (fs := fs) C.1 C.2.1 C.2.2.2.2.1 iwX1 C.2.2.2.1 C.K.1 (xP1 (hw.2.2.2.1 a _ h1).2.2.2) 0 rfl rfl 1 (by decide) (va_Nw.use (w := .fieldLinkNest RX8 167 RX1 "number" "I" "AtThePost") rfl (C.K.2.1 (RX8, 167, RX1, "number", "I") (List.mem_of_getElem? (i := 14) rfl))) (fun _ h9 => h9) h2 hd kk
theorem sX8_177 {p : Program} {l : Launch} {e : Env} {R : Room} {s : State} {m : MethodId} {args : Array Value} {below : List Frame} {meth : Method} {c : Code} {H : Heap} {locs : List Loc} {cells slots : Nat} {Q : State → Prop} {cc : ByteArray} {pc nL : Nat} {ls : Array Slot} {rest : List Value} {ret : Option FieldType}  {G : xG} {β : Nat} {D : Nat → Prop} {x : XS} {a1 : Int32} {r : Int32} (C : Cx p s m args meth c RX8 cc nL ret (KK G)) (h : fX8_racesRun x a1 = some r) (hw : CW β D G x H) (hS : va_S D s.heap H locs) (hsz : ls.size = nL) (hW : (rest.map fun v => v.category).sum ≤ 8) (hR : 3 ≤ R.frames) (hR2 : 67 ≤ R.locals) (hcs : cells ≤ R.cells ∧ slots ≤ R.slots) (hd : decode cc pc = .ok (.invokevirtual 177, 3)) (kk : ∀ (H1 : Heap) (locs1 : List Loc), CW β D G x H1 → va_S D s.heap H1 locs1 → W p l e R s m args below meth c H1 locs1 cells slots Q (F0 m (pc + 3) ls (.int r :: rest))) : W p l e R s m args below meth c H locs cells slots Q (F0 m pc ls (.int a1 :: .ref β :: rest)) := by
  exact xcallV C (As := [.int a1]) (rest := rest) (nA := 1) (ci := 8) (kX8_racesRun h) (tg 509 (by decide +kernel) rfl) (tg 511 (by decide +kernel) rfl) (sg (List.mem_of_getElem? (i := 19) (by decide +kernel)) rfl) (tg 1 (by decide +kernel) rfl) (tg 512 (by decide +kernel) rfl) ⟨rfl, by decide +kernel, by decide +kernel, by decide +kernel⟩ rfl rfl rfl ⟨hR, hR2⟩ (hw.2.2.1 0 (by decide)) hw hS (fun _ q => q) rfl rfl hsz hW hd hcs (fun H1 locs1 hw hz hk hS => kk H1 locs1 hw hS)
theorem sX8_180 {p : Program} {l : Launch} {e : Env} {R : Room} {s : State} {m : MethodId} {args : Array Value} {below : List Frame} {meth : Method} {c : Code} {H : Heap} {locs : List Loc} {cells slots : Nat} {Q : State → Prop} {cc : ByteArray} {pc nL : Nat} {ls : Array Slot} {rest : List Value} {ret : Option FieldType}  {G : xG} {β : Nat} {D : Nat → Prop} {x x' : XS} {a1 : Int32} {a2 : Int32} {r : Int32} (C : Cx p s m args meth c RX8 cc nL ret (KK G)) (h : fX8_holdCost x a1 a2 = some (r, x')) (hw : CW β D G x H) (hS : va_S D s.heap H locs) (hsz : ls.size = nL) (hW : (rest.map fun v => v.category).sum ≤ 8) (hR : 6 ≤ R.frames) (hR2 : 141 ≤ R.locals) (hcs : cells ≤ R.cells ∧ slots ≤ R.slots) (hd : decode cc pc = .ok (.invokevirtual 180, 3)) (kk : ∀ (H1 : Heap) (locs1 : List Loc), CW β D G x' H1 → va_S D s.heap H1 locs1 → W p l e R s m args below meth c H1 locs1 cells slots Q (F0 m (pc + 3) ls (.int r :: rest))) : W p l e R s m args below meth c H locs cells slots Q (F0 m pc ls (.int a2 :: .int a1 :: .ref β :: rest)) := by
  exact xcallV C (As := [.int a1, .int a2]) (rest := rest) (nA := 2) (ci := 8) (kX8_holdCost h) (tg 513 (by decide +kernel) rfl) (tg 515 (by decide +kernel) rfl) (sg (List.mem_of_getElem? (i := 20) (by decide +kernel)) rfl) (tg 1 (by decide +kernel) rfl) (tg 516 (by decide +kernel) rfl) ⟨rfl, by decide +kernel, by decide +kernel, by decide +kernel⟩ rfl rfl rfl ⟨hR, hR2⟩ (hw.2.2.1 0 (by decide)) hw hS (fun _ q => q) rfl rfl hsz hW hd hcs (fun H1 locs1 hw hz hk hS => kk H1 locs1 hw hS)
def fX8_told (x : XS) (a1 : Int32) (a2 : Int32) : Option (Int32 × XS) := Option.bind (fX8_horseAt x a1) fun v1 => oc v1 (some ((-1000000), x)) (fun p3 => if a2 = 0 then Option.bind (dI x p3 1 0) fun v4 => some (v4, x) else if a2 = 1 then Option.bind (dI x p3 1 3) fun v6 => some (v6, x) else if a2 = 2 then Option.bind (dI x p3 1 4) fun v8 => some (v8, x) else if a2 = 3 then Option.bind (dI x p3 1 1) fun v10 => some (v10, x) else if a2 = 4 then Option.bind (dI x p3 1 2) fun v12 => some (v12, x) else if a2 = 5 then Option.bind (dI x p3 1 5) fun v14 => some (v14, x) else if a2 = 6 then Option.bind (fX8_racesWon x a1) fun v16 => some (v16, x) else if a2 = 7 then Option.bind (fX8_racesRun x a1) fun v18 => some (v18, x) else if a2 = 8 then Option.bind (dI x p3 1 5) fun v20 => bind2 (fX8_holdCost x a1 v20) fun v22 x23 => some (v22, x23) else if a2 = 9 then Option.bind (dI x p3 1 5) fun v25 => bind2 (fX8_ruledAhead x 2 a1 v25) fun v27 x28 => some (v27, x28) else some ((-1000000), x))
abbrev rmX8_told : Room := { frames := 6, cells := 0, slots := 0, locals := 141 }
set_option maxHeartbeats 4000000 in
set_option maxRecDepth 100000 in
theorem kX8_told {l : Launch} {G : xG} {β : Nat} {D : Nat → Prop} {x x' : XS} {a1 : Int32} {a2 : Int32} {r : Int32} (hm : fX8_told x a1 a2 = some (r, x')) : Met l yX8_told (.code yX8_told cX8_told 4 (some .int) :: GT) rmX8_told (PcW [.ref β, .int a1, .int a2] (CW β D G x) (KK G)) (QcW D (some (.int r)) (CW β D G x')) 0 0 D := by
  unfold fX8_told at hm
  refine xpro (own := RX8) (by decide +kernel) rfl (Nat.le_of_ble_eq_true rfl) ?_
  intro p e s m args below meth c C hw ls hl
  have hx := C.1
  have hb := C.2.1
  have ho := C.2.2.2.1
  have hts := C.2.2.2.2.1
  have hS : va_S D s.heap s.heap [] := va_S.rf
  have hl : lv_has ls 4 [(0, .ref β), (1, .int a1), (2, .int a2)] := hl
  have hRf : 6 ≤ rmX8_told.frames := Nat.le_refl _
  have hRl : 141 ≤ rmX8_told.locals := Nat.le_refl _
  have hcs : 0 ≤ rmX8_told.cells ∧ 0 ≤ rmX8_told.slots := ⟨Nat.le_refl _, Nat.le_refl _⟩
  refine lv_aload_n hx hb dX8_told_0 rfl (lv_at hl 0 rfl) ?_
  refine lv_iload_n hx hb dX8_told_1 rfl (lv_at hl 1 rfl) ?_
  obtain ⟨v1, h2, hm⟩ := bind_e hm
  refine sX8_134 C h2 hw hS hl.1 (Nat.le_of_ble_eq_true rfl) (Nat.le_trans (Nat.le_of_ble_eq_true rfl) hRf) (Nat.le_trans (Nat.le_of_ble_eq_true rfl) hRl) hcs dX8_told_2 (fun H locs hw hS => ?_)
  refine x_astore_nq (lv' := [(3, va_rf v1), (0, .ref β), (1, .int a1), (2, .int a2)]) hx hb dX8_told_5 rfl hl (by decide) rfl (fun ls hl => ?_)
  refine x_aload_nq hx hb dX8_told_6 rfl (lv_at hl 0 rfl) ?_
  rcases v1 with _ | p3
  · replace hm := oc_n hm
    refine lv_ifnonnullN hx hb dX8_told_7 ?_
    refine lv_ldc (v := (-1000000)) hx hb ho (hts (.constant RX8 163 (-1000000)) (tg 496 (by decide +kernel) rfl)) dX8_told_10 ?_
    obtain ⟨rfl, rfl⟩ := inj2 hm
    exact xret_i C hw hS dX8_told_12
  · replace hm := oc_s hm
    refine lv_ifnonnull (tgt := 13) hx hb dX8_told_7 (by decide) ?_
    refine lv_iload_n hx hb dX8_told_13 rfl (lv_at hl 3 rfl) ?_
    by_cases k0 : a2 = 0
    · replace hm := ite_p k0 hm
      refine lv_tableIn (tgt := 68) (off := 54) hx hb dX8_told_14 (by rw [k0]; decide) (by rw [k0]; decide) (by rw [k0]; rfl) (by decide) ?_
      refine lv_aload_n hx hb dX8_told_68 rfl (lv_at hl 0 rfl) ?_
      obtain ⟨v4, h5, hm⟩ := bind_e hm
      refine gdX8_164 C h5 hw dX8_told_69 ?_
      obtain ⟨rfl, rfl⟩ := inj2 hm
      exact xret_i C hw hS dX8_told_72
    replace hm := ite_n k0 hm
    by_cases k1 : a2 = 1
    · replace hm := ite_p k1 hm
      refine lv_tableIn (tgt := 73) (off := 59) hx hb dX8_told_14 (by rw [k1]; decide) (by rw [k1]; decide) (by rw [k1]; rfl) (by decide) ?_
      refine lv_aload_n hx hb dX8_told_73 rfl (lv_at hl 0 rfl) ?_
      obtain ⟨v6, h7, hm⟩ := bind_e hm
      refine gdX8_141 C h7 hw dX8_told_74 ?_
      obtain ⟨rfl, rfl⟩ := inj2 hm
      exact xret_i C hw hS dX8_told_77
    replace hm := ite_n k1 hm
    by_cases k2 : a2 = 2
    · replace hm := ite_p k2 hm
      refine lv_tableIn (tgt := 78) (off := 64) hx hb dX8_told_14 (by rw [k2]; decide) (by rw [k2]; decide) (by rw [k2]; rfl) (by decide) ?_
      refine lv_aload_n hx hb dX8_told_78 rfl (lv_at hl 0 rfl) ?_
      obtain ⟨v8, h9, hm⟩ := bind_e hm
      refine gdX8_144 C h9 hw dX8_told_79 ?_
      obtain ⟨rfl, rfl⟩ := inj2 hm
      exact xret_i C hw hS dX8_told_82
    replace hm := ite_n k2 hm
    by_cases k3 : a2 = 3
    · replace hm := ite_p k3 hm
      refine lv_tableIn (tgt := 83) (off := 69) hx hb dX8_told_14 (by rw [k3]; decide) (by rw [k3]; decide) (by rw [k3]; rfl) (by decide) ?_
      refine lv_aload_n hx hb dX8_told_83 rfl (lv_at hl 0 rfl) ?_
      obtain ⟨v10, h11, hm⟩ := bind_e hm
      refine gdX8_167 C h11 hw dX8_told_84 ?_
      obtain ⟨rfl, rfl⟩ := inj2 hm
      exact xret_i C hw hS dX8_told_87
    replace hm := ite_n k3 hm
    by_cases k4 : a2 = 4
    · replace hm := ite_p k4 hm
      refine lv_tableIn (tgt := 88) (off := 74) hx hb dX8_told_14 (by rw [k4]; decide) (by rw [k4]; decide) (by rw [k4]; rfl) (by decide) ?_
      refine lv_aload_n hx hb dX8_told_88 rfl (lv_at hl 0 rfl) ?_
      obtain ⟨v12, h13, hm⟩ := bind_e hm
      refine gdX8_170 C h13 hw dX8_told_89 ?_
      obtain ⟨rfl, rfl⟩ := inj2 hm
      exact xret_i C hw hS dX8_told_92
    replace hm := ite_n k4 hm
    by_cases k5 : a2 = 5
    · replace hm := ite_p k5 hm
      refine lv_tableIn (tgt := 93) (off := 79) hx hb dX8_told_14 (by rw [k5]; decide) (by rw [k5]; decide) (by rw [k5]; rfl) (by decide) ?_
      refine lv_aload_n hx hb dX8_told_93 rfl (lv_at hl 0 rfl) ?_
      obtain ⟨v14, h15, hm⟩ := bind_e hm
      refine gdX8_147 C h15 hw dX8_told_94 ?_
      obtain ⟨rfl, rfl⟩ := inj2 hm
      exact xret_i C hw hS dX8_told_97
    replace hm := ite_n k5 hm
    by_cases k6 : a2 = 6
    · replace hm := ite_p k6 hm
      refine lv_tableIn (tgt := 98) (off := 84) hx hb dX8_told_14 (by rw [k6]; decide) (by rw [k6]; decide) (by rw [k6]; rfl) (by decide) ?_
      refine lv_aload_n hx hb dX8_told_98 rfl (lv_at hl 1 rfl) ?_
      refine lv_iload_n hx hb dX8_told_99 rfl (lv_at hl 2 rfl) ?_
      obtain ⟨v16, h17, hm⟩ := bind_e hm
      refine sX8_173 C h17 hw hS hl.1 (Nat.le_of_ble_eq_true rfl) (Nat.le_trans (Nat.le_of_ble_eq_true rfl) hRf) (Nat.le_trans (Nat.le_of_ble_eq_true rfl) hRl) hcs dX8_told_100 (fun H locs hw hS => ?_)
      obtain ⟨rfl, rfl⟩ := inj2 hm
      exact xret_i C hw hS dX8_told_103
    replace hm := ite_n k6 hm
    by_cases k7 : a2 = 7
    · replace hm := ite_p k7 hm
      refine lv_tableIn (tgt := 104) (off := 90) hx hb dX8_told_14 (by rw [k7]; decide) (by rw [k7]; decide) (by rw [k7]; rfl) (by decide) ?_
      refine lv_aload_n hx hb dX8_told_104 rfl (lv_at hl 1 rfl) ?_
      refine lv_iload_n hx hb dX8_told_105 rfl (lv_at hl 2 rfl) ?_
      obtain ⟨v18, h19, hm⟩ := bind_e hm
      refine sX8_177 C h19 hw hS hl.1 (Nat.le_of_ble_eq_true rfl) (Nat.le_trans (Nat.le_of_ble_eq_true rfl) hRf) (Nat.le_trans (Nat.le_of_ble_eq_true rfl) hRl) hcs dX8_told_106 (fun H locs hw hS => ?_)
      obtain ⟨rfl, rfl⟩ := inj2 hm
      exact xret_i C hw hS dX8_told_109
    replace hm := ite_n k7 hm
    by_cases k8 : a2 = 8
    · replace hm := ite_p k8 hm
      refine lv_tableIn (tgt := 110) (off := 96) hx hb dX8_told_14 (by rw [k8]; decide) (by rw [k8]; decide) (by rw [k8]; rfl) (by decide) ?_
      refine lv_aload_n hx hb dX8_told_110 rfl (lv_at hl 1 rfl) ?_
      refine lv_iload_n hx hb dX8_told_111 rfl (lv_at hl 2 rfl) ?_
      refine lv_aload_n hx hb dX8_told_112 rfl (lv_at hl 0 rfl) ?_
      obtain ⟨v20, h21, hm⟩ := bind_e hm
      refine gdX8_147 C h21 hw dX8_told_113 ?_
      obtain ⟨v22, x23, h24, hm⟩ := bind2_e hm
      refine sX8_180 C h24 hw hS hl.1 (Nat.le_of_ble_eq_true rfl) (Nat.le_trans (Nat.le_of_ble_eq_true rfl) hRf) (Nat.le_trans (Nat.le_of_ble_eq_true rfl) hRl) hcs dX8_told_116 (fun H locs hw hS => ?_)
      obtain ⟨rfl, rfl⟩ := inj2 hm
      exact xret_i C hw hS dX8_told_119
    replace hm := ite_n k8 hm
    by_cases k9 : a2 = 9
    · replace hm := ite_p k9 hm
      refine lv_tableIn (tgt := 120) (off := 106) hx hb dX8_told_14 (by rw [k9]; decide) (by rw [k9]; decide) (by rw [k9]; rfl) (by decide) ?_
      refine lv_aload_n hx hb dX8_told_120 rfl (lv_at hl 1 rfl) ?_
      refine lv_iconst (v := 2) hx hb dX8_told_121 (by decide) ?_
      refine lv_iload_n hx hb dX8_told_122 rfl (lv_at hl 2 rfl) ?_
      refine lv_aload_n hx hb dX8_told_123 rfl (lv_at hl 0 rfl) ?_
      obtain ⟨v25, h26, hm⟩ := bind_e hm
      refine gdX8_147 C h26 hw dX8_told_124 ?_
      obtain ⟨v27, x28, h29, hm⟩ := bind2_e hm
      refine sX8_184 C h29 hw hS hl.1 (Nat.le_of_ble_eq_true rfl) (Nat.le_trans (Nat.le_of_ble_eq_true rfl) hRf) (Nat.le_trans (Nat.le_of_ble_eq_true rfl) hRl) hcs dX8_told_127 (fun H locs hw hS => ?_)
      obtain ⟨rfl, rfl⟩ := inj2 hm
      exact xret_i C hw hS dX8_told_130
    replace hm := ite_n k9 hm
    have k0i := lv_neT k0 (a := 0) (by decide)
    have k1i := lv_neT k1 (a := 1) (by decide)
    have k2i := lv_neT k2 (a := 2) (by decide)
    have k3i := lv_neT k3 (a := 3) (by decide)
    have k4i := lv_neT k4 (a := 4) (by decide)
    have k5i := lv_neT k5 (a := 5) (by decide)
    have k6i := lv_neT k6 (a := 6) (by decide)
    have k7i := lv_neT k7 (a := 7) (by decide)
    have k8i := lv_neT k8 (a := 8) (by decide)
    have k9i := lv_neT k9 (a := 9) (by decide)
    refine lv_tableOut (tgt := 131) hx hb dX8_told_14 (by omega) (by decide) ?_
    refine lv_ldc (v := (-1000000)) hx hb ho (hts (.constant RX8 163 (-1000000)) (tg 496 (by decide +kernel) rfl)) dX8_told_131 ?_
    obtain ⟨rfl, rfl⟩ := inj2 hm
    exact xret_i C hw hS dX8_told_133
theorem dX8_leadOf_0 : decode cX8_leadOf 0 = .ok (.aload_n 0, 1) := by decide +kernel
theorem dX8_leadOf_1 : decode cX8_leadOf 1 = .ok (.iload_n 1, 1) := by decide +kernel
theorem dX8_leadOf_2 : decode cX8_leadOf 2 = .ok (.invokevirtual 134, 3) := by decide +kernel
theorem dX8_leadOf_5 : decode cX8_leadOf 5 = .ok (.astore_n 2, 1) := by decide +kernel
theorem dX8_leadOf_6 : decode cX8_leadOf 6 = .ok (.aload_n 2, 1) := by decide +kernel
theorem dX8_leadOf_7 : decode cX8_leadOf 7 = .ok (.ifnonnull 7, 3) := by decide +kernel
theorem dX8_leadOf_10 : decode cX8_leadOf 10 = .ok (.iconst 0, 1) := by decide +kernel
theorem dX8_leadOf_11 : decode cX8_leadOf 11 = .ok (.goto 7, 3) := by decide +kernel
theorem dX8_leadOf_14 : decode cX8_leadOf 14 = .ok (.aload_n 2, 1) := by decide +kernel
theorem dX8_leadOf_15 : decode cX8_leadOf 15 = .ok (.getfield 147, 3) := by decide +kernel
theorem dX8_leadOf_18 : decode cX8_leadOf 18 = .ok (.ireturn, 1) := by decide +kernel
def fX8_leadOf (x : XS) (a1 : Int32) : Option (Int32) := Option.bind (fX8_horseAt x a1) fun v1 => oc v1 (some 0) (fun p3 => Option.bind (dI x p3 1 5) fun v4 => some v4)
abbrev rmX8_leadOf : Room := { frames := 3, cells := 0, slots := 0, locals := 64 }
set_option maxHeartbeats 4000000 in
set_option maxRecDepth 100000 in
theorem kX8_leadOf {l : Launch} {G : xG} {β : Nat} {D : Nat → Prop} {x : XS} {a1 : Int32} {r : Int32} (hm : fX8_leadOf x a1 = some r) : Met l yX8_leadOf (.code yX8_leadOf cX8_leadOf 3 (some .int) :: GT) rmX8_leadOf (PcW [.ref β, .int a1] (CW β D G x) (KK G)) (QcW D (some (.int r)) (CW β D G x)) 0 0 D := by
  unfold fX8_leadOf at hm
  refine xpro (own := RX8) (by decide +kernel) rfl (Nat.le_of_ble_eq_true rfl) ?_
  intro p e s m args below meth c C hw ls hl
  have hx := C.1
  have hb := C.2.1
  have ho := C.2.2.2.1
  have hts := C.2.2.2.2.1
  have hS : va_S D s.heap s.heap [] := va_S.rf
  have hl : lv_has ls 3 [(0, .ref β), (1, .int a1)] := hl
  have hRf : 3 ≤ rmX8_leadOf.frames := Nat.le_refl _
  have hRl : 64 ≤ rmX8_leadOf.locals := Nat.le_refl _
  have hcs : 0 ≤ rmX8_leadOf.cells ∧ 0 ≤ rmX8_leadOf.slots := ⟨Nat.le_refl _, Nat.le_refl _⟩
  refine lv_aload_n hx hb dX8_leadOf_0 rfl (lv_at hl 0 rfl) ?_
  refine lv_iload_n hx hb dX8_leadOf_1 rfl (lv_at hl 1 rfl) ?_
  obtain ⟨v1, h2, hm⟩ := bind_e hm
  refine sX8_134 C h2 hw hS hl.1 (Nat.le_of_ble_eq_true rfl) (Nat.le_trans (Nat.le_of_ble_eq_true rfl) hRf) (Nat.le_trans (Nat.le_of_ble_eq_true rfl) hRl) hcs dX8_leadOf_2 (fun H locs hw hS => ?_)
  refine x_astore_nq (lv' := [(2, va_rf v1), (0, .ref β), (1, .int a1)]) hx hb dX8_leadOf_5 rfl hl (by decide) rfl (fun ls hl => ?_)
  refine x_aload_nq hx hb dX8_leadOf_6 rfl (lv_at hl 0 rfl) ?_
  rcases v1 with _ | p3
  · replace hm := oc_n hm
    refine lv_ifnonnullN hx hb dX8_leadOf_7 ?_
    refine lv_iconst (v := 0) hx hb dX8_leadOf_10 (by decide) ?_
    refine lv_goto (tgt := 18) hx hb dX8_leadOf_11 (by decide) ?_
    obtain rfl := Option.some.inj hm
    exact xret_i C hw hS dX8_leadOf_18
  · replace hm := oc_s hm
    refine lv_ifnonnull (tgt := 14) hx hb dX8_leadOf_7 (by decide) ?_
    refine lv_aload_n hx hb dX8_leadOf_14 rfl (lv_at hl 0 rfl) ?_
    obtain ⟨v4, h5, hm⟩ := bind_e hm
    refine gdX8_147 C h5 hw dX8_leadOf_15 ?_
    obtain rfl := Option.some.inj hm
    exact xret_i C hw hS dX8_leadOf_18
theorem dX8_takeLeads_0 : decode cX8_takeLeads 0 = .ok (.iconst 0, 1) := by decide +kernel
theorem dX8_takeLeads_1 : decode cX8_takeLeads 1 = .ok (.istore_n 1, 1) := by decide +kernel
theorem dX8_takeLeads_2 : decode cX8_takeLeads 2 = .ok (.iload_n 1, 1) := by decide +kernel
theorem dX8_takeLeads_3 : decode cX8_takeLeads 3 = .ok (.aload_n 0, 1) := by decide +kernel
theorem dX8_takeLeads_4 : decode cX8_takeLeads 4 = .ok (.getfield 15, 3) := by decide +kernel
theorem dX8_takeLeads_7 : decode cX8_takeLeads 7 = .ok (.if_icmp .ge 20, 3) := by decide +kernel
theorem dX8_takeLeads_10 : decode cX8_takeLeads 10 = .ok (.aload_n 0, 1) := by decide +kernel
theorem dX8_takeLeads_11 : decode cX8_takeLeads 11 = .ok (.getfield 89, 3) := by decide +kernel
theorem dX8_takeLeads_14 : decode cX8_takeLeads 14 = .ok (.iload_n 1, 1) := by decide +kernel
theorem dX8_takeLeads_15 : decode cX8_takeLeads 15 = .ok (.aload_n 0, 1) := by decide +kernel
theorem dX8_takeLeads_16 : decode cX8_takeLeads 16 = .ok (.iload_n 1, 1) := by decide +kernel
theorem dX8_takeLeads_17 : decode cX8_takeLeads 17 = .ok (.invokevirtual 258, 3) := by decide +kernel
theorem dX8_takeLeads_20 : decode cX8_takeLeads 20 = .ok (.iastore, 1) := by decide +kernel
theorem dX8_takeLeads_21 : decode cX8_takeLeads 21 = .ok (.iinc 1 1, 3) := by decide +kernel
theorem dX8_takeLeads_24 : decode cX8_takeLeads 24 = .ok (.goto (-22), 3) := by decide +kernel
theorem dX8_takeLeads_27 : decode cX8_takeLeads 27 = .ok (.return_, 1) := by decide +kernel
theorem gX8_89 {p : Program} {l : Launch} {e : Env} {R : Room} {s : State} {m : MethodId} {args : Array Value} {below : List Frame} {meth : Method} {c : Code} {H : Heap} {locs : List Loc} {cells slots : Nat} {Q : State → Prop} {cc : ByteArray} {pc nL : Nat} {ls : Array Slot} {rest : List Value} {ret : Option FieldType} {G : xG} {β : Nat} {D : Nat → Prop} {x : XS} (C : Cx p s m args meth c RX8 cc nL ret (KK G)) (hw : CW β D G x H) (hd : decode cc pc = .ok (.getfield 89, 3)) (kk : W p l e R s m args below meth c H locs cells slots Q (F0 m (pc + 3) ls (.ref (β + 24) :: rest))) : W p l e R s m args below meth c H locs cells slots Q (F0 m pc ls (.ref β :: rest)) :=
  va_get C.1 C.2.1 C.2.2.2.2.1 iwX8 C.2.2.2.1 C.K.1 (xP1 (hw.2.2.1 0 (by decide))) 0 rfl rfl 16 (by decide) (C.2.2.2.2.1 (.fieldLink RX8 89 RX8 "trialLeads" "[I") (tg 363 (by decide +kernel) rfl)) (fun _ h9 => h9) rfl hd kk
theorem sX8_258 {p : Program} {l : Launch} {e : Env} {R : Room} {s : State} {m : MethodId} {args : Array Value} {below : List Frame} {meth : Method} {c : Code} {H : Heap} {locs : List Loc} {cells slots : Nat} {Q : State → Prop} {cc : ByteArray} {pc nL : Nat} {ls : Array Slot} {rest : List Value} {ret : Option FieldType}  {G : xG} {β : Nat} {D : Nat → Prop} {x : XS} {a1 : Int32} {r : Int32} (C : Cx p s m args meth c RX8 cc nL ret (KK G)) (h : fX8_leadOf x a1 = some r) (hw : CW β D G x H) (hS : va_S D s.heap H locs) (hsz : ls.size = nL) (hW : (rest.map fun v => v.category).sum ≤ 8) (hR : 4 ≤ R.frames) (hR2 : 86 ≤ R.locals) (hcs : cells ≤ R.cells ∧ slots ≤ R.slots) (hd : decode cc pc = .ok (.invokevirtual 258, 3)) (kk : ∀ (H1 : Heap) (locs1 : List Loc), CW β D G x H1 → va_S D s.heap H1 locs1 → W p l e R s m args below meth c H1 locs1 cells slots Q (F0 m (pc + 3) ls (.int r :: rest))) : W p l e R s m args below meth c H locs cells slots Q (F0 m pc ls (.int a1 :: .ref β :: rest)) := by
  exact xcallV C (As := [.int a1]) (rest := rest) (nA := 1) (ci := 8) (kX8_leadOf h) (tg 584 (by decide +kernel) rfl) (tg 586 (by decide +kernel) rfl) (sg (List.mem_of_getElem? (i := 29) (by decide +kernel)) rfl) (tg 1 (by decide +kernel) rfl) (tg 587 (by decide +kernel) rfl) ⟨rfl, by decide +kernel, by decide +kernel, by decide +kernel⟩ rfl rfl rfl ⟨hR, hR2⟩ (hw.2.2.1 0 (by decide)) hw hS (fun _ q => q) rfl rfl hsz hW hd hcs (fun H1 locs1 hw hz hk hS => kk H1 locs1 hw hS)
theorem asX_24 {p : Program} {l : Launch} {e : Env} {R : Room} {s : State} {m : MethodId} {args : Array Value} {below : List Frame} {meth : Method} {c : Code} {H : Heap} {locs : List Loc} {cells slots : Nat} {Q : State → Prop} {cc : ByteArray} {pc nL : Nat} {ls : Array Slot} {rest : List Value} {ret : Option FieldType} {G : xG} {β : Nat} {D : Nat → Prop} {x : XS} {own : String} {i : Int32} {v : Int32} (C : Cx p s m args meth c own cc nL ret (KK G)) (hw : CW β D G x H) (hS : va_S D s.heap H locs) (hin : ib i 10) (hd : decode cc pc = .ok (.iastore, 1)) (kk : ∀ (H1 : Heap) (locs1 : List Loc), CW β D G (xsA x 24 i.toNatClampNeg v) H1 → va_S D s.heap H1 locs1 → W p l e R s m args below meth c H1 locs1 cells slots Q (F0 m (pc + 1) ls (rest))) : W p l e R s m args below meth c H locs cells slots Q (F0 m pc ls (.int v :: .int i :: .ref (β + 24) :: rest)) :=
  x_iast C.1 C.2.1 C.K.1 hS 0 (hw.2.2.1 24 (by decide)) (hw.2.1 24 (by decide)) rfl hin hd (fun H1 locs1 hat ho hS => kk H1 locs1 (hw.setA 24 _ _ hat ho) hS)
def BX8_takeLeads_2 (lp : Int32 → XS → Option (XS)) (u1 : Int32) (x : XS) : Option (XS) := if (x.1 0 1) ≤ u1 then some x else Option.bind (fX8_leadOf x u1) fun v1 => if ib u1 10 then lt (xsA x 24 u1.toNatClampNeg v1) fun x4 => lt (u1 + 1) fun v5 => lp v5 x4 else none
def LX8_takeLeads_2 : Nat → Int32 → XS → Option (XS)
  | 0, _, _ => none
  | n + 1, u1, x => BX8_takeLeads_2 (LX8_takeLeads_2 n) u1 x
def fX8_takeLeads (x : XS) : Option (XS) := Option.bind (LX8_takeLeads_2 NF 0 x) fun x6 => some x6
set_option maxHeartbeats 4000000 in
set_option maxRecDepth 100000 in
theorem lX8_takeLeads_2 {p : Program} {l : Launch} {e : Env} {R : Room} {s : State} {m : MethodId} {args : Array Value} {below : List Frame} {meth : Method} {c : Code} {cells slots : Nat} {Q : State → Prop} {G : xG} {β : Nat} {D : Nat → Prop} (C : Cx p s m args meth c RX8 cX8_takeLeads 2 none (KK G)) (hRf : 4 ≤ R.frames) (hRl : 86 ≤ R.locals) (hcs : cells ≤ R.cells ∧ slots ≤ R.slots) : ∀ (n : Nat) (u1 : Int32) (x : XS) (J : XS) (H : Heap) (locs : List Loc) (ls : Array Slot), LX8_takeLeads_2 n u1 x = some J → CW β D G x H → va_S D s.heap H locs → lv_has ls 2 [(0, .ref β), (1, .int u1)] → (∀ (x1 : XS), J = x1 → ∀ (H : Heap) (locs : List Loc) (ls : Array Slot), CW β D G x1 H → va_S D s.heap H locs → lv_has ls 2 [] → W p l e R s m args below meth c H locs cells slots Q (F0 m 27 ls [])) → W p l e R s m args below meth c H locs cells slots Q (F0 m 2 ls []) := by
  have hx := C.1
  have hb := C.2.1
  have ho := C.2.2.2.1
  have hts := C.2.2.2.2.1
  intro n
  induction n with
  | zero =>
    intro u1 x J H locs ls hm
    exact absurd hm (by simp [LX8_takeLeads_2])
  | succ n ih =>
    intro u1 x J H locs ls hm hw hS hl ke
    replace hm : BX8_takeLeads_2 (LX8_takeLeads_2 n) u1 x = some J := hm
    unfold BX8_takeLeads_2 at hm
    refine lv_iload_n hx hb dX8_takeLeads_2 rfl (lv_at hl 1 rfl) ?_
    refine lv_aload_n hx hb dX8_takeLeads_3 rfl (lv_at hl 0 rfl) ?_
    refine gX8_15 C hw dX8_takeLeads_4 ?_
    refine lv_icmp_ge (tgt := 27) hx hb dX8_takeLeads_7 (by decide) (fun cc => ?_) (fun cc => ?_)
    · replace hm := ite_p cc hm
      exact ke _ (Option.some.inj hm).symm _ _ _ hw hS (lv_sub hl [] rfl)
    · replace hm := ite_n cc hm
      refine lv_aload_n hx hb dX8_takeLeads_10 rfl (lv_at hl 0 rfl) ?_
      refine gX8_89 C hw dX8_takeLeads_11 ?_
      refine lv_iload_n hx hb dX8_takeLeads_14 rfl (lv_at hl 1 rfl) ?_
      refine lv_aload_n hx hb dX8_takeLeads_15 rfl (lv_at hl 0 rfl) ?_
      refine lv_iload_n hx hb dX8_takeLeads_16 rfl (lv_at hl 1 rfl) ?_
      obtain ⟨v1, h2, hm⟩ := bind_e hm
      refine sX8_258 C h2 hw hS hl.1 (Nat.le_of_ble_eq_true rfl) (Nat.le_trans (Nat.le_of_ble_eq_true rfl) hRf) (Nat.le_trans (Nat.le_of_ble_eq_true rfl) hRl) hcs dX8_takeLeads_17 (fun H locs hw hS => ?_)
      obtain ⟨h3, hm⟩ := chk_e hm
      refine asX_24 C hw hS h3 dX8_takeLeads_20 (fun H locs hw hS => ?_)
      obtain ⟨x4, ev, hm⟩ := lt_e hm
      rw [← ev] at hw
      clear ev
      obtain ⟨v5, ev, hm⟩ := lt_e hm
      refine lv_iinc (v := v5) (lv' := [(1, .int v5), (0, .ref β)]) hx hb dX8_takeLeads_21 hl (k := 1) rfl (by rw [ev]; rfl) (by decide) rfl (fun ls hl => ?_)
      clear ev
      refine lv_goto (tgt := 2) hx hb dX8_takeLeads_24 (by decide) ?_
      exact ih _ _ _ _ _ _ hm hw hS (lv_sub hl [1, 0] rfl) ke
abbrev rmX8_takeLeads : Room := { frames := 4, cells := 0, slots := 0, locals := 86 }
set_option maxHeartbeats 4000000 in
set_option maxRecDepth 100000 in
theorem kX8_takeLeads {l : Launch} {G : xG} {β : Nat} {D : Nat → Prop} {x x' : XS} (hm : fX8_takeLeads x = some x') : Met l yX8_takeLeads (.code yX8_takeLeads cX8_takeLeads 2 none :: GT) rmX8_takeLeads (PcW [.ref β] (CW β D G x) (KK G)) (QcW D none (CW β D G x')) 0 0 D := by
  unfold fX8_takeLeads at hm
  refine xpro (own := RX8) (by decide +kernel) rfl (Nat.le_of_ble_eq_true rfl) ?_
  intro p e s m args below meth c C hw ls hl
  have hx := C.1
  have hb := C.2.1
  have ho := C.2.2.2.1
  have hts := C.2.2.2.2.1
  have hS : va_S D s.heap s.heap [] := va_S.rf
  have hl : lv_has ls 2 [(0, .ref β)] := hl
  have hRf : 4 ≤ rmX8_takeLeads.frames := Nat.le_refl _
  have hRl : 86 ≤ rmX8_takeLeads.locals := Nat.le_refl _
  have hcs : 0 ≤ rmX8_takeLeads.cells ∧ 0 ≤ rmX8_takeLeads.slots := ⟨Nat.le_refl _, Nat.le_refl _⟩
  refine lv_iconst (v := 0) hx hb dX8_takeLeads_0 (by decide) ?_
  refine lv_istore_n (lv' := [(1, .int 0), (0, .ref β)]) hx hb dX8_takeLeads_1 rfl hl (by decide) rfl (fun ls hl => ?_)
  obtain ⟨x6, hj, hm⟩ := bind_e hm
  refine lX8_takeLeads_2 C hRf hRl hcs NF _ _ _ _ _ _ hj hw hS (lv_sub hl [1, 0] rfl) (fun x6_ e0 H locs ls hw hS hl => ?_)
  cases e0
  obtain rfl := Option.some.inj hm
  exact xret_v C hw hS dX8_takeLeads_27
theorem dX8_worthOf_0 : decode cX8_worthOf 0 = .ok (.iload_n 2, 1) := by decide +kernel
theorem dX8_worthOf_1 : decode cX8_worthOf 1 = .ok (.invokestatic 150, 3) := by decide +kernel
theorem dX8_worthOf_4 : decode cX8_worthOf 4 = .ok (.ifCond .eq 17, 3) := by decide +kernel
theorem dX8_worthOf_7 : decode cX8_worthOf 7 = .ok (.iload_n 1, 1) := by decide +kernel
theorem dX8_worthOf_8 : decode cX8_worthOf 8 = .ok (.aload_n 0, 1) := by decide +kernel
theorem dX8_worthOf_9 : decode cX8_worthOf 9 = .ok (.getfield 19, 3) := by decide +kernel
theorem dX8_worthOf_12 : decode cX8_worthOf 12 = .ok (.iload_n 2, 1) := by decide +kernel
theorem dX8_worthOf_13 : decode cX8_worthOf 13 = .ok (.iaload, 1) := by decide +kernel
theorem dX8_worthOf_14 : decode cX8_worthOf 14 = .ok (.imul, 1) := by decide +kernel
theorem dX8_worthOf_15 : decode cX8_worthOf 15 = .ok (.bipush 10, 2) := by decide +kernel
theorem dX8_worthOf_17 : decode cX8_worthOf 17 = .ok (.idiv, 1) := by decide +kernel
theorem dX8_worthOf_18 : decode cX8_worthOf 18 = .ok (.goto 4, 3) := by decide +kernel
theorem dX8_worthOf_21 : decode cX8_worthOf 21 = .ok (.iconst 0, 1) := by decide +kernel
theorem dX8_worthOf_22 : decode cX8_worthOf 22 = .ok (.ireturn, 1) := by decide +kernel
def fX8_worthOf (x : XS) (a1 : Int32) (a2 : Int32) : Option (Int32) := Option.bind (fX8_isGround a2) fun v1 => if v1 = true then if ib a2 4 then some ((a1 * (x.2.1 2 a2.toNatClampNeg)) / 10) else none else some 0
abbrev rmX8_worthOf : Room := { frames := 2, cells := 0, slots := 0, locals := 42 }
set_option maxHeartbeats 4000000 in
set_option maxRecDepth 100000 in
theorem kX8_worthOf {l : Launch} {G : xG} {β : Nat} {D : Nat → Prop} {x : XS} {a1 : Int32} {a2 : Int32} {r : Int32} (hm : fX8_worthOf x a1 a2 = some r) : Met l yX8_worthOf (.code yX8_worthOf cX8_worthOf 3 (some .int) :: GT) rmX8_worthOf (PcW [.ref β, .int a1, .int a2] (CW β D G x) (KK G)) (QcW D (some (.int r)) (CW β D G x)) 0 0 D := by
  unfold fX8_worthOf at hm
  refine xpro (own := RX8) (by decide +kernel) rfl (Nat.le_of_ble_eq_true rfl) ?_
  intro p e s m args below meth c C hw ls hl
  have hx := C.1
  have hb := C.2.1
  have ho := C.2.2.2.1
  have hts := C.2.2.2.2.1
  have hS : va_S D s.heap s.heap [] := va_S.rf
  have hl : lv_has ls 3 [(0, .ref β), (1, .int a1), (2, .int a2)] := hl
  have hRf : 2 ≤ rmX8_worthOf.frames := Nat.le_refl _
  have hRl : 42 ≤ rmX8_worthOf.locals := Nat.le_refl _
  have hcs : 0 ≤ rmX8_worthOf.cells ∧ 0 ≤ rmX8_worthOf.slots := ⟨Nat.le_refl _, Nat.le_refl _⟩
  refine lv_iload_n hx hb dX8_worthOf_0 rfl (lv_at hl 2 rfl) ?_
  obtain ⟨v1, h2, hm⟩ := bind_e hm
  refine sX8_150 C h2 hw hS hl.1 (Nat.le_of_ble_eq_true rfl) (Nat.le_trans (Nat.le_of_ble_eq_true rfl) hRf) (Nat.le_trans (Nat.le_of_ble_eq_true rfl) hRl) hcs dX8_worthOf_1 (fun H locs hw hS => ?_)
  refine x_ifeqB hx hb dX8_worthOf_4 (tgt := 21) (by decide) (fun cc => ?_) (fun cc => ?_)
  · replace hm := ite_n cc hm
    refine lv_iconst (v := 0) hx hb dX8_worthOf_21 (by decide) ?_
    obtain rfl := Option.some.inj hm
    exact xret_i C hw hS dX8_worthOf_22
  · replace hm := ite_p cc hm
    refine lv_iload_n hx hb dX8_worthOf_7 rfl (lv_at hl 1 rfl) ?_
    refine lv_aload_n hx hb dX8_worthOf_8 rfl (lv_at hl 0 rfl) ?_
    refine gX8_19 C hw dX8_worthOf_9 ?_
    refine lv_iload_n hx hb dX8_worthOf_12 rfl (lv_at hl 2 rfl) ?_
    obtain ⟨h3, hm⟩ := chk_e hm
    refine alX_2 C hw h3 dX8_worthOf_13 ?_
    refine lv_imul hx hb dX8_worthOf_14 ?_
    refine lv_bipush (v := 10) hx hb dX8_worthOf_15 (by decide) ?_
    refine lv_idiv hx hb dX8_worthOf_17 (by decide) ?_
    refine lv_goto (tgt := 22) hx hb dX8_worthOf_18 (by decide) ?_
    obtain rfl := Option.some.inj hm
    exact xret_i C hw hS dX8_worthOf_22
theorem dX8_ratingOf_0 : decode cX8_ratingOf 0 = .ok (.aload_n 0, 1) := by decide +kernel
theorem dX8_ratingOf_1 : decode cX8_ratingOf 1 = .ok (.iload_n 1, 1) := by decide +kernel
theorem dX8_ratingOf_2 : decode cX8_ratingOf 2 = .ok (.iload_n 3, 1) := by decide +kernel
theorem dX8_ratingOf_3 : decode cX8_ratingOf 3 = .ok (.iload 4, 2) := by decide +kernel
theorem dX8_ratingOf_5 : decode cX8_ratingOf 5 = .ok (.invokevirtual 159, 3) := by decide +kernel
theorem dX8_ratingOf_8 : decode cX8_ratingOf 8 = .ok (.aload_n 0, 1) := by decide +kernel
theorem dX8_ratingOf_9 : decode cX8_ratingOf 9 = .ok (.iload_n 2, 1) := by decide +kernel
theorem dX8_ratingOf_10 : decode cX8_ratingOf 10 = .ok (.iload_n 3, 1) := by decide +kernel
theorem dX8_ratingOf_11 : decode cX8_ratingOf 11 = .ok (.invokevirtual 287, 3) := by decide +kernel
theorem dX8_ratingOf_14 : decode cX8_ratingOf 14 = .ok (.isub, 1) := by decide +kernel
theorem dX8_ratingOf_15 : decode cX8_ratingOf 15 = .ok (.ireturn, 1) := by decide +kernel
theorem sX8_287 {p : Program} {l : Launch} {e : Env} {R : Room} {s : State} {m : MethodId} {args : Array Value} {below : List Frame} {meth : Method} {c : Code} {H : Heap} {locs : List Loc} {cells slots : Nat} {Q : State → Prop} {cc : ByteArray} {pc nL : Nat} {ls : Array Slot} {rest : List Value} {ret : Option FieldType}  {G : xG} {β : Nat} {D : Nat → Prop} {x : XS} {a1 : Int32} {a2 : Int32} {r : Int32} (C : Cx p s m args meth c RX8 cc nL ret (KK G)) (h : fX8_worthOf x a1 a2 = some r) (hw : CW β D G x H) (hS : va_S D s.heap H locs) (hsz : ls.size = nL) (hW : (rest.map fun v => v.category).sum ≤ 8) (hR : 3 ≤ R.frames) (hR2 : 64 ≤ R.locals) (hcs : cells ≤ R.cells ∧ slots ≤ R.slots) (hd : decode cc pc = .ok (.invokevirtual 287, 3)) (kk : ∀ (H1 : Heap) (locs1 : List Loc), CW β D G x H1 → va_S D s.heap H1 locs1 → W p l e R s m args below meth c H1 locs1 cells slots Q (F0 m (pc + 3) ls (.int r :: rest))) : W p l e R s m args below meth c H locs cells slots Q (F0 m pc ls (.int a2 :: .int a1 :: .ref β :: rest)) := by
  exact xcallV C (As := [.int a1, .int a2]) (rest := rest) (nA := 2) (ci := 8) (kX8_worthOf h) (tg 596 (by decide +kernel) rfl) (tg 598 (by decide +kernel) rfl) (sg (List.mem_of_getElem? (i := 32) (by decide +kernel)) rfl) (tg 1 (by decide +kernel) rfl) (tg 599 (by decide +kernel) rfl) ⟨rfl, by decide +kernel, by decide +kernel, by decide +kernel⟩ rfl rfl rfl ⟨hR, hR2⟩ (hw.2.2.1 0 (by decide)) hw hS (fun _ q => q) rfl rfl hsz hW hd hcs (fun H1 locs1 hw hz hk hS => kk H1 locs1 hw hS)
def fX8_ratingOf (x : XS) (a1 : Int32) (a2 : Int32) (a3 : Int32) (a4 : Int32) : Option (Int32) := Option.bind (fX8_formOf x a1 a3 a4) fun v1 => Option.bind (fX8_worthOf x a2 a3) fun v3 => some (v1 - v3)
abbrev rmX8_ratingOf : Room := { frames := 4, cells := 0, slots := 0, locals := 88 }
set_option maxHeartbeats 4000000 in
set_option maxRecDepth 100000 in
theorem kX8_ratingOf {l : Launch} {G : xG} {β : Nat} {D : Nat → Prop} {x : XS} {a1 : Int32} {a2 : Int32} {a3 : Int32} {a4 : Int32} {r : Int32} (hm : fX8_ratingOf x a1 a2 a3 a4 = some r) : Met l yX8_ratingOf (.code yX8_ratingOf cX8_ratingOf 5 (some .int) :: GT) rmX8_ratingOf (PcW [.ref β, .int a1, .int a2, .int a3, .int a4] (CW β D G x) (KK G)) (QcW D (some (.int r)) (CW β D G x)) 0 0 D := by
  unfold fX8_ratingOf at hm
  refine xpro (own := RX8) (by decide +kernel) rfl (Nat.le_of_ble_eq_true rfl) ?_
  intro p e s m args below meth c C hw ls hl
  have hx := C.1
  have hb := C.2.1
  have ho := C.2.2.2.1
  have hts := C.2.2.2.2.1
  have hS : va_S D s.heap s.heap [] := va_S.rf
  have hl : lv_has ls 5 [(0, .ref β), (1, .int a1), (2, .int a2), (3, .int a3), (4, .int a4)] := hl
  have hRf : 4 ≤ rmX8_ratingOf.frames := Nat.le_refl _
  have hRl : 88 ≤ rmX8_ratingOf.locals := Nat.le_refl _
  have hcs : 0 ≤ rmX8_ratingOf.cells ∧ 0 ≤ rmX8_ratingOf.slots := ⟨Nat.le_refl _, Nat.le_refl _⟩
  refine lv_aload_n hx hb dX8_ratingOf_0 rfl (lv_at hl 0 rfl) ?_
  refine lv_iload_n hx hb dX8_ratingOf_1 rfl (lv_at hl 1 rfl) ?_
  refine lv_iload_n hx hb dX8_ratingOf_2 rfl (lv_at hl 3 rfl) ?_
  refine lv_iload hx hb dX8_ratingOf_3 (lv_at hl 4 rfl) ?_
  obtain ⟨v1, h2, hm⟩ := bind_e hm
  refine sX8_159 C h2 hw hS hl.1 (Nat.le_of_ble_eq_true rfl) (Nat.le_trans (Nat.le_of_ble_eq_true rfl) hRf) (Nat.le_trans (Nat.le_of_ble_eq_true rfl) hRl) hcs dX8_ratingOf_5 (fun H locs hw hS => ?_)
  refine lv_aload_n hx hb dX8_ratingOf_8 rfl (lv_at hl 0 rfl) ?_
  refine lv_iload_n hx hb dX8_ratingOf_9 rfl (lv_at hl 2 rfl) ?_
  refine lv_iload_n hx hb dX8_ratingOf_10 rfl (lv_at hl 3 rfl) ?_
  obtain ⟨v3, h4, hm⟩ := bind_e hm
  refine sX8_287 C h4 hw hS hl.1 (Nat.le_of_ble_eq_true rfl) (Nat.le_trans (Nat.le_of_ble_eq_true rfl) hRf) (Nat.le_trans (Nat.le_of_ble_eq_true rfl) hRl) hcs dX8_ratingOf_11 (fun H locs hw hS => ?_)
  refine lv_isub hx hb dX8_ratingOf_14 ?_
  obtain rfl := Option.some.inj hm
  exact xret_i C hw hS dX8_ratingOf_15
theorem dX8_weigh_0 : decode cX8_weigh 0 = .ok (.aload_n 0, 1) := by decide +kernel
theorem dX8_weigh_1 : decode cX8_weigh 1 = .ok (.getfield 79, 3) := by decide +kernel
theorem dX8_weigh_4 : decode cX8_weigh 4 = .ok (.getfield 373, 3) := by decide +kernel
theorem dX8_weigh_7 : decode cX8_weigh 7 = .ok (.iload_n 1, 1) := by decide +kernel
theorem dX8_weigh_8 : decode cX8_weigh 8 = .ok (.aload_n 0, 1) := by decide +kernel
theorem dX8_weigh_9 : decode cX8_weigh 9 = .ok (.iload_n 1, 1) := by decide +kernel
theorem dX8_weigh_10 : decode cX8_weigh 10 = .ok (.aload_n 0, 1) := by decide +kernel
theorem dX8_weigh_11 : decode cX8_weigh 11 = .ok (.getfield 89, 3) := by decide +kernel
theorem dX8_weigh_14 : decode cX8_weigh 14 = .ok (.iload_n 1, 1) := by decide +kernel
theorem dX8_weigh_15 : decode cX8_weigh 15 = .ok (.iaload, 1) := by decide +kernel
theorem dX8_weigh_16 : decode cX8_weigh 16 = .ok (.iload_n 2, 1) := by decide +kernel
theorem dX8_weigh_17 : decode cX8_weigh 17 = .ok (.bipush 100, 2) := by decide +kernel
theorem dX8_weigh_19 : decode cX8_weigh 19 = .ok (.idiv, 1) := by decide +kernel
theorem dX8_weigh_20 : decode cX8_weigh 20 = .ok (.iload_n 2, 1) := by decide +kernel
theorem dX8_weigh_21 : decode cX8_weigh 21 = .ok (.bipush 100, 2) := by decide +kernel
theorem dX8_weigh_23 : decode cX8_weigh 23 = .ok (.irem, 1) := by decide +kernel
theorem dX8_weigh_24 : decode cX8_weigh 24 = .ok (.invokevirtual 376, 3) := by decide +kernel
theorem dX8_weigh_27 : decode cX8_weigh 27 = .ok (.iastore, 1) := by decide +kernel
theorem dX8_weigh_28 : decode cX8_weigh 28 = .ok (.return_, 1) := by decide +kernel
theorem gX8_79 {p : Program} {l : Launch} {e : Env} {R : Room} {s : State} {m : MethodId} {args : Array Value} {below : List Frame} {meth : Method} {c : Code} {H : Heap} {locs : List Loc} {cells slots : Nat} {Q : State → Prop} {cc : ByteArray} {pc nL : Nat} {ls : Array Slot} {rest : List Value} {ret : Option FieldType} {G : xG} {β : Nat} {D : Nat → Prop} {x : XS} (C : Cx p s m args meth c RX8 cc nL ret (KK G)) (hw : CW β D G x H) (hd : decode cc pc = .ok (.getfield 79, 3)) (kk : W p l e R s m args below meth c H locs cells slots Q (F0 m (pc + 3) ls (.ref (β + 16) :: rest))) : W p l e R s m args below meth c H locs cells slots Q (F0 m pc ls (.ref β :: rest)) :=
  va_get C.1 C.2.1 C.2.2.2.2.1 iwX8 C.2.2.2.1 C.K.1 (xP1 (hw.2.2.1 0 (by decide))) 0 rfl rfl 13 (by decide) (C.2.2.2.2.1 (.fieldLink RX8 79 RX8 "chances" "LAtThePost$Chances;") (tg 360 (by decide +kernel) rfl)) (fun _ h9 => h9) rfl hd kk
theorem gX8_373 {p : Program} {l : Launch} {e : Env} {R : Room} {s : State} {m : MethodId} {args : Array Value} {below : List Frame} {meth : Method} {c : Code} {H : Heap} {locs : List Loc} {cells slots : Nat} {Q : State → Prop} {cc : ByteArray} {pc nL : Nat} {ls : Array Slot} {rest : List Value} {ret : Option FieldType} {G : xG} {β : Nat} {D : Nat → Prop} {x : XS} (C : Cx p s m args meth c RX8 cc nL ret (KK G)) (hw : CW β D G x H) (hd : decode cc pc = .ok (.getfield 373, 3)) (kk : W p l e R s m args below meth c H locs cells slots Q (F0 m (pc + 3) ls (.ref (β + 17) :: rest))) : W p l e R s m args below meth c H locs cells slots Q (F0 m pc ls (.ref (β + 16) :: rest)) :=
  va_getN C.1 C.2.1 C.2.2.2.2.1 iwX0 C.2.2.2.1 C.K.1 (xP1 (hw.2.2.1 16 (by decide))) 0 rfl rfl 0 (by decide) (va_Nw.use (w := .fieldLinkNest RX8 373 RX0 "bases" "[I" "AtThePost") rfl (C.K.2.1 (RX8, 373, RX0, "bases", "[I") (List.mem_of_getElem? (i := 10) rfl))) (fun _ h9 => h9) rfl hd kk
theorem alX_24 {p : Program} {l : Launch} {e : Env} {R : Room} {s : State} {m : MethodId} {args : Array Value} {below : List Frame} {meth : Method} {c : Code} {H : Heap} {locs : List Loc} {cells slots : Nat} {Q : State → Prop} {cc : ByteArray} {pc nL : Nat} {ls : Array Slot} {rest : List Value} {ret : Option FieldType} {G : xG} {β : Nat} {D : Nat → Prop} {x : XS} {own : String} {i : Int32} (C : Cx p s m args meth c own cc nL ret (KK G)) (hw : CW β D G x H) (hin : ib i 10) (hd : decode cc pc = .ok (.iaload, 1)) (kk : W p l e R s m args below meth c H locs cells slots Q (F0 m (pc + 1) ls (.int (x.2.1 24 i.toNatClampNeg) :: rest))) : W p l e R s m args below meth c H locs cells slots Q (F0 m pc ls (.int i :: .ref (β + 24) :: rest)) :=
  va_iald C.1 C.2.1 C.K.1 (xP1 (hw.2.2.1 24 (by decide))) 0 0 rfl rfl hin hd kk
theorem sX8_376 {p : Program} {l : Launch} {e : Env} {R : Room} {s : State} {m : MethodId} {args : Array Value} {below : List Frame} {meth : Method} {c : Code} {H : Heap} {locs : List Loc} {cells slots : Nat} {Q : State → Prop} {cc : ByteArray} {pc nL : Nat} {ls : Array Slot} {rest : List Value} {ret : Option FieldType}  {G : xG} {β : Nat} {D : Nat → Prop} {x : XS} {a1 : Int32} {a2 : Int32} {a3 : Int32} {a4 : Int32} {r : Int32} (C : Cx p s m args meth c RX8 cc nL ret (KK G)) (h : fX8_ratingOf x a1 a2 a3 a4 = some r) (hw : CW β D G x H) (hS : va_S D s.heap H locs) (hsz : ls.size = nL) (hW : (rest.map fun v => v.category).sum ≤ 8) (hR : 5 ≤ R.frames) (hR2 : 112 ≤ R.locals) (hcs : cells ≤ R.cells ∧ slots ≤ R.slots) (hd : decode cc pc = .ok (.invokevirtual 376, 3)) (kk : ∀ (H1 : Heap) (locs1 : List Loc), CW β D G x H1 → va_S D s.heap H1 locs1 → W p l e R s m args below meth c H1 locs1 cells slots Q (F0 m (pc + 3) ls (.int r :: rest))) : W p l e R s m args below meth c H locs cells slots Q (F0 m pc ls (.int a4 :: .int a3 :: .int a2 :: .int a1 :: .ref β :: rest)) := by
  exact xcallV C (As := [.int a1, .int a2, .int a3, .int a4]) (rest := rest) (nA := 4) (ci := 8) (kX8_ratingOf h) (tg 592 (by decide +kernel) rfl) (tg 594 (by decide +kernel) rfl) (sg (List.mem_of_getElem? (i := 31) (by decide +kernel)) rfl) (tg 1 (by decide +kernel) rfl) (tg 595 (by decide +kernel) rfl) ⟨rfl, by decide +kernel, by decide +kernel, by decide +kernel⟩ rfl rfl rfl ⟨hR, hR2⟩ (hw.2.2.1 0 (by decide)) hw hS (fun _ q => q) rfl rfl hsz hW hd hcs (fun H1 locs1 hw hz hk hS => kk H1 locs1 hw hS)
theorem asX_17 {p : Program} {l : Launch} {e : Env} {R : Room} {s : State} {m : MethodId} {args : Array Value} {below : List Frame} {meth : Method} {c : Code} {H : Heap} {locs : List Loc} {cells slots : Nat} {Q : State → Prop} {cc : ByteArray} {pc nL : Nat} {ls : Array Slot} {rest : List Value} {ret : Option FieldType} {G : xG} {β : Nat} {D : Nat → Prop} {x : XS} {own : String} {i : Int32} {v : Int32} (C : Cx p s m args meth c own cc nL ret (KK G)) (hw : CW β D G x H) (hS : va_S D s.heap H locs) (hin : ib i 10) (hd : decode cc pc = .ok (.iastore, 1)) (kk : ∀ (H1 : Heap) (locs1 : List Loc), CW β D G (xsA x 17 i.toNatClampNeg v) H1 → va_S D s.heap H1 locs1 → W p l e R s m args below meth c H1 locs1 cells slots Q (F0 m (pc + 1) ls (rest))) : W p l e R s m args below meth c H locs cells slots Q (F0 m pc ls (.int v :: .int i :: .ref (β + 17) :: rest)) :=
  x_iast C.1 C.2.1 C.K.1 hS 0 (hw.2.2.1 17 (by decide)) (hw.2.1 17 (by decide)) rfl hin hd (fun H1 locs1 hat ho hS => kk H1 locs1 (hw.setA 17 _ _ hat ho) hS)
def fX8_weigh (x : XS) (a1 : Int32) (a2 : Int32) : Option (XS) := if ib a1 10 then Option.bind (fX8_ratingOf x a1 (x.2.1 24 a1.toNatClampNeg) (a2 / 100) (irm a2 100)) fun v2 => if ib a1 10 then lt (xsA x 17 a1.toNatClampNeg v2) fun x5 => some x5 else none else none
abbrev rmX8_weigh : Room := { frames := 5, cells := 0, slots := 0, locals := 112 }
set_option maxHeartbeats 4000000 in
set_option maxRecDepth 100000 in
theorem kX8_weigh {l : Launch} {G : xG} {β : Nat} {D : Nat → Prop} {x x' : XS} {a1 : Int32} {a2 : Int32} (hm : fX8_weigh x a1 a2 = some x') : Met l yX8_weigh (.code yX8_weigh cX8_weigh 3 none :: GT) rmX8_weigh (PcW [.ref β, .int a1, .int a2] (CW β D G x) (KK G)) (QcW D none (CW β D G x')) 0 0 D := by
  unfold fX8_weigh at hm
  refine xpro (own := RX8) (by decide +kernel) rfl (Nat.le_of_ble_eq_true rfl) ?_
  intro p e s m args below meth c C hw ls hl
  have hx := C.1
  have hb := C.2.1
  have ho := C.2.2.2.1
  have hts := C.2.2.2.2.1
  have hS : va_S D s.heap s.heap [] := va_S.rf
  have hl : lv_has ls 3 [(0, .ref β), (1, .int a1), (2, .int a2)] := hl
  have hRf : 5 ≤ rmX8_weigh.frames := Nat.le_refl _
  have hRl : 112 ≤ rmX8_weigh.locals := Nat.le_refl _
  have hcs : 0 ≤ rmX8_weigh.cells ∧ 0 ≤ rmX8_weigh.slots := ⟨Nat.le_refl _, Nat.le_refl _⟩
  refine lv_aload_n hx hb dX8_weigh_0 rfl (lv_at hl 0 rfl) ?_
  refine gX8_79 C hw dX8_weigh_1 ?_
  refine gX8_373 C hw dX8_weigh_4 ?_
  refine lv_iload_n hx hb dX8_weigh_7 rfl (lv_at hl 1 rfl) ?_
  refine lv_aload_n hx hb dX8_weigh_8 rfl (lv_at hl 0 rfl) ?_
  refine lv_iload_n hx hb dX8_weigh_9 rfl (lv_at hl 1 rfl) ?_
  refine lv_aload_n hx hb dX8_weigh_10 rfl (lv_at hl 0 rfl) ?_
  refine gX8_89 C hw dX8_weigh_11 ?_
  refine lv_iload_n hx hb dX8_weigh_14 rfl (lv_at hl 1 rfl) ?_
  obtain ⟨h1, hm⟩ := chk_e hm
  refine alX_24 C hw h1 dX8_weigh_15 ?_
  refine lv_iload_n hx hb dX8_weigh_16 rfl (lv_at hl 2 rfl) ?_
  refine lv_bipush (v := 100) hx hb dX8_weigh_17 (by decide) ?_
  refine lv_idiv hx hb dX8_weigh_19 (by decide) ?_
  refine lv_iload_n hx hb dX8_weigh_20 rfl (lv_at hl 2 rfl) ?_
  refine lv_bipush (v := 100) hx hb dX8_weigh_21 (by decide) ?_
  refine lv_irem hx hb dX8_weigh_23 (by decide) ?_
  obtain ⟨v2, h3, hm⟩ := bind_e hm
  refine sX8_376 C h3 hw hS hl.1 (Nat.le_of_ble_eq_true rfl) (Nat.le_trans (Nat.le_of_ble_eq_true rfl) hRf) (Nat.le_trans (Nat.le_of_ble_eq_true rfl) hRl) hcs dX8_weigh_24 (fun H locs hw hS => ?_)
  obtain ⟨h4, hm⟩ := chk_e hm
  refine asX_17 C hw hS h4 dX8_weigh_27 (fun H locs hw hS => ?_)
  obtain ⟨x5, ev, hm⟩ := lt_e hm
  rw [← ev] at hw
  clear ev
  obtain rfl := Option.some.inj hm
  exact xret_v C hw hS dX8_weigh_28
theorem dX8_enter_0 : decode cX8_enter 0 = .ok (.aload_n 0, 1) := by decide +kernel
theorem dX8_enter_1 : decode cX8_enter 1 = .ok (.invokevirtual 296, 3) := by decide +kernel
theorem dX8_enter_4 : decode cX8_enter 4 = .ok (.aload_n 0, 1) := by decide +kernel
theorem dX8_enter_5 : decode cX8_enter 5 = .ok (.getfield 79, 3) := by decide +kernel
theorem dX8_enter_8 : decode cX8_enter 8 = .ok (.iload_n 1, 1) := by decide +kernel
theorem dX8_enter_9 : decode cX8_enter 9 = .ok (.putfield 366, 3) := by decide +kernel
theorem dX8_enter_12 : decode cX8_enter 12 = .ok (.aload_n 0, 1) := by decide +kernel
theorem dX8_enter_13 : decode cX8_enter 13 = .ok (.getfield 79, 3) := by decide +kernel
theorem dX8_enter_16 : decode cX8_enter 16 = .ok (.aload_n 0, 1) := by decide +kernel
theorem dX8_enter_17 : decode cX8_enter 17 = .ok (.getfield 23, 3) := by decide +kernel
theorem dX8_enter_20 : decode cX8_enter 20 = .ok (.putfield 369, 3) := by decide +kernel
theorem dX8_enter_23 : decode cX8_enter 23 = .ok (.iconst 0, 1) := by decide +kernel
theorem dX8_enter_24 : decode cX8_enter 24 = .ok (.istore_n 3, 1) := by decide +kernel
theorem dX8_enter_25 : decode cX8_enter 25 = .ok (.iload_n 3, 1) := by decide +kernel
theorem dX8_enter_26 : decode cX8_enter 26 = .ok (.aload_n 0, 1) := by decide +kernel
theorem dX8_enter_27 : decode cX8_enter 27 = .ok (.getfield 15, 3) := by decide +kernel
theorem dX8_enter_30 : decode cX8_enter 30 = .ok (.if_icmp .ge 15, 3) := by decide +kernel
theorem dX8_enter_33 : decode cX8_enter 33 = .ok (.aload_n 0, 1) := by decide +kernel
theorem dX8_enter_34 : decode cX8_enter 34 = .ok (.iload_n 3, 1) := by decide +kernel
theorem dX8_enter_35 : decode cX8_enter 35 = .ok (.iload_n 2, 1) := by decide +kernel
theorem dX8_enter_36 : decode cX8_enter 36 = .ok (.invokevirtual 370, 3) := by decide +kernel
theorem dX8_enter_39 : decode cX8_enter 39 = .ok (.iinc 3 1, 3) := by decide +kernel
theorem dX8_enter_42 : decode cX8_enter 42 = .ok (.goto (-17), 3) := by decide +kernel
theorem dX8_enter_45 : decode cX8_enter 45 = .ok (.return_, 1) := by decide +kernel
theorem sX8_296 {p : Program} {l : Launch} {e : Env} {R : Room} {s : State} {m : MethodId} {args : Array Value} {below : List Frame} {meth : Method} {c : Code} {H : Heap} {locs : List Loc} {cells slots : Nat} {Q : State → Prop} {cc : ByteArray} {pc nL : Nat} {ls : Array Slot} {rest : List Value} {ret : Option FieldType}  {G : xG} {β : Nat} {D : Nat → Prop} {x x' : XS} (C : Cx p s m args meth c RX8 cc nL ret (KK G)) (h : fX8_takeLeads x = some x') (hw : CW β D G x H) (hS : va_S D s.heap H locs) (hsz : ls.size = nL) (hW : (rest.map fun v => v.category).sum ≤ 8) (hR : 5 ≤ R.frames) (hR2 : 107 ≤ R.locals) (hcs : cells ≤ R.cells ∧ slots ≤ R.slots) (hd : decode cc pc = .ok (.invokevirtual 296, 3)) (kk : ∀ (H1 : Heap) (locs1 : List Loc), CW β D G x' H1 → va_S D s.heap H1 locs1 → W p l e R s m args below meth c H1 locs1 cells slots Q (F0 m (pc + 3) ls (rest))) : W p l e R s m args below meth c H locs cells slots Q (F0 m pc ls (.ref β :: rest)) := by
  exact xcallV C (As := []) (rest := rest) (nA := 0) (ci := 8) (kX8_takeLeads h) (tg 580 (by decide +kernel) rfl) (tg 582 (by decide +kernel) rfl) (sg (List.mem_of_getElem? (i := 28) (by decide +kernel)) rfl) (tg 1 (by decide +kernel) rfl) (tg 583 (by decide +kernel) rfl) ⟨rfl, by decide +kernel, by decide +kernel, by decide +kernel⟩ rfl rfl rfl ⟨hR, hR2⟩ (hw.2.2.1 0 (by decide)) hw hS (fun _ q => q) rfl rfl hsz hW hd hcs (fun H1 locs1 hw hz hk hS => kk H1 locs1 hw hS)
theorem pX8_366 {p : Program} {l : Launch} {e : Env} {R : Room} {s : State} {m : MethodId} {args : Array Value} {below : List Frame} {meth : Method} {c : Code} {H : Heap} {locs : List Loc} {cells slots : Nat} {Q : State → Prop} {cc : ByteArray} {pc nL : Nat} {ls : Array Slot} {rest : List Value} {ret : Option FieldType} {G : xG} {β : Nat} {D : Nat → Prop} {x : XS} {v : Int32} (C : Cx p s m args meth c RX8 cc nL ret (KK G)) (hw : CW β D G x H) (hS : va_S D s.heap H locs) (hd : decode cc pc = .ok (.putfield 366, 3)) (kk : ∀ (H1 : Heap) (locs1 : List Loc), CW β D G (xsS x 16 5 v) H1 → va_S D s.heap H1 locs1 → W p l e R s m args below meth c H1 locs1 cells slots Q (F0 m (pc + 3) ls (rest))) : W p l e R s m args below meth c H locs cells slots Q (F0 m pc ls (.int v :: .ref (β + 16) :: rest)) :=
  x_putN C.1 C.2.1 C.2.2.2.2.1 iwX0 tyX0 tyX0_ok nmX0 C.2.2.2.1 C.K.1 hS (hw.2.2.1 16 (by decide)) (hw.2.1 16 (by decide)) rfl 5 (by decide) (va_Nw.use (w := .fieldLinkNest RX8 366 RX0 "field" "I" "AtThePost") rfl (C.K.2.1 (RX8, 366, RX0, "field", "I") (List.mem_of_getElem? (i := 11) rfl))) (fun _ h9 => h9) rfl (ty := .int) (by decide +kernel) rfl rfl (Nat.le_of_ble_eq_true rfl) hd (fun H1 locs1 hat ho hS => kk H1 locs1 (hw.setS 16 5 v hat ho) hS)
theorem pX8_369 {p : Program} {l : Launch} {e : Env} {R : Room} {s : State} {m : MethodId} {args : Array Value} {below : List Frame} {meth : Method} {c : Code} {H : Heap} {locs : List Loc} {cells slots : Nat} {Q : State → Prop} {cc : ByteArray} {pc nL : Nat} {ls : Array Slot} {rest : List Value} {ret : Option FieldType} {G : xG} {β : Nat} {D : Nat → Prop} {x : XS} {v : Int32} (C : Cx p s m args meth c RX8 cc nL ret (KK G)) (hw : CW β D G x H) (hS : va_S D s.heap H locs) (hd : decode cc pc = .ok (.putfield 369, 3)) (kk : ∀ (H1 : Heap) (locs1 : List Loc), CW β D G (xsS x 16 6 v) H1 → va_S D s.heap H1 locs1 → W p l e R s m args below meth c H1 locs1 cells slots Q (F0 m (pc + 3) ls (rest))) : W p l e R s m args below meth c H locs cells slots Q (F0 m pc ls (.int v :: .ref (β + 16) :: rest)) :=
  x_putN C.1 C.2.1 C.2.2.2.2.1 iwX0 tyX0 tyX0_ok nmX0 C.2.2.2.1 C.K.1 hS (hw.2.2.1 16 (by decide)) (hw.2.1 16 (by decide)) rfl 6 (by decide) (va_Nw.use (w := .fieldLinkNest RX8 369 RX0 "spread" "I" "AtThePost") rfl (C.K.2.1 (RX8, 369, RX0, "spread", "I") (List.mem_of_getElem? (i := 12) rfl))) (fun _ h9 => h9) rfl (ty := .int) (by decide +kernel) rfl rfl (Nat.le_of_ble_eq_true rfl) hd (fun H1 locs1 hat ho hS => kk H1 locs1 (hw.setS 16 6 v hat ho) hS)
theorem sX8_370 {p : Program} {l : Launch} {e : Env} {R : Room} {s : State} {m : MethodId} {args : Array Value} {below : List Frame} {meth : Method} {c : Code} {H : Heap} {locs : List Loc} {cells slots : Nat} {Q : State → Prop} {cc : ByteArray} {pc nL : Nat} {ls : Array Slot} {rest : List Value} {ret : Option FieldType}  {G : xG} {β : Nat} {D : Nat → Prop} {x x' : XS} {a1 : Int32} {a2 : Int32} (C : Cx p s m args meth c RX8 cc nL ret (KK G)) (h : fX8_weigh x a1 a2 = some x') (hw : CW β D G x H) (hS : va_S D s.heap H locs) (hsz : ls.size = nL) (hW : (rest.map fun v => v.category).sum ≤ 8) (hR : 6 ≤ R.frames) (hR2 : 134 ≤ R.locals) (hcs : cells ≤ R.cells ∧ slots ≤ R.slots) (hd : decode cc pc = .ok (.invokevirtual 370, 3)) (kk : ∀ (H1 : Heap) (locs1 : List Loc), CW β D G x' H1 → va_S D s.heap H1 locs1 → W p l e R s m args below meth c H1 locs1 cells slots Q (F0 m (pc + 3) ls (rest))) : W p l e R s m args below meth c H locs cells slots Q (F0 m pc ls (.int a2 :: .int a1 :: .ref β :: rest)) := by
  exact xcallV C (As := [.int a1, .int a2]) (rest := rest) (nA := 2) (ci := 8) (kX8_weigh h) (tg 588 (by decide +kernel) rfl) (tg 590 (by decide +kernel) rfl) (sg (List.mem_of_getElem? (i := 30) (by decide +kernel)) rfl) (tg 1 (by decide +kernel) rfl) (tg 591 (by decide +kernel) rfl) ⟨rfl, by decide +kernel, by decide +kernel, by decide +kernel⟩ rfl rfl rfl ⟨hR, hR2⟩ (hw.2.2.1 0 (by decide)) hw hS (fun _ q => q) rfl rfl hsz hW hd hcs (fun H1 locs1 hw hz hk hS => kk H1 locs1 hw hS)
def BX8_enter_25 (q2 : Int32) (lp : Int32 → XS → Option (XS)) (u3 : Int32) (x : XS) : Option (XS) := if (x.1 0 1) ≤ u3 then some x else Option.bind (fX8_weigh x u3 q2) fun x5 => lt (u3 + 1) fun v7 => lp v7 x5
def LX8_enter_25 (q2 : Int32) : Nat → Int32 → XS → Option (XS)
  | 0, _, _ => none
  | n + 1, u3, x => BX8_enter_25 q2 (LX8_enter_25 q2 n) u3 x
def fX8_enter (x : XS) (a1 : Int32) (a2 : Int32) : Option (XS) := Option.bind (fX8_takeLeads x) fun x1 => lt (xsS x1 16 5 a1) fun x3 => lt (xsS x3 16 6 (x3.1 0 3)) fun x4 => Option.bind (LX8_enter_25 a2 NF 0 x4) fun x8 => some x8
set_option maxHeartbeats 4000000 in
set_option maxRecDepth 100000 in
theorem lX8_enter_25 {p : Program} {l : Launch} {e : Env} {R : Room} {s : State} {m : MethodId} {args : Array Value} {below : List Frame} {meth : Method} {c : Code} {cells slots : Nat} {Q : State → Prop} {G : xG} {β : Nat} {D : Nat → Prop} (C : Cx p s m args meth c RX8 cX8_enter 4 none (KK G)) (hRf : 6 ≤ R.frames) (hRl : 134 ≤ R.locals) (hcs : cells ≤ R.cells ∧ slots ≤ R.slots) (q2 : Int32) : ∀ (n : Nat) (u3 : Int32) (x : XS) (J : XS) (H : Heap) (locs : List Loc) (ls : Array Slot), LX8_enter_25 q2 n u3 x = some J → CW β D G x H → va_S D s.heap H locs → lv_has ls 4 [(0, .ref β), (2, .int q2), (3, .int u3)] → (∀ (x1 : XS), J = x1 → ∀ (H : Heap) (locs : List Loc) (ls : Array Slot), CW β D G x1 H → va_S D s.heap H locs → lv_has ls 4 [] → W p l e R s m args below meth c H locs cells slots Q (F0 m 45 ls [])) → W p l e R s m args below meth c H locs cells slots Q (F0 m 25 ls []) := by
  have hx := C.1
  have hb := C.2.1
  have ho := C.2.2.2.1
  have hts := C.2.2.2.2.1
  intro n
  induction n with
  | zero =>
    intro u3 x J H locs ls hm
    exact absurd hm (by simp [LX8_enter_25])
  | succ n ih =>
    intro u3 x J H locs ls hm hw hS hl ke
    replace hm : BX8_enter_25 q2 (LX8_enter_25 q2 n) u3 x = some J := hm
    unfold BX8_enter_25 at hm
    refine lv_iload_n hx hb dX8_enter_25 rfl (lv_at hl 2 rfl) ?_
    refine lv_aload_n hx hb dX8_enter_26 rfl (lv_at hl 0 rfl) ?_
    refine gX8_15 C hw dX8_enter_27 ?_
    refine lv_icmp_ge (tgt := 45) hx hb dX8_enter_30 (by decide) (fun cc => ?_) (fun cc => ?_)
    · replace hm := ite_p cc hm
      exact ke _ (Option.some.inj hm).symm _ _ _ hw hS (lv_sub hl [] rfl)
    · replace hm := ite_n cc hm
      refine lv_aload_n hx hb dX8_enter_33 rfl (lv_at hl 0 rfl) ?_
      refine lv_iload_n hx hb dX8_enter_34 rfl (lv_at hl 2 rfl) ?_
      refine lv_iload_n hx hb dX8_enter_35 rfl (lv_at hl 1 rfl) ?_
      obtain ⟨x5, h6, hm⟩ := bind_e hm
      refine sX8_370 C h6 hw hS hl.1 (Nat.le_of_ble_eq_true rfl) (Nat.le_trans (Nat.le_of_ble_eq_true rfl) hRf) (Nat.le_trans (Nat.le_of_ble_eq_true rfl) hRl) hcs dX8_enter_36 (fun H locs hw hS => ?_)
      obtain ⟨v7, ev, hm⟩ := lt_e hm
      refine lv_iinc (v := v7) (lv' := [(3, .int v7), (0, .ref β), (2, .int q2)]) hx hb dX8_enter_39 hl (k := 2) rfl (by rw [ev]; rfl) (by decide) rfl (fun ls hl => ?_)
      clear ev
      refine lv_goto (tgt := 25) hx hb dX8_enter_42 (by decide) ?_
      exact ih _ _ _ _ _ _ hm hw hS (lv_sub hl [1, 2, 0] rfl) ke
abbrev rmX8_enter : Room := { frames := 6, cells := 0, slots := 0, locals := 134 }
set_option maxHeartbeats 4000000 in
set_option maxRecDepth 100000 in
theorem kX8_enter {l : Launch} {G : xG} {β : Nat} {D : Nat → Prop} {x x' : XS} {a1 : Int32} {a2 : Int32} (hm : fX8_enter x a1 a2 = some x') : Met l yX8_enter (.code yX8_enter cX8_enter 4 none :: GT) rmX8_enter (PcW [.ref β, .int a1, .int a2] (CW β D G x) (KK G)) (QcW D none (CW β D G x')) 0 0 D := by
  unfold fX8_enter at hm
  refine xpro (own := RX8) (by decide +kernel) rfl (Nat.le_of_ble_eq_true rfl) ?_
  intro p e s m args below meth c C hw ls hl
  have hx := C.1
  have hb := C.2.1
  have ho := C.2.2.2.1
  have hts := C.2.2.2.2.1
  have hS : va_S D s.heap s.heap [] := va_S.rf
  have hl : lv_has ls 4 [(0, .ref β), (1, .int a1), (2, .int a2)] := hl
  have hRf : 6 ≤ rmX8_enter.frames := Nat.le_refl _
  have hRl : 134 ≤ rmX8_enter.locals := Nat.le_refl _
  have hcs : 0 ≤ rmX8_enter.cells ∧ 0 ≤ rmX8_enter.slots := ⟨Nat.le_refl _, Nat.le_refl _⟩
  refine lv_aload_n hx hb dX8_enter_0 rfl (lv_at hl 0 rfl) ?_
  obtain ⟨x1, h2, hm⟩ := bind_e hm
  refine sX8_296 C h2 hw hS hl.1 (Nat.le_of_ble_eq_true rfl) (Nat.le_trans (Nat.le_of_ble_eq_true rfl) hRf) (Nat.le_trans (Nat.le_of_ble_eq_true rfl) hRl) hcs dX8_enter_1 (fun H locs hw hS => ?_)
  refine lv_aload_n hx hb dX8_enter_4 rfl (lv_at hl 0 rfl) ?_
  refine gX8_79 C hw dX8_enter_5 ?_
  refine lv_iload_n hx hb dX8_enter_8 rfl (lv_at hl 1 rfl) ?_
  refine pX8_366 C hw hS dX8_enter_9 (fun H locs hw hS => ?_)
  obtain ⟨x3, ev, hm⟩ := lt_e hm
  rw [← ev] at hw
  clear ev
  refine lv_aload_n hx hb dX8_enter_12 rfl (lv_at hl 0 rfl) ?_
  refine gX8_79 C hw dX8_enter_13 ?_
  refine lv_aload_n hx hb dX8_enter_16 rfl (lv_at hl 0 rfl) ?_
  refine gX8_23 C hw dX8_enter_17 ?_
  refine pX8_369 C hw hS dX8_enter_20 (fun H locs hw hS => ?_)
  obtain ⟨x4, ev, hm⟩ := lt_e hm
  rw [← ev] at hw
  clear ev
  refine lv_iconst (v := 0) hx hb dX8_enter_23 (by decide) ?_
  refine lv_istore_n (lv' := [(3, .int 0), (0, .ref β), (1, .int a1), (2, .int a2)]) hx hb dX8_enter_24 rfl hl (by decide) rfl (fun ls hl => ?_)
  obtain ⟨x8, hj, hm⟩ := bind_e hm
  refine lX8_enter_25 C hRf hRl hcs a2 NF _ _ _ _ _ _ hj hw hS (lv_sub hl [1, 3, 0] rfl) (fun x8_ e0 H locs ls hw hS hl => ?_)
  cases e0
  obtain rfl := Option.some.inj hm
  exact xret_v C hw hS dX8_enter_45
theorem dX8_commonDivisor_0 : decode cX8_commonDivisor 0 = .ok (.iload_n 0, 1) := by decide +kernel
theorem dX8_commonDivisor_1 : decode cX8_commonDivisor 1 = .ok (.istore_n 2, 1) := by decide +kernel
theorem dX8_commonDivisor_2 : decode cX8_commonDivisor 2 = .ok (.iload_n 1, 1) := by decide +kernel
theorem dX8_commonDivisor_3 : decode cX8_commonDivisor 3 = .ok (.istore_n 3, 1) := by decide +kernel
theorem dX8_commonDivisor_4 : decode cX8_commonDivisor 4 = .ok (.iconst 0, 1) := by decide +kernel
theorem dX8_commonDivisor_5 : decode cX8_commonDivisor 5 = .ok (.istore 4, 2) := by decide +kernel
theorem dX8_commonDivisor_7 : decode cX8_commonDivisor 7 = .ok (.iload 4, 2) := by decide +kernel
theorem dX8_commonDivisor_9 : decode cX8_commonDivisor 9 = .ok (.bipush 64, 2) := by decide +kernel
theorem dX8_commonDivisor_11 : decode cX8_commonDivisor 11 = .ok (.if_icmp .ge 23, 3) := by decide +kernel
theorem dX8_commonDivisor_14 : decode cX8_commonDivisor 14 = .ok (.iload_n 3, 1) := by decide +kernel
theorem dX8_commonDivisor_15 : decode cX8_commonDivisor 15 = .ok (.ifCond .eq 19, 3) := by decide +kernel
theorem dX8_commonDivisor_18 : decode cX8_commonDivisor 18 = .ok (.iload_n 2, 1) := by decide +kernel
theorem dX8_commonDivisor_19 : decode cX8_commonDivisor 19 = .ok (.iload_n 3, 1) := by decide +kernel
theorem dX8_commonDivisor_20 : decode cX8_commonDivisor 20 = .ok (.irem, 1) := by decide +kernel
theorem dX8_commonDivisor_21 : decode cX8_commonDivisor 21 = .ok (.istore 5, 2) := by decide +kernel
theorem dX8_commonDivisor_23 : decode cX8_commonDivisor 23 = .ok (.iload_n 3, 1) := by decide +kernel
theorem dX8_commonDivisor_24 : decode cX8_commonDivisor 24 = .ok (.istore_n 2, 1) := by decide +kernel
theorem dX8_commonDivisor_25 : decode cX8_commonDivisor 25 = .ok (.iload 5, 2) := by decide +kernel
theorem dX8_commonDivisor_27 : decode cX8_commonDivisor 27 = .ok (.istore_n 3, 1) := by decide +kernel
theorem dX8_commonDivisor_28 : decode cX8_commonDivisor 28 = .ok (.iinc 4 1, 3) := by decide +kernel
theorem dX8_commonDivisor_31 : decode cX8_commonDivisor 31 = .ok (.goto (-24), 3) := by decide +kernel
theorem dX8_commonDivisor_34 : decode cX8_commonDivisor 34 = .ok (.iload_n 2, 1) := by decide +kernel
theorem dX8_commonDivisor_35 : decode cX8_commonDivisor 35 = .ok (.ireturn, 1) := by decide +kernel
def BX8_commonDivisor_7 (lp : Int32 → Int32 → Int32 → Option (Int32)) (u2 : Int32) (u3 : Int32) (u4 : Int32) : Option (Int32) := if 64 ≤ u4 then some u2 else if u3 = 0 then some u2 else if ¬ u3 = 0 then lt (irm u2 u3) fun v2 => lt (u4 + 1) fun v3 => lp u3 v2 v3 else none
def LX8_commonDivisor_7 : Nat → Int32 → Int32 → Int32 → Option (Int32)
  | 0, _, _, _ => none
  | n + 1, u2, u3, u4 => BX8_commonDivisor_7 (LX8_commonDivisor_7 n) u2 u3 u4
def fX8_commonDivisor (a1 : Int32) (a2 : Int32) : Option (Int32) := Option.bind (LX8_commonDivisor_7 NF a1 a2 0) fun v4 => some v4
set_option maxHeartbeats 4000000 in
set_option maxRecDepth 100000 in
theorem lX8_commonDivisor_7 {p : Program} {l : Launch} {e : Env} {R : Room} {s : State} {m : MethodId} {args : Array Value} {below : List Frame} {meth : Method} {c : Code} {cells slots : Nat} {Q : State → Prop} {G : xG} {β : Nat} {D : Nat → Prop} (C : Cx p s m args meth c RX8 cX8_commonDivisor 6 (some .int) (KK G)) (hRf : 0 ≤ R.frames) (hRl : 0 ≤ R.locals) (hcs : cells ≤ R.cells ∧ slots ≤ R.slots) {x : XS} : ∀ (n : Nat) (u2 : Int32) (u3 : Int32) (u4 : Int32) (J : Int32) (H : Heap) (locs : List Loc) (ls : Array Slot), LX8_commonDivisor_7 n u2 u3 u4 = some J → CW β D G x H → va_S D s.heap H locs → lv_has ls 6 [(2, .int u2), (3, .int u3), (4, .int u4)] → (∀ (w2 : Int32), J = w2 → ∀ (H : Heap) (locs : List Loc) (ls : Array Slot), CW β D G x H → va_S D s.heap H locs → lv_has ls 6 [(2, .int w2)] → W p l e R s m args below meth c H locs cells slots Q (F0 m 34 ls [])) → W p l e R s m args below meth c H locs cells slots Q (F0 m 7 ls []) := by
  have hx := C.1
  have hb := C.2.1
  have ho := C.2.2.2.1
  have hts := C.2.2.2.2.1
  intro n
  induction n with
  | zero =>
    intro u2 u3 u4 J H locs ls hm
    exact absurd hm (by simp [LX8_commonDivisor_7])
  | succ n ih =>
    intro u2 u3 u4 J H locs ls hm hw hS hl ke
    replace hm : BX8_commonDivisor_7 (LX8_commonDivisor_7 n) u2 u3 u4 = some J := hm
    unfold BX8_commonDivisor_7 at hm
    refine lv_iload hx hb dX8_commonDivisor_7 (lv_at hl 2 rfl) ?_
    refine lv_bipush (v := 64) hx hb dX8_commonDivisor_9 (by decide) ?_
    refine lv_icmp_ge (tgt := 34) hx hb dX8_commonDivisor_11 (by decide) (fun cc => ?_) (fun cc => ?_)
    · replace hm := ite_p cc hm
      exact ke _ (Option.some.inj hm).symm _ _ _ hw hS (lv_sub hl [0] rfl)
    · replace hm := ite_n cc hm
      refine lv_iload_n hx hb dX8_commonDivisor_14 rfl (lv_at hl 1 rfl) ?_
      refine lv_if_eq (tgt := 34) hx hb dX8_commonDivisor_15 (by decide) (fun cc => ?_) (fun cc => ?_)
      · replace hm := ite_p cc hm
        exact ke _ (Option.some.inj hm).symm _ _ _ hw hS (lv_sub hl [0] rfl)
      · replace hm := ite_n cc hm
        refine lv_iload_n hx hb dX8_commonDivisor_18 rfl (lv_at hl 0 rfl) ?_
        refine lv_iload_n hx hb dX8_commonDivisor_19 rfl (lv_at hl 1 rfl) ?_
        obtain ⟨h1, hm⟩ := chk_e hm
        refine lv_irem hx hb dX8_commonDivisor_20 h1 ?_
        refine topI hm (fun v2 hm => ?_)
        refine lv_istore (lv' := [(5, .int v2), (2, .int u2), (3, .int u3), (4, .int u4)]) hx hb dX8_commonDivisor_21 hl (by decide) rfl (fun ls hl => ?_)
        refine lv_iload_n hx hb dX8_commonDivisor_23 rfl (lv_at hl 2 rfl) ?_
        refine lv_istore_n (lv' := [(2, .int u3), (5, .int v2), (3, .int u3), (4, .int u4)]) hx hb dX8_commonDivisor_24 rfl hl (by decide) rfl (fun ls hl => ?_)
        refine lv_iload hx hb dX8_commonDivisor_25 (lv_at hl 1 rfl) ?_
        refine lv_istore_n (lv' := [(3, .int v2), (2, .int u3), (5, .int v2), (4, .int u4)]) hx hb dX8_commonDivisor_27 rfl hl (by decide) rfl (fun ls hl => ?_)
        obtain ⟨v3, ev, hm⟩ := lt_e hm
        refine lv_iinc (v := v3) (lv' := [(4, .int v3), (3, .int v2), (2, .int u3), (5, .int v2)]) hx hb dX8_commonDivisor_28 hl (k := 3) rfl (by rw [ev]; rfl) (by decide) rfl (fun ls hl => ?_)
        clear ev
        refine lv_goto (tgt := 7) hx hb dX8_commonDivisor_31 (by decide) ?_
        exact ih _ _ _ _ _ _ _ hm hw hS (lv_sub hl [2, 1, 0] rfl) ke
abbrev rmX8_commonDivisor : Room := { frames := 0, cells := 0, slots := 0, locals := 0 }
set_option maxHeartbeats 4000000 in
set_option maxRecDepth 100000 in
theorem kX8_commonDivisor {l : Launch} {G : xG} {β : Nat} {D : Nat → Prop} {x : XS} {a1 : Int32} {a2 : Int32} {r : Int32} (hm : fX8_commonDivisor a1 a2 = some r) : Met l yX8_commonDivisor (.code yX8_commonDivisor cX8_commonDivisor 6 (some .int) :: GT) rmX8_commonDivisor (PcW [.int a1, .int a2] (CW β D G x) (KK G)) (QcW D (some (.int r)) (CW β D G x)) 0 0 D := by
  unfold fX8_commonDivisor at hm
  refine xpro (own := RX8) (by decide +kernel) rfl (Nat.le_of_ble_eq_true rfl) ?_
  intro p e s m args below meth c C hw ls hl
  have hx := C.1
  have hb := C.2.1
  have ho := C.2.2.2.1
  have hts := C.2.2.2.2.1
  have hS : va_S D s.heap s.heap [] := va_S.rf
  have hl : lv_has ls 6 [(0, .int a1), (1, .int a2)] := hl
  have hRf : 0 ≤ rmX8_commonDivisor.frames := Nat.le_refl _
  have hRl : 0 ≤ rmX8_commonDivisor.locals := Nat.le_refl _
  have hcs : 0 ≤ rmX8_commonDivisor.cells ∧ 0 ≤ rmX8_commonDivisor.slots := ⟨Nat.le_refl _, Nat.le_refl _⟩
  refine lv_iload_n hx hb dX8_commonDivisor_0 rfl (lv_at hl 0 rfl) ?_
  refine lv_istore_n (lv' := [(2, .int a1), (0, .int a1), (1, .int a2)]) hx hb dX8_commonDivisor_1 rfl hl (by decide) rfl (fun ls hl => ?_)
  refine lv_iload_n hx hb dX8_commonDivisor_2 rfl (lv_at hl 2 rfl) ?_
  refine lv_istore_n (lv' := [(3, .int a2), (2, .int a1), (0, .int a1), (1, .int a2)]) hx hb dX8_commonDivisor_3 rfl hl (by decide) rfl (fun ls hl => ?_)
  refine lv_iconst (v := 0) hx hb dX8_commonDivisor_4 (by decide) ?_
  refine lv_istore (lv' := [(4, .int 0), (3, .int a2), (2, .int a1), (0, .int a1), (1, .int a2)]) hx hb dX8_commonDivisor_5 hl (by decide) rfl (fun ls hl => ?_)
  obtain ⟨v4, hj, hm⟩ := bind_e hm
  refine lX8_commonDivisor_7 C hRf hRl hcs NF _ _ _ _ _ _ _ hj hw hS (lv_sub hl [2, 1, 0] rfl) (fun v4_ e0 H locs ls hw hS hl => ?_)
  cases e0
  refine lv_iload_n hx hb dX8_commonDivisor_34 rfl (lv_at hl 0 rfl) ?_
  obtain rfl := Option.some.inj hm
  exact xret_i C hw hS dX8_commonDivisor_35
theorem dX8_inLowestTerms_0 : decode cX8_inLowestTerms 0 = .ok (.iload_n 0, 1) := by decide +kernel
theorem dX8_inLowestTerms_1 : decode cX8_inLowestTerms 1 = .ok (.iload_n 1, 1) := by decide +kernel
theorem dX8_inLowestTerms_2 : decode cX8_inLowestTerms 2 = .ok (.invokestatic 386, 3) := by decide +kernel
theorem dX8_inLowestTerms_5 : decode cX8_inLowestTerms 5 = .ok (.istore_n 3, 1) := by decide +kernel
theorem dX8_inLowestTerms_6 : decode cX8_inLowestTerms 6 = .ok (.iload_n 3, 1) := by decide +kernel
theorem dX8_inLowestTerms_7 : decode cX8_inLowestTerms 7 = .ok (.iconst 1, 1) := by decide +kernel
theorem dX8_inLowestTerms_8 : decode cX8_inLowestTerms 8 = .ok (.if_icmp .ge 7, 3) := by decide +kernel
theorem dX8_inLowestTerms_11 : decode cX8_inLowestTerms 11 = .ok (.ldc2_w 157, 3) := by decide +kernel
theorem dX8_inLowestTerms_14 : decode cX8_inLowestTerms 14 = .ok (.lreturn, 1) := by decide +kernel
theorem dX8_inLowestTerms_15 : decode cX8_inLowestTerms 15 = .ok (.iload_n 2, 1) := by decide +kernel
theorem dX8_inLowestTerms_16 : decode cX8_inLowestTerms 16 = .ok (.ifCond .ne 7, 3) := by decide +kernel
theorem dX8_inLowestTerms_19 : decode cX8_inLowestTerms 19 = .ok (.iload_n 0, 1) := by decide +kernel
theorem dX8_inLowestTerms_20 : decode cX8_inLowestTerms 20 = .ok (.goto 4, 3) := by decide +kernel
theorem dX8_inLowestTerms_23 : decode cX8_inLowestTerms 23 = .ok (.iload_n 1, 1) := by decide +kernel
theorem dX8_inLowestTerms_24 : decode cX8_inLowestTerms 24 = .ok (.iload_n 3, 1) := by decide +kernel
theorem dX8_inLowestTerms_25 : decode cX8_inLowestTerms 25 = .ok (.idiv, 1) := by decide +kernel
theorem dX8_inLowestTerms_26 : decode cX8_inLowestTerms 26 = .ok (.i2l, 1) := by decide +kernel
theorem dX8_inLowestTerms_27 : decode cX8_inLowestTerms 27 = .ok (.lreturn, 1) := by decide +kernel
theorem sX8_386 {p : Program} {l : Launch} {e : Env} {R : Room} {s : State} {m : MethodId} {args : Array Value} {below : List Frame} {meth : Method} {c : Code} {H : Heap} {locs : List Loc} {cells slots : Nat} {Q : State → Prop} {cc : ByteArray} {pc nL : Nat} {ls : Array Slot} {rest : List Value} {ret : Option FieldType}  {G : xG} {β : Nat} {D : Nat → Prop} {x : XS} {a1 : Int32} {a2 : Int32} {r : Int32} (C : Cx p s m args meth c RX8 cc nL ret (KK G)) (h : fX8_commonDivisor a1 a2 = some r) (hw : CW β D G x H) (hS : va_S D s.heap H locs) (hsz : ls.size = nL) (hW : (rest.map fun v => v.category).sum ≤ 8) (hR : 1 ≤ R.frames) (hR2 : 25 ≤ R.locals) (hcs : cells ≤ R.cells ∧ slots ≤ R.slots) (hd : decode cc pc = .ok (.invokestatic 386, 3)) (kk : ∀ (H1 : Heap) (locs1 : List Loc), CW β D G x H1 → va_S D s.heap H1 locs1 → W p l e R s m args below meth c H1 locs1 cells slots Q (F0 m (pc + 3) ls (.int r :: rest))) : W p l e R s m args below meth c H locs cells slots Q (F0 m pc ls (.int a2 :: .int a1 :: rest)) := by
  exact xcallS C (As := [.int a1, .int a2]) (rest := rest) (nA := 2) (kX8_commonDivisor h) (tg 632 (by decide +kernel) rfl) (tg 633 (by decide +kernel) rfl) (tg 1 (by decide +kernel) rfl) (tg 634 (by decide +kernel) rfl) ⟨by decide +kernel, by decide +kernel, by decide +kernel⟩ rfl rfl ⟨hR, hR2⟩ hw hS (fun _ q => q) rfl rfl hsz hW hd hcs (fun H1 locs1 hw hz hk hS => kk H1 locs1 hw hS)
def fX8_inLowestTerms (a1 : Int32) (a2 : Int32) (a3 : Int32) : Option (Int64) := Option.bind (fX8_commonDivisor a1 a2) fun v1 => if 1 ≤ v1 then if a3 = 0 then if ¬ v1 = 0 then some ((a1 / v1).toInt64) else none else if ¬ v1 = 0 then some ((a2 / v1).toInt64) else none else some (-4611686018427387904)
abbrev rmX8_inLowestTerms : Room := { frames := 1, cells := 0, slots := 0, locals := 25 }
set_option maxHeartbeats 4000000 in
set_option maxRecDepth 100000 in
theorem kX8_inLowestTerms {l : Launch} {G : xG} {β : Nat} {D : Nat → Prop} {x : XS} {a1 : Int32} {a2 : Int32} {a3 : Int32} {r : Int64} (hm : fX8_inLowestTerms a1 a2 a3 = some r) : Met l yX8_inLowestTerms (.code yX8_inLowestTerms cX8_inLowestTerms 4 (some .long) :: GT) rmX8_inLowestTerms (PcW [.int a1, .int a2, .int a3] (CW β D G x) (KK G)) (QcW D (some (.long r)) (CW β D G x)) 0 0 D := by
  unfold fX8_inLowestTerms at hm
  refine xpro (own := RX8) (by decide +kernel) rfl (Nat.le_of_ble_eq_true rfl) ?_
  intro p e s m args below meth c C hw ls hl
  have hx := C.1
  have hb := C.2.1
  have ho := C.2.2.2.1
  have hts := C.2.2.2.2.1
  have hS : va_S D s.heap s.heap [] := va_S.rf
  have hl : lv_has ls 4 [(0, .int a1), (1, .int a2), (2, .int a3)] := hl
  have hRf : 1 ≤ rmX8_inLowestTerms.frames := Nat.le_refl _
  have hRl : 25 ≤ rmX8_inLowestTerms.locals := Nat.le_refl _
  have hcs : 0 ≤ rmX8_inLowestTerms.cells ∧ 0 ≤ rmX8_inLowestTerms.slots := ⟨Nat.le_refl _, Nat.le_refl _⟩
  refine lv_iload_n hx hb dX8_inLowestTerms_0 rfl (lv_at hl 0 rfl) ?_
  refine lv_iload_n hx hb dX8_inLowestTerms_1 rfl (lv_at hl 1 rfl) ?_
  obtain ⟨v1, h2, hm⟩ := bind_e hm
  refine sX8_386 C h2 hw hS hl.1 (Nat.le_of_ble_eq_true rfl) (Nat.le_trans (Nat.le_of_ble_eq_true rfl) hRf) (Nat.le_trans (Nat.le_of_ble_eq_true rfl) hRl) hcs dX8_inLowestTerms_2 (fun H locs hw hS => ?_)
  refine lv_istore_n (lv' := [(3, .int v1), (0, .int a1), (1, .int a2), (2, .int a3)]) hx hb dX8_inLowestTerms_5 rfl hl (by decide) rfl (fun ls hl => ?_)
  refine lv_iload_n hx hb dX8_inLowestTerms_6 rfl (lv_at hl 0 rfl) ?_
  refine lv_iconst (v := 1) hx hb dX8_inLowestTerms_7 (by decide) ?_
  refine lv_icmp_ge (tgt := 15) hx hb dX8_inLowestTerms_8 (by decide) (fun cc => ?_) (fun cc => ?_)
  · replace hm := ite_p cc hm
    refine lv_iload_n hx hb dX8_inLowestTerms_15 rfl (lv_at hl 3 rfl) ?_
    refine lv_if_ne (tgt := 23) hx hb dX8_inLowestTerms_16 (by decide) (fun cc => ?_) (fun cc => ?_)
    · replace hm := ite_n cc hm
      refine lv_iload_n hx hb dX8_inLowestTerms_23 rfl (lv_at hl 2 rfl) ?_
      refine lv_iload_n hx hb dX8_inLowestTerms_24 rfl (lv_at hl 0 rfl) ?_
      obtain ⟨h3, hm⟩ := chk_e hm
      refine lv_idiv hx hb dX8_inLowestTerms_25 h3 ?_
      refine lv_i2l hx hb dX8_inLowestTerms_26 rfl ?_
      obtain rfl := Option.some.inj hm
      exact xret_l C hw hS dX8_inLowestTerms_27
    · replace hm := ite_p cc hm
      refine lv_iload_n hx hb dX8_inLowestTerms_19 rfl (lv_at hl 1 rfl) ?_
      refine lv_goto (tgt := 24) hx hb dX8_inLowestTerms_20 (by decide) ?_
      refine lv_iload_n hx hb dX8_inLowestTerms_24 rfl (lv_at hl 0 rfl) ?_
      obtain ⟨h4, hm⟩ := chk_e hm
      refine lv_idiv hx hb dX8_inLowestTerms_25 h4 ?_
      refine lv_i2l hx hb dX8_inLowestTerms_26 rfl ?_
      obtain rfl := Option.some.inj hm
      exact xret_l C hw hS dX8_inLowestTerms_27
  · replace hm := ite_n cc hm
    refine lv_ldc2 (v := (-4611686018427387904)) hx hb ho (hts (.constantLong RX8 157 (-4611686018427387904)) (tg 476 (by decide +kernel) rfl)) dX8_inLowestTerms_11 ?_
    obtain rfl := Option.some.inj hm
    exact xret_l C hw hS dX8_inLowestTerms_14
theorem dX8_isField_0 : decode cX8_isField 0 = .ok (.iload_n 1, 1) := by decide +kernel
theorem dX8_isField_1 : decode cX8_isField 1 = .ok (.iconst 1, 1) := by decide +kernel
theorem dX8_isField_2 : decode cX8_isField 2 = .ok (.iconst 1, 1) := by decide +kernel
theorem dX8_isField_3 : decode cX8_isField 3 = .ok (.aload_n 0, 1) := by decide +kernel
theorem dX8_isField_4 : decode cX8_isField 4 = .ok (.getfield 15, 3) := by decide +kernel
theorem dX8_isField_7 : decode cX8_isField 7 = .ok (.ishl, 1) := by decide +kernel
theorem dX8_isField_8 : decode cX8_isField 8 = .ok (.iconst 1, 1) := by decide +kernel
theorem dX8_isField_9 : decode cX8_isField 9 = .ok (.isub, 1) := by decide +kernel
theorem dX8_isField_10 : decode cX8_isField 10 = .ok (.invokestatic 138, 3) := by decide +kernel
theorem dX8_isField_13 : decode cX8_isField 13 = .ok (.ifCond .eq 15, 3) := by decide +kernel
theorem dX8_isField_16 : decode cX8_isField 16 = .ok (.iload_n 1, 1) := by decide +kernel
theorem dX8_isField_17 : decode cX8_isField 17 = .ok (.invokestatic 241, 3) := by decide +kernel
theorem dX8_isField_20 : decode cX8_isField 20 = .ok (.iconst 5, 1) := by decide +kernel
theorem dX8_isField_21 : decode cX8_isField 21 = .ok (.if_icmp .gt 7, 3) := by decide +kernel
theorem dX8_isField_24 : decode cX8_isField 24 = .ok (.iconst 1, 1) := by decide +kernel
theorem dX8_isField_25 : decode cX8_isField 25 = .ok (.goto 4, 3) := by decide +kernel
theorem dX8_isField_28 : decode cX8_isField 28 = .ok (.iconst 0, 1) := by decide +kernel
theorem dX8_isField_29 : decode cX8_isField 29 = .ok (.ireturn, 1) := by decide +kernel
theorem sX8_241 {p : Program} {l : Launch} {e : Env} {R : Room} {s : State} {m : MethodId} {args : Array Value} {below : List Frame} {meth : Method} {c : Code} {H : Heap} {locs : List Loc} {cells slots : Nat} {Q : State → Prop} {cc : ByteArray} {pc nL : Nat} {ls : Array Slot} {rest : List Value} {ret : Option FieldType}  {G : xG} {β : Nat} {D : Nat → Prop} {x : XS} {a1 : Int32} {r : Int32} (C : Cx p s m args meth c RX8 cc nL ret (KK G)) (h : fJ6_bitCount_0f7a4 a1 = some r) (hw : CW β D G x H) (hS : va_S D s.heap H locs) (hsz : ls.size = nL) (hW : (rest.map fun v => v.category).sum ≤ 8) (hR : 1 ≤ R.frames) (hR2 : 20 ≤ R.locals) (hcs : cells ≤ R.cells ∧ slots ≤ R.slots) (hd : decode cc pc = .ok (.invokestatic 241, 3)) (kk : ∀ (H1 : Heap) (locs1 : List Loc), CW β D G x H1 → va_S D s.heap H1 locs1 → W p l e R s m args below meth c H1 locs1 cells slots Q (F0 m (pc + 3) ls (.int r :: rest))) : W p l e R s m args below meth c H locs cells slots Q (F0 m pc ls (.int a1 :: rest)) := by
  exact xcallS C (As := [.int a1]) (rest := rest) (nA := 1) (kJ6_bitCount_0f7a4 h) (tg 560 (by decide +kernel) rfl) (tg 561 (by decide +kernel) rfl) (tg 16 (by decide +kernel) rfl) (tg 562 (by decide +kernel) rfl) ⟨by decide +kernel, by decide +kernel, by decide +kernel⟩ rfl rfl ⟨hR, hR2⟩ hw hS (fun _ q => q) rfl rfl hsz hW hd hcs (fun H1 locs1 hw hz hk hS => kk H1 locs1 hw hS)
def fX8_isField (x : XS) (a1 : Int32) : Option (Bool) := Option.bind (fX8_isWithin a1 1 (((1 : Int32) <<< ((x.1 0 1) &&& 31)) - 1)) fun v1 => if v1 = true then Option.bind (fJ6_bitCount_0f7a4 a1) fun v3 => if 5 < v3 then some false else some true else some false
abbrev rmX8_isField : Room := { frames := 1, cells := 0, slots := 0, locals := 22 }
set_option maxHeartbeats 4000000 in
set_option maxRecDepth 100000 in
theorem kX8_isField {l : Launch} {G : xG} {β : Nat} {D : Nat → Prop} {x : XS} {a1 : Int32} {r : Bool} (hm : fX8_isField x a1 = some r) : Met l yX8_isField (.code yX8_isField cX8_isField 2 (some .boolean) :: GT) rmX8_isField (PcW [.ref β, .int a1] (CW β D G x) (KK G)) (QcW D (some (.int (bI r))) (CW β D G x)) 0 0 D := by
  unfold fX8_isField at hm
  refine xpro (own := RX8) (by decide +kernel) rfl (Nat.le_of_ble_eq_true rfl) ?_
  intro p e s m args below meth c C hw ls hl
  have hx := C.1
  have hb := C.2.1
  have ho := C.2.2.2.1
  have hts := C.2.2.2.2.1
  have hS : va_S D s.heap s.heap [] := va_S.rf
  have hl : lv_has ls 2 [(0, .ref β), (1, .int a1)] := hl
  have hRf : 1 ≤ rmX8_isField.frames := Nat.le_refl _
  have hRl : 22 ≤ rmX8_isField.locals := Nat.le_refl _
  have hcs : 0 ≤ rmX8_isField.cells ∧ 0 ≤ rmX8_isField.slots := ⟨Nat.le_refl _, Nat.le_refl _⟩
  refine lv_iload_n hx hb dX8_isField_0 rfl (lv_at hl 1 rfl) ?_
  refine lv_iconst (v := 1) hx hb dX8_isField_1 (by decide) ?_
  refine lv_iconst (v := 1) hx hb dX8_isField_2 (by decide) ?_
  refine lv_aload_n hx hb dX8_isField_3 rfl (lv_at hl 0 rfl) ?_
  refine gX8_15 C hw dX8_isField_4 ?_
  refine lv_ishl hx hb dX8_isField_7 ?_
  refine lv_iconst (v := 1) hx hb dX8_isField_8 (by decide) ?_
  refine lv_isub hx hb dX8_isField_9 ?_
  obtain ⟨v1, h2, hm⟩ := bind_e hm
  refine sX8_138 C h2 hw hS hl.1 (Nat.le_of_ble_eq_true rfl) (Nat.le_trans (Nat.le_of_ble_eq_true rfl) hRf) (Nat.le_trans (Nat.le_of_ble_eq_true rfl) hRl) hcs dX8_isField_10 (fun H locs hw hS => ?_)
  refine x_ifeqB hx hb dX8_isField_13 (tgt := 28) (by decide) (fun cc => ?_) (fun cc => ?_)
  · replace hm := ite_n cc hm
    refine lv_iconst (v := 0) hx hb dX8_isField_28 (by decide) ?_
    obtain rfl := Option.some.inj hm
    exact xret_z (v := bI false) C (bI_nar _) hw hS dX8_isField_29
  · replace hm := ite_p cc hm
    refine lv_iload_n hx hb dX8_isField_16 rfl (lv_at hl 1 rfl) ?_
    obtain ⟨v3, h4, hm⟩ := bind_e hm
    refine sX8_241 C h4 hw hS hl.1 (Nat.le_of_ble_eq_true rfl) (Nat.le_trans (Nat.le_of_ble_eq_true rfl) hRf) (Nat.le_trans (Nat.le_of_ble_eq_true rfl) hRl) hcs dX8_isField_17 (fun H locs hw hS => ?_)
    refine lv_iconst (v := 5) hx hb dX8_isField_20 (by decide) ?_
    refine lv_icmp_gt (tgt := 28) hx hb dX8_isField_21 (by decide) (fun cc => ?_) (fun cc => ?_)
    · replace hm := ite_p cc hm
      refine lv_iconst (v := 0) hx hb dX8_isField_28 (by decide) ?_
      obtain rfl := Option.some.inj hm
      exact xret_z (v := bI false) C (bI_nar _) hw hS dX8_isField_29
    · replace hm := ite_n cc hm
      refine lv_iconst (v := 1) hx hb dX8_isField_24 (by decide) ?_
      refine lv_goto (tgt := 29) hx hb dX8_isField_25 (by decide) ?_
      obtain rfl := Option.some.inj hm
      exact xret_z (v := bI true) C (bI_nar _) hw hS dX8_isField_29
theorem dX8_isIn_0 : decode cX8_isIn 0 = .ok (.aload_n 0, 1) := by decide +kernel
theorem dX8_isIn_1 : decode cX8_isIn 1 = .ok (.iload_n 2, 1) := by decide +kernel
theorem dX8_isIn_2 : decode cX8_isIn 2 = .ok (.invokevirtual 154, 3) := by decide +kernel
theorem dX8_isIn_5 : decode cX8_isIn 5 = .ok (.ifCond .eq 16, 3) := by decide +kernel
theorem dX8_isIn_8 : decode cX8_isIn 8 = .ok (.iload_n 1, 1) := by decide +kernel
theorem dX8_isIn_9 : decode cX8_isIn 9 = .ok (.iload_n 2, 1) := by decide +kernel
theorem dX8_isIn_10 : decode cX8_isIn 10 = .ok (.ishr, 1) := by decide +kernel
theorem dX8_isIn_11 : decode cX8_isIn 11 = .ok (.iconst 1, 1) := by decide +kernel
theorem dX8_isIn_12 : decode cX8_isIn 12 = .ok (.iand, 1) := by decide +kernel
theorem dX8_isIn_13 : decode cX8_isIn 13 = .ok (.iconst 1, 1) := by decide +kernel
theorem dX8_isIn_14 : decode cX8_isIn 14 = .ok (.if_icmp .ne 7, 3) := by decide +kernel
theorem dX8_isIn_17 : decode cX8_isIn 17 = .ok (.iconst 1, 1) := by decide +kernel
theorem dX8_isIn_18 : decode cX8_isIn 18 = .ok (.goto 4, 3) := by decide +kernel
theorem dX8_isIn_21 : decode cX8_isIn 21 = .ok (.iconst 0, 1) := by decide +kernel
theorem dX8_isIn_22 : decode cX8_isIn 22 = .ok (.ireturn, 1) := by decide +kernel
def fX8_isIn (x : XS) (a1 : Int32) (a2 : Int32) : Option (Bool) := Option.bind (fX8_isHorse x a2) fun v1 => if v1 = true then if ((a1 >>> (a2 &&& 31)) &&& 1) = 1 then some true else some false else some false
abbrev rmX8_isIn : Room := { frames := 2, cells := 0, slots := 0, locals := 43 }
set_option maxHeartbeats 4000000 in
set_option maxRecDepth 100000 in
theorem kX8_isIn {l : Launch} {G : xG} {β : Nat} {D : Nat → Prop} {x : XS} {a1 : Int32} {a2 : Int32} {r : Bool} (hm : fX8_isIn x a1 a2 = some r) : Met l yX8_isIn (.code yX8_isIn cX8_isIn 3 (some .boolean) :: GT) rmX8_isIn (PcW [.ref β, .int a1, .int a2] (CW β D G x) (KK G)) (QcW D (some (.int (bI r))) (CW β D G x)) 0 0 D := by
  unfold fX8_isIn at hm
  refine xpro (own := RX8) (by decide +kernel) rfl (Nat.le_of_ble_eq_true rfl) ?_
  intro p e s m args below meth c C hw ls hl
  have hx := C.1
  have hb := C.2.1
  have ho := C.2.2.2.1
  have hts := C.2.2.2.2.1
  have hS : va_S D s.heap s.heap [] := va_S.rf
  have hl : lv_has ls 3 [(0, .ref β), (1, .int a1), (2, .int a2)] := hl
  have hRf : 2 ≤ rmX8_isIn.frames := Nat.le_refl _
  have hRl : 43 ≤ rmX8_isIn.locals := Nat.le_refl _
  have hcs : 0 ≤ rmX8_isIn.cells ∧ 0 ≤ rmX8_isIn.slots := ⟨Nat.le_refl _, Nat.le_refl _⟩
  refine lv_aload_n hx hb dX8_isIn_0 rfl (lv_at hl 0 rfl) ?_
  refine lv_iload_n hx hb dX8_isIn_1 rfl (lv_at hl 2 rfl) ?_
  obtain ⟨v1, h2, hm⟩ := bind_e hm
  refine sX8_154 C h2 hw hS hl.1 (Nat.le_of_ble_eq_true rfl) (Nat.le_trans (Nat.le_of_ble_eq_true rfl) hRf) (Nat.le_trans (Nat.le_of_ble_eq_true rfl) hRl) hcs dX8_isIn_2 (fun H locs hw hS => ?_)
  refine x_ifeqB hx hb dX8_isIn_5 (tgt := 21) (by decide) (fun cc => ?_) (fun cc => ?_)
  · replace hm := ite_n cc hm
    refine lv_iconst (v := 0) hx hb dX8_isIn_21 (by decide) ?_
    obtain rfl := Option.some.inj hm
    exact xret_z (v := bI false) C (bI_nar _) hw hS dX8_isIn_22
  · replace hm := ite_p cc hm
    refine lv_iload_n hx hb dX8_isIn_8 rfl (lv_at hl 1 rfl) ?_
    refine lv_iload_n hx hb dX8_isIn_9 rfl (lv_at hl 2 rfl) ?_
    refine lv_ishr hx hb dX8_isIn_10 ?_
    refine lv_iconst (v := 1) hx hb dX8_isIn_11 (by decide) ?_
    refine lv_iand hx hb dX8_isIn_12 ?_
    refine lv_iconst (v := 1) hx hb dX8_isIn_13 (by decide) ?_
    refine lv_icmp_ne (tgt := 21) hx hb dX8_isIn_14 (by decide) (fun cc => ?_) (fun cc => ?_)
    · replace hm := ite_n cc hm
      refine lv_iconst (v := 0) hx hb dX8_isIn_21 (by decide) ?_
      obtain rfl := Option.some.inj hm
      exact xret_z (v := bI false) C (bI_nar _) hw hS dX8_isIn_22
    · replace hm := ite_p cc hm
      refine lv_iconst (v := 1) hx hb dX8_isIn_17 (by decide) ?_
      refine lv_goto (tgt := 22) hx hb dX8_isIn_18 (by decide) ?_
      obtain rfl := Option.some.inj hm
      exact xret_z (v := bI true) C (bI_nar _) hw hS dX8_isIn_22
theorem dX8_isPart_0 : decode cX8_isPart 0 = .ok (.iload_n 0, 1) := by decide +kernel
theorem dX8_isPart_1 : decode cX8_isPart 1 = .ok (.iconst 0, 1) := by decide +kernel
theorem dX8_isPart_2 : decode cX8_isPart 2 = .ok (.iconst 1, 1) := by decide +kernel
theorem dX8_isPart_3 : decode cX8_isPart 3 = .ok (.invokestatic 138, 3) := by decide +kernel
theorem dX8_isPart_6 : decode cX8_isPart 6 = .ok (.ireturn, 1) := by decide +kernel
def fX8_isPart (a1 : Int32) : Option (Bool) := Option.bind (fX8_isWithin a1 0 1) fun v1 => some v1
abbrev rmX8_isPart : Room := { frames := 1, cells := 0, slots := 0, locals := 22 }
set_option maxHeartbeats 4000000 in
set_option maxRecDepth 100000 in
theorem kX8_isPart {l : Launch} {G : xG} {β : Nat} {D : Nat → Prop} {x : XS} {a1 : Int32} {r : Bool} (hm : fX8_isPart a1 = some r) : Met l yX8_isPart (.code yX8_isPart cX8_isPart 1 (some .boolean) :: GT) rmX8_isPart (PcW [.int a1] (CW β D G x) (KK G)) (QcW D (some (.int (bI r))) (CW β D G x)) 0 0 D := by
  unfold fX8_isPart at hm
  refine xpro (own := RX8) (by decide +kernel) rfl (Nat.le_of_ble_eq_true rfl) ?_
  intro p e s m args below meth c C hw ls hl
  have hx := C.1
  have hb := C.2.1
  have ho := C.2.2.2.1
  have hts := C.2.2.2.2.1
  have hS : va_S D s.heap s.heap [] := va_S.rf
  have hl : lv_has ls 1 [(0, .int a1)] := hl
  have hRf : 1 ≤ rmX8_isPart.frames := Nat.le_refl _
  have hRl : 22 ≤ rmX8_isPart.locals := Nat.le_refl _
  have hcs : 0 ≤ rmX8_isPart.cells ∧ 0 ≤ rmX8_isPart.slots := ⟨Nat.le_refl _, Nat.le_refl _⟩
  refine lv_iload_n hx hb dX8_isPart_0 rfl (lv_at hl 0 rfl) ?_
  refine lv_iconst (v := 0) hx hb dX8_isPart_1 (by decide) ?_
  refine lv_iconst (v := 1) hx hb dX8_isPart_2 (by decide) ?_
  obtain ⟨v1, h2, hm⟩ := bind_e hm
  refine sX8_138 C h2 hw hS hl.1 (Nat.le_of_ble_eq_true rfl) (Nat.le_trans (Nat.le_of_ble_eq_true rfl) hRf) (Nat.le_trans (Nat.le_of_ble_eq_true rfl) hRl) hcs dX8_isPart_3 (fun H locs hw hS => ?_)
  obtain rfl := Option.some.inj hm
  exact xret_z C (bI_nar _) hw hS dX8_isPart_6
theorem dX8_isWhen_0 : decode cX8_isWhen 0 = .ok (.iload_n 0, 1) := by decide +kernel
theorem dX8_isWhen_1 : decode cX8_isWhen 1 = .ok (.iconst 0, 1) := by decide +kernel
theorem dX8_isWhen_2 : decode cX8_isWhen 2 = .ok (.sipush 399, 3) := by decide +kernel
theorem dX8_isWhen_5 : decode cX8_isWhen 5 = .ok (.invokestatic 138, 3) := by decide +kernel
theorem dX8_isWhen_8 : decode cX8_isWhen 8 = .ok (.ireturn, 1) := by decide +kernel
def fX8_isWhen (a1 : Int32) : Option (Bool) := Option.bind (fX8_isWithin a1 0 399) fun v1 => some v1
abbrev rmX8_isWhen : Room := { frames := 1, cells := 0, slots := 0, locals := 22 }
set_option maxHeartbeats 4000000 in
set_option maxRecDepth 100000 in
theorem kX8_isWhen {l : Launch} {G : xG} {β : Nat} {D : Nat → Prop} {x : XS} {a1 : Int32} {r : Bool} (hm : fX8_isWhen a1 = some r) : Met l yX8_isWhen (.code yX8_isWhen cX8_isWhen 1 (some .boolean) :: GT) rmX8_isWhen (PcW [.int a1] (CW β D G x) (KK G)) (QcW D (some (.int (bI r))) (CW β D G x)) 0 0 D := by
  unfold fX8_isWhen at hm
  refine xpro (own := RX8) (by decide +kernel) rfl (Nat.le_of_ble_eq_true rfl) ?_
  intro p e s m args below meth c C hw ls hl
  have hx := C.1
  have hb := C.2.1
  have ho := C.2.2.2.1
  have hts := C.2.2.2.2.1
  have hS : va_S D s.heap s.heap [] := va_S.rf
  have hl : lv_has ls 1 [(0, .int a1)] := hl
  have hRf : 1 ≤ rmX8_isWhen.frames := Nat.le_refl _
  have hRl : 22 ≤ rmX8_isWhen.locals := Nat.le_refl _
  have hcs : 0 ≤ rmX8_isWhen.cells ∧ 0 ≤ rmX8_isWhen.slots := ⟨Nat.le_refl _, Nat.le_refl _⟩
  refine lv_iload_n hx hb dX8_isWhen_0 rfl (lv_at hl 0 rfl) ?_
  refine lv_iconst (v := 0) hx hb dX8_isWhen_1 (by decide) ?_
  refine lv_sipush (v := 399) hx hb dX8_isWhen_2 (by decide) ?_
  obtain ⟨v1, h2, hm⟩ := bind_e hm
  refine sX8_138 C h2 hw hS hl.1 (Nat.le_of_ble_eq_true rfl) (Nat.le_trans (Nat.le_of_ble_eq_true rfl) hRf) (Nat.le_trans (Nat.le_of_ble_eq_true rfl) hRl) hcs dX8_isWhen_5 (fun H locs hw hS => ?_)
  obtain rfl := Option.some.inj hm
  exact xret_z C (bI_nar _) hw hS dX8_isWhen_8
theorem dX8_wins_0 : decode cX8_wins 0 = .ok (.aload_n 0, 1) := by decide +kernel
theorem dX8_wins_1 : decode cX8_wins 1 = .ok (.iload_n 1, 1) := by decide +kernel
theorem dX8_wins_2 : decode cX8_wins 2 = .ok (.invokevirtual 187, 3) := by decide +kernel
theorem dX8_wins_5 : decode cX8_wins 5 = .ok (.ifCond .eq 27, 3) := by decide +kernel
theorem dX8_wins_8 : decode cX8_wins 8 = .ok (.iload_n 2, 1) := by decide +kernel
theorem dX8_wins_9 : decode cX8_wins 9 = .ok (.invokestatic 190, 3) := by decide +kernel
theorem dX8_wins_12 : decode cX8_wins 12 = .ok (.ifCond .eq 20, 3) := by decide +kernel
theorem dX8_wins_15 : decode cX8_wins 15 = .ok (.aload_n 0, 1) := by decide +kernel
theorem dX8_wins_16 : decode cX8_wins 16 = .ok (.iload_n 1, 1) := by decide +kernel
theorem dX8_wins_17 : decode cX8_wins 17 = .ok (.iload_n 3, 1) := by decide +kernel
theorem dX8_wins_18 : decode cX8_wins 18 = .ok (.invokevirtual 193, 3) := by decide +kernel
theorem dX8_wins_21 : decode cX8_wins 21 = .ok (.ifCond .eq 11, 3) := by decide +kernel
theorem dX8_wins_24 : decode cX8_wins 24 = .ok (.iload 4, 2) := by decide +kernel
theorem dX8_wins_26 : decode cX8_wins 26 = .ok (.invokestatic 197, 3) := by decide +kernel
theorem dX8_wins_29 : decode cX8_wins 29 = .ok (.ifCond .ne 7, 3) := by decide +kernel
theorem dX8_wins_32 : decode cX8_wins 32 = .ok (.ldc2_w 157, 3) := by decide +kernel
theorem dX8_wins_35 : decode cX8_wins 35 = .ok (.lreturn, 1) := by decide +kernel
theorem dX8_wins_36 : decode cX8_wins 36 = .ok (.aload_n 0, 1) := by decide +kernel
theorem dX8_wins_37 : decode cX8_wins 37 = .ok (.iload_n 1, 1) := by decide +kernel
theorem dX8_wins_38 : decode cX8_wins 38 = .ok (.iload_n 2, 1) := by decide +kernel
theorem dX8_wins_39 : decode cX8_wins 39 = .ok (.invokevirtual 200, 3) := by decide +kernel
theorem dX8_wins_42 : decode cX8_wins 42 = .ok (.aload_n 0, 1) := by decide +kernel
theorem dX8_wins_43 : decode cX8_wins 43 = .ok (.getfield 79, 3) := by decide +kernel
theorem dX8_wins_46 : decode cX8_wins 46 = .ok (.iload_n 3, 1) := by decide +kernel
theorem dX8_wins_47 : decode cX8_wins 47 = .ok (.invokevirtual 204, 3) := by decide +kernel
theorem dX8_wins_50 : decode cX8_wins 50 = .ok (.bipush 60, 2) := by decide +kernel
theorem dX8_wins_52 : decode cX8_wins 52 = .ok (.aload_n 0, 1) := by decide +kernel
theorem dX8_wins_53 : decode cX8_wins 53 = .ok (.getfield 79, 3) := by decide +kernel
theorem dX8_wins_56 : decode cX8_wins 56 = .ok (.invokevirtual 207, 3) := by decide +kernel
theorem dX8_wins_59 : decode cX8_wins 59 = .ok (.imul, 1) := by decide +kernel
theorem dX8_wins_60 : decode cX8_wins 60 = .ok (.iload 4, 2) := by decide +kernel
theorem dX8_wins_62 : decode cX8_wins 62 = .ok (.invokestatic 210, 3) := by decide +kernel
theorem dX8_wins_65 : decode cX8_wins 65 = .ok (.lreturn, 1) := by decide +kernel
theorem sX8_187 {p : Program} {l : Launch} {e : Env} {R : Room} {s : State} {m : MethodId} {args : Array Value} {below : List Frame} {meth : Method} {c : Code} {H : Heap} {locs : List Loc} {cells slots : Nat} {Q : State → Prop} {cc : ByteArray} {pc nL : Nat} {ls : Array Slot} {rest : List Value} {ret : Option FieldType}  {G : xG} {β : Nat} {D : Nat → Prop} {x : XS} {a1 : Int32} {r : Bool} (C : Cx p s m args meth c RX8 cc nL ret (KK G)) (h : fX8_isField x a1 = some r) (hw : CW β D G x H) (hS : va_S D s.heap H locs) (hsz : ls.size = nL) (hW : (rest.map fun v => v.category).sum ≤ 8) (hR : 2 ≤ R.frames) (hR2 : 43 ≤ R.locals) (hcs : cells ≤ R.cells ∧ slots ≤ R.slots) (hd : decode cc pc = .ok (.invokevirtual 187, 3)) (kk : ∀ (H1 : Heap) (locs1 : List Loc), CW β D G x H1 → va_S D s.heap H1 locs1 → W p l e R s m args below meth c H1 locs1 cells slots Q (F0 m (pc + 3) ls (.int (bI r) :: rest))) : W p l e R s m args below meth c H locs cells slots Q (F0 m pc ls (.int a1 :: .ref β :: rest)) := by
  exact xcallV C (As := [.int a1]) (rest := rest) (nA := 1) (ci := 8) (kX8_isField h) (tg 556 (by decide +kernel) rfl) (tg 558 (by decide +kernel) rfl) (sg (List.mem_of_getElem? (i := 25) (by decide +kernel)) rfl) (tg 1 (by decide +kernel) rfl) (tg 559 (by decide +kernel) rfl) ⟨rfl, by decide +kernel, by decide +kernel, by decide +kernel⟩ rfl rfl rfl ⟨hR, hR2⟩ (hw.2.2.1 0 (by decide)) hw hS (fun _ q => q) rfl rfl hsz hW hd hcs (fun H1 locs1 hw hz hk hS => kk H1 locs1 hw hS)
theorem sX8_190 {p : Program} {l : Launch} {e : Env} {R : Room} {s : State} {m : MethodId} {args : Array Value} {below : List Frame} {meth : Method} {c : Code} {H : Heap} {locs : List Loc} {cells slots : Nat} {Q : State → Prop} {cc : ByteArray} {pc nL : Nat} {ls : Array Slot} {rest : List Value} {ret : Option FieldType}  {G : xG} {β : Nat} {D : Nat → Prop} {x : XS} {a1 : Int32} {r : Bool} (C : Cx p s m args meth c RX8 cc nL ret (KK G)) (h : fX8_isWhen a1 = some r) (hw : CW β D G x H) (hS : va_S D s.heap H locs) (hsz : ls.size = nL) (hW : (rest.map fun v => v.category).sum ≤ 8) (hR : 2 ≤ R.frames) (hR2 : 42 ≤ R.locals) (hcs : cells ≤ R.cells ∧ slots ≤ R.slots) (hd : decode cc pc = .ok (.invokestatic 190, 3)) (kk : ∀ (H1 : Heap) (locs1 : List Loc), CW β D G x H1 → va_S D s.heap H1 locs1 → W p l e R s m args below meth c H1 locs1 cells slots Q (F0 m (pc + 3) ls (.int (bI r) :: rest))) : W p l e R s m args below meth c H locs cells slots Q (F0 m pc ls (.int a1 :: rest)) := by
  exact xcallS C (As := [.int a1]) (rest := rest) (nA := 1) (kX8_isWhen h) (tg 566 (by decide +kernel) rfl) (tg 567 (by decide +kernel) rfl) (tg 1 (by decide +kernel) rfl) (tg 568 (by decide +kernel) rfl) ⟨by decide +kernel, by decide +kernel, by decide +kernel⟩ rfl rfl ⟨hR, hR2⟩ hw hS (fun _ q => q) rfl rfl hsz hW hd hcs (fun H1 locs1 hw hz hk hS => kk H1 locs1 hw hS)
theorem sX8_193 {p : Program} {l : Launch} {e : Env} {R : Room} {s : State} {m : MethodId} {args : Array Value} {below : List Frame} {meth : Method} {c : Code} {H : Heap} {locs : List Loc} {cells slots : Nat} {Q : State → Prop} {cc : ByteArray} {pc nL : Nat} {ls : Array Slot} {rest : List Value} {ret : Option FieldType}  {G : xG} {β : Nat} {D : Nat → Prop} {x : XS} {a1 : Int32} {a2 : Int32} {r : Bool} (C : Cx p s m args meth c RX8 cc nL ret (KK G)) (h : fX8_isIn x a1 a2 = some r) (hw : CW β D G x H) (hS : va_S D s.heap H locs) (hsz : ls.size = nL) (hW : (rest.map fun v => v.category).sum ≤ 8) (hR : 3 ≤ R.frames) (hR2 : 65 ≤ R.locals) (hcs : cells ≤ R.cells ∧ slots ≤ R.slots) (hd : decode cc pc = .ok (.invokevirtual 193, 3)) (kk : ∀ (H1 : Heap) (locs1 : List Loc), CW β D G x H1 → va_S D s.heap H1 locs1 → W p l e R s m args below meth c H1 locs1 cells slots Q (F0 m (pc + 3) ls (.int (bI r) :: rest))) : W p l e R s m args below meth c H locs cells slots Q (F0 m pc ls (.int a2 :: .int a1 :: .ref β :: rest)) := by
  exact xcallV C (As := [.int a1, .int a2]) (rest := rest) (nA := 2) (ci := 8) (kX8_isIn h) (tg 569 (by decide +kernel) rfl) (tg 571 (by decide +kernel) rfl) (sg (List.mem_of_getElem? (i := 26) (by decide +kernel)) rfl) (tg 1 (by decide +kernel) rfl) (tg 572 (by decide +kernel) rfl) ⟨rfl, by decide +kernel, by decide +kernel, by decide +kernel⟩ rfl rfl rfl ⟨hR, hR2⟩ (hw.2.2.1 0 (by decide)) hw hS (fun _ q => q) rfl rfl hsz hW hd hcs (fun H1 locs1 hw hz hk hS => kk H1 locs1 hw hS)
theorem sX8_197 {p : Program} {l : Launch} {e : Env} {R : Room} {s : State} {m : MethodId} {args : Array Value} {below : List Frame} {meth : Method} {c : Code} {H : Heap} {locs : List Loc} {cells slots : Nat} {Q : State → Prop} {cc : ByteArray} {pc nL : Nat} {ls : Array Slot} {rest : List Value} {ret : Option FieldType}  {G : xG} {β : Nat} {D : Nat → Prop} {x : XS} {a1 : Int32} {r : Bool} (C : Cx p s m args meth c RX8 cc nL ret (KK G)) (h : fX8_isPart a1 = some r) (hw : CW β D G x H) (hS : va_S D s.heap H locs) (hsz : ls.size = nL) (hW : (rest.map fun v => v.category).sum ≤ 8) (hR : 2 ≤ R.frames) (hR2 : 42 ≤ R.locals) (hcs : cells ≤ R.cells ∧ slots ≤ R.slots) (hd : decode cc pc = .ok (.invokestatic 197, 3)) (kk : ∀ (H1 : Heap) (locs1 : List Loc), CW β D G x H1 → va_S D s.heap H1 locs1 → W p l e R s m args below meth c H1 locs1 cells slots Q (F0 m (pc + 3) ls (.int (bI r) :: rest))) : W p l e R s m args below meth c H locs cells slots Q (F0 m pc ls (.int a1 :: rest)) := by
  exact xcallS C (As := [.int a1]) (rest := rest) (nA := 1) (kX8_isPart h) (tg 573 (by decide +kernel) rfl) (tg 574 (by decide +kernel) rfl) (tg 1 (by decide +kernel) rfl) (tg 575 (by decide +kernel) rfl) ⟨by decide +kernel, by decide +kernel, by decide +kernel⟩ rfl rfl ⟨hR, hR2⟩ hw hS (fun _ q => q) rfl rfl hsz hW hd hcs (fun H1 locs1 hw hz hk hS => kk H1 locs1 hw hS)
theorem sX8_200 {p : Program} {l : Launch} {e : Env} {R : Room} {s : State} {m : MethodId} {args : Array Value} {below : List Frame} {meth : Method} {c : Code} {H : Heap} {locs : List Loc} {cells slots : Nat} {Q : State → Prop} {cc : ByteArray} {pc nL : Nat} {ls : Array Slot} {rest : List Value} {ret : Option FieldType}  {G : xG} {β : Nat} {D : Nat → Prop} {x x' : XS} {a1 : Int32} {a2 : Int32} (C : Cx p s m args meth c RX8 cc nL ret (KK G)) (h : fX8_enter x a1 a2 = some x') (hw : CW β D G x H) (hS : va_S D s.heap H locs) (hsz : ls.size = nL) (hW : (rest.map fun v => v.category).sum ≤ 8) (hR : 7 ≤ R.frames) (hR2 : 157 ≤ R.locals) (hcs : cells ≤ R.cells ∧ slots ≤ R.slots) (hd : decode cc pc = .ok (.invokevirtual 200, 3)) (kk : ∀ (H1 : Heap) (locs1 : List Loc), CW β D G x' H1 → va_S D s.heap H1 locs1 → W p l e R s m args below meth c H1 locs1 cells slots Q (F0 m (pc + 3) ls (rest))) : W p l e R s m args below meth c H locs cells slots Q (F0 m pc ls (.int a2 :: .int a1 :: .ref β :: rest)) := by
  exact xcallV C (As := [.int a1, .int a2]) (rest := rest) (nA := 2) (ci := 8) (kX8_enter h) (tg 576 (by decide +kernel) rfl) (tg 578 (by decide +kernel) rfl) (sg (List.mem_of_getElem? (i := 27) (by decide +kernel)) rfl) (tg 1 (by decide +kernel) rfl) (tg 579 (by decide +kernel) rfl) ⟨rfl, by decide +kernel, by decide +kernel, by decide +kernel⟩ rfl rfl rfl ⟨hR, hR2⟩ (hw.2.2.1 0 (by decide)) hw hS (fun _ q => q) rfl rfl hsz hW hd hcs (fun H1 locs1 hw hz hk hS => kk H1 locs1 hw hS)
theorem sX8_204 {p : Program} {l : Launch} {e : Env} {R : Room} {s : State} {m : MethodId} {args : Array Value} {below : List Frame} {meth : Method} {c : Code} {H : Heap} {locs : List Loc} {cells slots : Nat} {Q : State → Prop} {cc : ByteArray} {pc nL : Nat} {ls : Array Slot} {rest : List Value} {ret : Option FieldType}  {G : xG} {β : Nat} {D : Nat → Prop} {x x' : XS} {a1 : Int32} {r : Int32} (C : Cx p s m args meth c RX8 cc nL ret (KK G)) (h : fX0_shareOf x a1 = some (r, x')) (hw : CW β D G x H) (hS : va_S D s.heap H locs) (hsz : ls.size = nL) (hW : (rest.map fun v => v.category).sum ≤ 8) (hR : 4 ≤ R.frames) (hR2 : 93 ≤ R.locals) (hcs : cells ≤ R.cells ∧ slots ≤ R.slots) (hd : decode cc pc = .ok (.invokevirtual 204, 3)) (kk : ∀ (H1 : Heap) (locs1 : List Loc), CW β D G x' H1 → va_S D s.heap H1 locs1 → W p l e R s m args below meth c H1 locs1 cells slots Q (F0 m (pc + 3) ls (.int r :: rest))) : W p l e R s m args below meth c H locs cells slots Q (F0 m pc ls (.int a1 :: .ref (β + 16) :: rest)) := by
  exact xcallV C (As := [.int a1]) (rest := rest) (nA := 1) (ci := 0) (kX0_shareOf h) (tg 600 (by decide +kernel) rfl) (tg 601 (by decide +kernel) rfl) (tg 602 (by decide +kernel) rfl) (tg 5 (by decide +kernel) rfl) (tg 603 (by decide +kernel) rfl) ⟨rfl, by decide +kernel, by decide +kernel, by decide +kernel⟩ rfl rfl rfl ⟨hR, hR2⟩ (hw.2.2.1 16 (by decide)) hw hS (fun _ q => q) rfl rfl hsz hW hd hcs (fun H1 locs1 hw hz hk hS => kk H1 locs1 hw hS)
theorem sX8_207 {p : Program} {l : Launch} {e : Env} {R : Room} {s : State} {m : MethodId} {args : Array Value} {below : List Frame} {meth : Method} {c : Code} {H : Heap} {locs : List Loc} {cells slots : Nat} {Q : State → Prop} {cc : ByteArray} {pc nL : Nat} {ls : Array Slot} {rest : List Value} {ret : Option FieldType}  {G : xG} {β : Nat} {D : Nat → Prop} {x : XS} {r : Int32} (C : Cx p s m args meth c RX8 cc nL ret (KK G)) (h : fX0_cases x = some r) (hw : CW β D G x H) (hS : va_S D s.heap H locs) (hsz : ls.size = nL) (hW : (rest.map fun v => v.category).sum ≤ 8) (hR : 2 ≤ R.frames) (hR2 : 43 ≤ R.locals) (hcs : cells ≤ R.cells ∧ slots ≤ R.slots) (hd : decode cc pc = .ok (.invokevirtual 207, 3)) (kk : ∀ (H1 : Heap) (locs1 : List Loc), CW β D G x H1 → va_S D s.heap H1 locs1 → W p l e R s m args below meth c H1 locs1 cells slots Q (F0 m (pc + 3) ls (.int r :: rest))) : W p l e R s m args below meth c H locs cells slots Q (F0 m pc ls (.ref (β + 16) :: rest)) := by
  exact xcallV C (As := []) (rest := rest) (nA := 0) (ci := 0) (kX0_cases h) (tg 625 (by decide +kernel) rfl) (tg 626 (by decide +kernel) rfl) (tg 627 (by decide +kernel) rfl) (tg 5 (by decide +kernel) rfl) (tg 628 (by decide +kernel) rfl) ⟨rfl, by decide +kernel, by decide +kernel, by decide +kernel⟩ rfl rfl rfl ⟨hR, hR2⟩ (hw.2.2.1 16 (by decide)) hw hS (fun _ q => q) rfl rfl hsz hW hd hcs (fun H1 locs1 hw hz hk hS => kk H1 locs1 hw hS)
theorem sX8_210 {p : Program} {l : Launch} {e : Env} {R : Room} {s : State} {m : MethodId} {args : Array Value} {below : List Frame} {meth : Method} {c : Code} {H : Heap} {locs : List Loc} {cells slots : Nat} {Q : State → Prop} {cc : ByteArray} {pc nL : Nat} {ls : Array Slot} {rest : List Value} {ret : Option FieldType}  {G : xG} {β : Nat} {D : Nat → Prop} {x : XS} {a1 : Int32} {a2 : Int32} {a3 : Int32} {r : Int64} (C : Cx p s m args meth c RX8 cc nL ret (KK G)) (h : fX8_inLowestTerms a1 a2 a3 = some r) (hw : CW β D G x H) (hS : va_S D s.heap H locs) (hsz : ls.size = nL) (hW : (rest.map fun v => v.category).sum ≤ 8) (hR : 2 ≤ R.frames) (hR2 : 48 ≤ R.locals) (hcs : cells ≤ R.cells ∧ slots ≤ R.slots) (hd : decode cc pc = .ok (.invokestatic 210, 3)) (kk : ∀ (H1 : Heap) (locs1 : List Loc), CW β D G x H1 → va_S D s.heap H1 locs1 → W p l e R s m args below meth c H1 locs1 cells slots Q (F0 m (pc + 3) ls (.long r :: rest))) : W p l e R s m args below meth c H locs cells slots Q (F0 m pc ls (.int a3 :: .int a2 :: .int a1 :: rest)) := by
  exact xcallS C (As := [.int a1, .int a2, .int a3]) (rest := rest) (nA := 3) (kX8_inLowestTerms h) (tg 629 (by decide +kernel) rfl) (tg 630 (by decide +kernel) rfl) (tg 1 (by decide +kernel) rfl) (tg 631 (by decide +kernel) rfl) ⟨by decide +kernel, by decide +kernel, by decide +kernel⟩ rfl rfl ⟨hR, hR2⟩ hw hS (fun _ q => q) rfl rfl hsz hW hd hcs (fun H1 locs1 hw hz hk hS => kk H1 locs1 hw hS)
def fX8_wins (x : XS) (a1 : Int32) (a2 : Int32) (a3 : Int32) (a4 : Int32) : Option (Int64 × XS) := Option.bind (fX8_isField x a1) fun v1 => if v1 = true then Option.bind (fX8_isWhen a2) fun v3 => if v3 = true then Option.bind (fX8_isIn x a1 a3) fun v5 => if v5 = true then Option.bind (fX8_isPart a4) fun v7 => if v7 = true then Option.bind (fX8_enter x a1 a2) fun x9 => bind2 (fX0_shareOf x9 a3) fun v11 x12 => Option.bind (fX0_cases x12) fun v14 => Option.bind (fX8_inLowestTerms v11 (60 * v14) a4) fun v16 => some (v16, x12) else some ((-4611686018427387904), x) else some ((-4611686018427387904), x) else some ((-4611686018427387904), x) else some ((-4611686018427387904), x)
abbrev rmX8_wins : Room := { frames := 7, cells := 0, slots := 0, locals := 157 }
set_option maxHeartbeats 4000000 in
set_option maxRecDepth 100000 in
theorem kX8_wins {l : Launch} {G : xG} {β : Nat} {D : Nat → Prop} {x x' : XS} {a1 : Int32} {a2 : Int32} {a3 : Int32} {a4 : Int32} {r : Int64} (hm : fX8_wins x a1 a2 a3 a4 = some (r, x')) : Met l yX8_wins (.code yX8_wins cX8_wins 5 (some .long) :: GT) rmX8_wins (PcW [.ref β, .int a1, .int a2, .int a3, .int a4] (CW β D G x) (KK G)) (QcW D (some (.long r)) (CW β D G x')) 0 0 D := by
  unfold fX8_wins at hm
  refine xpro (own := RX8) (by decide +kernel) rfl (Nat.le_of_ble_eq_true rfl) ?_
  intro p e s m args below meth c C hw ls hl
  have hx := C.1
  have hb := C.2.1
  have ho := C.2.2.2.1
  have hts := C.2.2.2.2.1
  have hS : va_S D s.heap s.heap [] := va_S.rf
  have hl : lv_has ls 5 [(0, .ref β), (1, .int a1), (2, .int a2), (3, .int a3), (4, .int a4)] := hl
  have hRf : 7 ≤ rmX8_wins.frames := Nat.le_refl _
  have hRl : 157 ≤ rmX8_wins.locals := Nat.le_refl _
  have hcs : 0 ≤ rmX8_wins.cells ∧ 0 ≤ rmX8_wins.slots := ⟨Nat.le_refl _, Nat.le_refl _⟩
  refine lv_aload_n hx hb dX8_wins_0 rfl (lv_at hl 0 rfl) ?_
  refine lv_iload_n hx hb dX8_wins_1 rfl (lv_at hl 1 rfl) ?_
  obtain ⟨v1, h2, hm⟩ := bind_e hm
  refine sX8_187 C h2 hw hS hl.1 (Nat.le_of_ble_eq_true rfl) (Nat.le_trans (Nat.le_of_ble_eq_true rfl) hRf) (Nat.le_trans (Nat.le_of_ble_eq_true rfl) hRl) hcs dX8_wins_2 (fun H locs hw hS => ?_)
  refine x_ifeqB hx hb dX8_wins_5 (tgt := 32) (by decide) (fun cc => ?_) (fun cc => ?_)
  · replace hm := ite_n cc hm
    refine lv_ldc2 (v := (-4611686018427387904)) hx hb ho (hts (.constantLong RX8 157 (-4611686018427387904)) (tg 476 (by decide +kernel) rfl)) dX8_wins_32 ?_
    obtain ⟨rfl, rfl⟩ := inj2 hm
    exact xret_l C hw hS dX8_wins_35
  · replace hm := ite_p cc hm
    refine lv_iload_n hx hb dX8_wins_8 rfl (lv_at hl 2 rfl) ?_
    obtain ⟨v3, h4, hm⟩ := bind_e hm
    refine sX8_190 C h4 hw hS hl.1 (Nat.le_of_ble_eq_true rfl) (Nat.le_trans (Nat.le_of_ble_eq_true rfl) hRf) (Nat.le_trans (Nat.le_of_ble_eq_true rfl) hRl) hcs dX8_wins_9 (fun H locs hw hS => ?_)
    refine x_ifeqB hx hb dX8_wins_12 (tgt := 32) (by decide) (fun cc => ?_) (fun cc => ?_)
    · replace hm := ite_n cc hm
      refine lv_ldc2 (v := (-4611686018427387904)) hx hb ho (hts (.constantLong RX8 157 (-4611686018427387904)) (tg 476 (by decide +kernel) rfl)) dX8_wins_32 ?_
      obtain ⟨rfl, rfl⟩ := inj2 hm
      exact xret_l C hw hS dX8_wins_35
    · replace hm := ite_p cc hm
      refine lv_aload_n hx hb dX8_wins_15 rfl (lv_at hl 0 rfl) ?_
      refine lv_iload_n hx hb dX8_wins_16 rfl (lv_at hl 1 rfl) ?_
      refine lv_iload_n hx hb dX8_wins_17 rfl (lv_at hl 3 rfl) ?_
      obtain ⟨v5, h6, hm⟩ := bind_e hm
      refine sX8_193 C h6 hw hS hl.1 (Nat.le_of_ble_eq_true rfl) (Nat.le_trans (Nat.le_of_ble_eq_true rfl) hRf) (Nat.le_trans (Nat.le_of_ble_eq_true rfl) hRl) hcs dX8_wins_18 (fun H locs hw hS => ?_)
      refine x_ifeqB hx hb dX8_wins_21 (tgt := 32) (by decide) (fun cc => ?_) (fun cc => ?_)
      · replace hm := ite_n cc hm
        refine lv_ldc2 (v := (-4611686018427387904)) hx hb ho (hts (.constantLong RX8 157 (-4611686018427387904)) (tg 476 (by decide +kernel) rfl)) dX8_wins_32 ?_
        obtain ⟨rfl, rfl⟩ := inj2 hm
        exact xret_l C hw hS dX8_wins_35
      · replace hm := ite_p cc hm
        refine lv_iload hx hb dX8_wins_24 (lv_at hl 4 rfl) ?_
        obtain ⟨v7, h8, hm⟩ := bind_e hm
        refine sX8_197 C h8 hw hS hl.1 (Nat.le_of_ble_eq_true rfl) (Nat.le_trans (Nat.le_of_ble_eq_true rfl) hRf) (Nat.le_trans (Nat.le_of_ble_eq_true rfl) hRl) hcs dX8_wins_26 (fun H locs hw hS => ?_)
        refine x_ifneB hx hb dX8_wins_29 (tgt := 36) (by decide) (fun cc => ?_) (fun cc => ?_)
        · replace hm := ite_p cc hm
          refine lv_aload_n hx hb dX8_wins_36 rfl (lv_at hl 0 rfl) ?_
          refine lv_iload_n hx hb dX8_wins_37 rfl (lv_at hl 1 rfl) ?_
          refine lv_iload_n hx hb dX8_wins_38 rfl (lv_at hl 2 rfl) ?_
          obtain ⟨x9, h10, hm⟩ := bind_e hm
          refine sX8_200 C h10 hw hS hl.1 (Nat.le_of_ble_eq_true rfl) (Nat.le_trans (Nat.le_of_ble_eq_true rfl) hRf) (Nat.le_trans (Nat.le_of_ble_eq_true rfl) hRl) hcs dX8_wins_39 (fun H locs hw hS => ?_)
          refine lv_aload_n hx hb dX8_wins_42 rfl (lv_at hl 0 rfl) ?_
          refine gX8_79 C hw dX8_wins_43 ?_
          refine lv_iload_n hx hb dX8_wins_46 rfl (lv_at hl 3 rfl) ?_
          obtain ⟨v11, x12, h13, hm⟩ := bind2_e hm
          refine sX8_204 C h13 hw hS hl.1 (Nat.le_of_ble_eq_true rfl) (Nat.le_trans (Nat.le_of_ble_eq_true rfl) hRf) (Nat.le_trans (Nat.le_of_ble_eq_true rfl) hRl) hcs dX8_wins_47 (fun H locs hw hS => ?_)
          refine lv_bipush (v := 60) hx hb dX8_wins_50 (by decide) ?_
          refine lv_aload_n hx hb dX8_wins_52 rfl (lv_at hl 0 rfl) ?_
          refine gX8_79 C hw dX8_wins_53 ?_
          obtain ⟨v14, h15, hm⟩ := bind_e hm
          refine sX8_207 C h15 hw hS hl.1 (Nat.le_of_ble_eq_true rfl) (Nat.le_trans (Nat.le_of_ble_eq_true rfl) hRf) (Nat.le_trans (Nat.le_of_ble_eq_true rfl) hRl) hcs dX8_wins_56 (fun H locs hw hS => ?_)
          refine lv_imul hx hb dX8_wins_59 ?_
          refine lv_iload hx hb dX8_wins_60 (lv_at hl 4 rfl) ?_
          obtain ⟨v16, h17, hm⟩ := bind_e hm
          refine sX8_210 C h17 hw hS hl.1 (Nat.le_of_ble_eq_true rfl) (Nat.le_trans (Nat.le_of_ble_eq_true rfl) hRf) (Nat.le_trans (Nat.le_of_ble_eq_true rfl) hRl) hcs dX8_wins_62 (fun H locs hw hS => ?_)
          obtain ⟨rfl, rfl⟩ := inj2 hm
          exact xret_l C hw hS dX8_wins_65
        · replace hm := ite_n cc hm
          refine lv_ldc2 (v := (-4611686018427387904)) hx hb ho (hts (.constantLong RX8 157 (-4611686018427387904)) (tg 476 (by decide +kernel) rfl)) dX8_wins_32 ?_
          obtain ⟨rfl, rfl⟩ := inj2 hm
          exact xret_l C hw hS dX8_wins_35
theorem dX8_digitsBehindOne_0 : decode cX8_digitsBehindOne 0 = .ok (.bipush 10, 2) := by decide +kernel
theorem dX8_digitsBehindOne_2 : decode cX8_digitsBehindOne 2 = .ok (.istore_n 1, 1) := by decide +kernel
theorem dX8_digitsBehindOne_3 : decode cX8_digitsBehindOne 3 = .ok (.iconst 1, 1) := by decide +kernel
theorem dX8_digitsBehindOne_4 : decode cX8_digitsBehindOne 4 = .ok (.istore_n 2, 1) := by decide +kernel
theorem dX8_digitsBehindOne_5 : decode cX8_digitsBehindOne 5 = .ok (.iload_n 2, 1) := by decide +kernel
theorem dX8_digitsBehindOne_6 : decode cX8_digitsBehindOne 6 = .ok (.iconst 5, 1) := by decide +kernel
theorem dX8_digitsBehindOne_7 : decode cX8_digitsBehindOne 7 = .ok (.if_icmp .gt 29, 3) := by decide +kernel
theorem dX8_digitsBehindOne_10 : decode cX8_digitsBehindOne 10 = .ok (.iload_n 0, 1) := by decide +kernel
theorem dX8_digitsBehindOne_11 : decode cX8_digitsBehindOne 11 = .ok (.iload_n 1, 1) := by decide +kernel
theorem dX8_digitsBehindOne_12 : decode cX8_digitsBehindOne 12 = .ok (.iconst 2, 1) := by decide +kernel
theorem dX8_digitsBehindOne_13 : decode cX8_digitsBehindOne 13 = .ok (.iload_n 1, 1) := by decide +kernel
theorem dX8_digitsBehindOne_14 : decode cX8_digitsBehindOne 14 = .ok (.imul, 1) := by decide +kernel
theorem dX8_digitsBehindOne_15 : decode cX8_digitsBehindOne 15 = .ok (.iconst 1, 1) := by decide +kernel
theorem dX8_digitsBehindOne_16 : decode cX8_digitsBehindOne 16 = .ok (.isub, 1) := by decide +kernel
theorem dX8_digitsBehindOne_17 : decode cX8_digitsBehindOne 17 = .ok (.invokestatic 138, 3) := by decide +kernel
theorem dX8_digitsBehindOne_20 : decode cX8_digitsBehindOne 20 = .ok (.ifCond .eq 5, 3) := by decide +kernel
theorem dX8_digitsBehindOne_23 : decode cX8_digitsBehindOne 23 = .ok (.iload_n 2, 1) := by decide +kernel
theorem dX8_digitsBehindOne_24 : decode cX8_digitsBehindOne 24 = .ok (.ireturn, 1) := by decide +kernel
theorem dX8_digitsBehindOne_25 : decode cX8_digitsBehindOne 25 = .ok (.iload_n 1, 1) := by decide +kernel
theorem dX8_digitsBehindOne_26 : decode cX8_digitsBehindOne 26 = .ok (.bipush 10, 2) := by decide +kernel
theorem dX8_digitsBehindOne_28 : decode cX8_digitsBehindOne 28 = .ok (.imul, 1) := by decide +kernel
theorem dX8_digitsBehindOne_29 : decode cX8_digitsBehindOne 29 = .ok (.istore_n 1, 1) := by decide +kernel
theorem dX8_digitsBehindOne_30 : decode cX8_digitsBehindOne 30 = .ok (.iinc 2 1, 3) := by decide +kernel
theorem dX8_digitsBehindOne_33 : decode cX8_digitsBehindOne 33 = .ok (.goto (-28), 3) := by decide +kernel
theorem dX8_digitsBehindOne_36 : decode cX8_digitsBehindOne 36 = .ok (.iconst 0, 1) := by decide +kernel
theorem dX8_digitsBehindOne_37 : decode cX8_digitsBehindOne 37 = .ok (.ireturn, 1) := by decide +kernel
def BX8_digitsBehindOne_5 (q0 : Int32) (lp : Int32 → Int32 → Option ((Int32) ⊕ (Unit))) (u1 : Int32) (u2 : Int32) : Option ((Int32) ⊕ (Unit)) := if 5 < u2 then some (.inr ()) else Option.bind (fX8_isWithin q0 u1 ((2 * u1) - 1)) fun v1 => if v1 = true then some (.inl u2) else lt (u1 * 10) fun v3 => lt (u2 + 1) fun v4 => lp v3 v4
def LX8_digitsBehindOne_5 (q0 : Int32) : Nat → Int32 → Int32 → Option ((Int32) ⊕ (Unit))
  | 0, _, _ => none
  | n + 1, u1, u2 => BX8_digitsBehindOne_5 q0 (LX8_digitsBehindOne_5 q0 n) u1 u2
def fX8_digitsBehindOne (a1 : Int32) : Option (Int32) := bs (LX8_digitsBehindOne_5 a1 NF 10 1) (fun a => some a) (fun _ => some 0)
set_option maxHeartbeats 4000000 in
set_option maxRecDepth 100000 in
theorem lX8_digitsBehindOne_5 {p : Program} {l : Launch} {e : Env} {R : Room} {s : State} {m : MethodId} {args : Array Value} {below : List Frame} {meth : Method} {c : Code} {cells slots : Nat} {Q : State → Prop} {G : xG} {β : Nat} {D : Nat → Prop} (C : Cx p s m args meth c RX8 cX8_digitsBehindOne 3 (some .int) (KK G)) (hRf : 1 ≤ R.frames) (hRl : 22 ≤ R.locals) (hcs : cells ≤ R.cells ∧ slots ≤ R.slots) {x : XS} (q0 : Int32) : ∀ (n : Nat) (u1 : Int32) (u2 : Int32) (J : (Int32) ⊕ (Unit)) (H : Heap) (locs : List Loc) (ls : Array Slot), LX8_digitsBehindOne_5 q0 n u1 u2 = some J → CW β D G x H → va_S D s.heap H locs → lv_has ls 3 [(0, .int q0), (1, .int u1), (2, .int u2)] → (∀ (w : Unit), J = .inr w → ∀ (H : Heap) (locs : List Loc) (ls : Array Slot), CW β D G x H → va_S D s.heap H locs → lv_has ls 3 [] → W p l e R s m args below meth c H locs cells slots Q (F0 m 36 ls [])) → (∀ (rv : Int32), J = .inl rv → ∀ (H : Heap) (locs : List Loc) (ls : Array Slot), CW β D G x H → va_S D s.heap H locs → W p l e R s m args below meth c H locs cells slots Q (F0 m 24 ls [.int rv])) → W p l e R s m args below meth c H locs cells slots Q (F0 m 5 ls []) := by
  have hx := C.1
  have hb := C.2.1
  have ho := C.2.2.2.1
  have hts := C.2.2.2.2.1
  intro n
  induction n with
  | zero =>
    intro u1 u2 J H locs ls hm
    exact absurd hm (by simp [LX8_digitsBehindOne_5])
  | succ n ih =>
    intro u1 u2 J H locs ls hm hw hS hl ke kr24
    replace hm : BX8_digitsBehindOne_5 q0 (LX8_digitsBehindOne_5 q0 n) u1 u2 = some J := hm
    unfold BX8_digitsBehindOne_5 at hm
    refine lv_iload_n hx hb dX8_digitsBehindOne_5 rfl (lv_at hl 2 rfl) ?_
    refine lv_iconst (v := 5) hx hb dX8_digitsBehindOne_6 (by decide) ?_
    refine lv_icmp_gt (tgt := 36) hx hb dX8_digitsBehindOne_7 (by decide) (fun cc => ?_) (fun cc => ?_)
    · replace hm := ite_p cc hm
      exact ke _ (Option.some.inj hm).symm _ _ _ hw hS (lv_sub hl [] rfl)
    · replace hm := ite_n cc hm
      refine lv_iload_n hx hb dX8_digitsBehindOne_10 rfl (lv_at hl 0 rfl) ?_
      refine lv_iload_n hx hb dX8_digitsBehindOne_11 rfl (lv_at hl 1 rfl) ?_
      refine lv_iconst (v := 2) hx hb dX8_digitsBehindOne_12 (by decide) ?_
      refine lv_iload_n hx hb dX8_digitsBehindOne_13 rfl (lv_at hl 1 rfl) ?_
      refine lv_imul hx hb dX8_digitsBehindOne_14 ?_
      refine lv_iconst (v := 1) hx hb dX8_digitsBehindOne_15 (by decide) ?_
      refine lv_isub hx hb dX8_digitsBehindOne_16 ?_
      obtain ⟨v1, h2, hm⟩ := bind_e hm
      refine sX8_138 C h2 hw hS hl.1 (Nat.le_of_ble_eq_true rfl) (Nat.le_trans (Nat.le_of_ble_eq_true rfl) hRf) (Nat.le_trans (Nat.le_of_ble_eq_true rfl) hRl) hcs dX8_digitsBehindOne_17 (fun H locs hw hS => ?_)
      refine x_ifeqB hx hb dX8_digitsBehindOne_20 (tgt := 25) (by decide) (fun cc => ?_) (fun cc => ?_)
      · replace hm := ite_n cc hm
        refine lv_iload_n hx hb dX8_digitsBehindOne_25 rfl (lv_at hl 1 rfl) ?_
        refine lv_bipush (v := 10) hx hb dX8_digitsBehindOne_26 (by decide) ?_
        refine lv_imul hx hb dX8_digitsBehindOne_28 ?_
        refine topI hm (fun v3 hm => ?_)
        refine lv_istore_n (lv' := [(1, .int v3), (0, .int q0), (2, .int u2)]) hx hb dX8_digitsBehindOne_29 rfl hl (by decide) rfl (fun ls hl => ?_)
        obtain ⟨v4, ev, hm⟩ := lt_e hm
        refine lv_iinc (v := v4) (lv' := [(2, .int v4), (1, .int v3), (0, .int q0)]) hx hb dX8_digitsBehindOne_30 hl (k := 2) rfl (by rw [ev]; rfl) (by decide) rfl (fun ls hl => ?_)
        clear ev
        refine lv_goto (tgt := 5) hx hb dX8_digitsBehindOne_33 (by decide) ?_
        exact ih _ _ _ _ _ _ hm hw hS (lv_sub hl [2, 1, 0] rfl) ke kr24
      · replace hm := ite_p cc hm
        refine lv_iload_n hx hb dX8_digitsBehindOne_23 rfl (lv_at hl 2 rfl) ?_
        exact kr24 _ (Option.some.inj hm).symm _ _ _ hw hS
abbrev rmX8_digitsBehindOne : Room := { frames := 1, cells := 0, slots := 0, locals := 22 }
set_option maxHeartbeats 4000000 in
set_option maxRecDepth 100000 in
theorem kX8_digitsBehindOne {l : Launch} {G : xG} {β : Nat} {D : Nat → Prop} {x : XS} {a1 : Int32} {r : Int32} (hm : fX8_digitsBehindOne a1 = some r) : Met l yX8_digitsBehindOne (.code yX8_digitsBehindOne cX8_digitsBehindOne 3 (some .int) :: GT) rmX8_digitsBehindOne (PcW [.int a1] (CW β D G x) (KK G)) (QcW D (some (.int r)) (CW β D G x)) 0 0 D := by
  unfold fX8_digitsBehindOne at hm
  refine xpro (own := RX8) (by decide +kernel) rfl (Nat.le_of_ble_eq_true rfl) ?_
  intro p e s m args below meth c C hw ls hl
  have hx := C.1
  have hb := C.2.1
  have ho := C.2.2.2.1
  have hts := C.2.2.2.2.1
  have hS : va_S D s.heap s.heap [] := va_S.rf
  have hl : lv_has ls 3 [(0, .int a1)] := hl
  have hRf : 1 ≤ rmX8_digitsBehindOne.frames := Nat.le_refl _
  have hRl : 22 ≤ rmX8_digitsBehindOne.locals := Nat.le_refl _
  have hcs : 0 ≤ rmX8_digitsBehindOne.cells ∧ 0 ≤ rmX8_digitsBehindOne.slots := ⟨Nat.le_refl _, Nat.le_refl _⟩
  refine lv_bipush (v := 10) hx hb dX8_digitsBehindOne_0 (by decide) ?_
  refine lv_istore_n (lv' := [(1, .int 10), (0, .int a1)]) hx hb dX8_digitsBehindOne_2 rfl hl (by decide) rfl (fun ls hl => ?_)
  refine lv_iconst (v := 1) hx hb dX8_digitsBehindOne_3 (by decide) ?_
  refine lv_istore_n (lv' := [(2, .int 1), (1, .int 10), (0, .int a1)]) hx hb dX8_digitsBehindOne_4 rfl hl (by decide) rfl (fun ls hl => ?_)
  rcases bs_e hm with ⟨a, hj, hm⟩ | ⟨b, hj, hm⟩
  · refine lX8_digitsBehindOne_5 C hRf hRl hcs a1 NF _ _ _ _ _ _ hj hw hS (lv_sub hl [2, 1, 0] rfl) (fun _ e0 => by cases e0) (fun rv e0 H locs ls hw hS => ?_)
    · cases e0
      obtain rfl := Option.some.inj hm
      exact xret_i C hw hS dX8_digitsBehindOne_24
  · refine lX8_digitsBehindOne_5 C hRf hRl hcs a1 NF _ _ _ _ _ _ hj hw hS (lv_sub hl [2, 1, 0] rfl) (fun _ e0 H locs ls hw hS hl => ?_) (fun _ e0 => by cases e0)
    refine lv_iconst (v := 0) hx hb dX8_digitsBehindOne_36 (by decide) ?_
    obtain rfl := Option.some.inj hm
    exact xret_i C hw hS dX8_digitsBehindOne_37
theorem dX8_readOrder_0 : decode cX8_readOrder 0 = .ok (.iload_n 1, 1) := by decide +kernel
theorem dX8_readOrder_1 : decode cX8_readOrder 1 = .ok (.invokestatic 360, 3) := by decide +kernel
theorem dX8_readOrder_4 : decode cX8_readOrder 4 = .ok (.istore_n 2, 1) := by decide +kernel
theorem dX8_readOrder_5 : decode cX8_readOrder 5 = .ok (.iconst 0, 1) := by decide +kernel
theorem dX8_readOrder_6 : decode cX8_readOrder 6 = .ok (.istore_n 3, 1) := by decide +kernel
theorem dX8_readOrder_7 : decode cX8_readOrder 7 = .ok (.iload_n 1, 1) := by decide +kernel
theorem dX8_readOrder_8 : decode cX8_readOrder 8 = .ok (.istore 4, 2) := by decide +kernel
theorem dX8_readOrder_10 : decode cX8_readOrder 10 = .ok (.iload_n 2, 1) := by decide +kernel
theorem dX8_readOrder_11 : decode cX8_readOrder 11 = .ok (.iconst 1, 1) := by decide +kernel
theorem dX8_readOrder_12 : decode cX8_readOrder 12 = .ok (.isub, 1) := by decide +kernel
theorem dX8_readOrder_13 : decode cX8_readOrder 13 = .ok (.istore 5, 2) := by decide +kernel
theorem dX8_readOrder_15 : decode cX8_readOrder 15 = .ok (.iload 5, 2) := by decide +kernel
theorem dX8_readOrder_17 : decode cX8_readOrder 17 = .ok (.ifCond .lt 60, 3) := by decide +kernel
theorem dX8_readOrder_20 : decode cX8_readOrder 20 = .ok (.iload 4, 2) := by decide +kernel
theorem dX8_readOrder_22 : decode cX8_readOrder 22 = .ok (.bipush 10, 2) := by decide +kernel
theorem dX8_readOrder_24 : decode cX8_readOrder 24 = .ok (.irem, 1) := by decide +kernel
theorem dX8_readOrder_25 : decode cX8_readOrder 25 = .ok (.istore 6, 2) := by decide +kernel
theorem dX8_readOrder_27 : decode cX8_readOrder 27 = .ok (.aload_n 0, 1) := by decide +kernel
theorem dX8_readOrder_28 : decode cX8_readOrder 28 = .ok (.iload 6, 2) := by decide +kernel
theorem dX8_readOrder_30 : decode cX8_readOrder 30 = .ok (.invokevirtual 154, 3) := by decide +kernel
theorem dX8_readOrder_33 : decode cX8_readOrder 33 = .ok (.ifCond .eq 13, 3) := by decide +kernel
theorem dX8_readOrder_36 : decode cX8_readOrder 36 = .ok (.aload_n 0, 1) := by decide +kernel
theorem dX8_readOrder_37 : decode cX8_readOrder 37 = .ok (.iload_n 3, 1) := by decide +kernel
theorem dX8_readOrder_38 : decode cX8_readOrder 38 = .ok (.iload 6, 2) := by decide +kernel
theorem dX8_readOrder_40 : decode cX8_readOrder 40 = .ok (.invokevirtual 193, 3) := by decide +kernel
theorem dX8_readOrder_43 : decode cX8_readOrder 43 = .ok (.ifCond .eq 5, 3) := by decide +kernel
theorem dX8_readOrder_46 : decode cX8_readOrder 46 = .ok (.iconst 0, 1) := by decide +kernel
theorem dX8_readOrder_47 : decode cX8_readOrder 47 = .ok (.ireturn, 1) := by decide +kernel
theorem dX8_readOrder_48 : decode cX8_readOrder 48 = .ok (.iload_n 3, 1) := by decide +kernel
theorem dX8_readOrder_49 : decode cX8_readOrder 49 = .ok (.iconst 1, 1) := by decide +kernel
theorem dX8_readOrder_50 : decode cX8_readOrder 50 = .ok (.iload 6, 2) := by decide +kernel
theorem dX8_readOrder_52 : decode cX8_readOrder 52 = .ok (.ishl, 1) := by decide +kernel
theorem dX8_readOrder_53 : decode cX8_readOrder 53 = .ok (.ior, 1) := by decide +kernel
theorem dX8_readOrder_54 : decode cX8_readOrder 54 = .ok (.istore_n 3, 1) := by decide +kernel
theorem dX8_readOrder_55 : decode cX8_readOrder 55 = .ok (.aload_n 0, 1) := by decide +kernel
theorem dX8_readOrder_56 : decode cX8_readOrder 56 = .ok (.getfield 86, 3) := by decide +kernel
theorem dX8_readOrder_59 : decode cX8_readOrder 59 = .ok (.iload 5, 2) := by decide +kernel
theorem dX8_readOrder_61 : decode cX8_readOrder 61 = .ok (.iload 6, 2) := by decide +kernel
theorem dX8_readOrder_63 : decode cX8_readOrder 63 = .ok (.iastore, 1) := by decide +kernel
theorem dX8_readOrder_64 : decode cX8_readOrder 64 = .ok (.iload 4, 2) := by decide +kernel
theorem dX8_readOrder_66 : decode cX8_readOrder 66 = .ok (.bipush 10, 2) := by decide +kernel
theorem dX8_readOrder_68 : decode cX8_readOrder 68 = .ok (.idiv, 1) := by decide +kernel
theorem dX8_readOrder_69 : decode cX8_readOrder 69 = .ok (.istore 4, 2) := by decide +kernel
theorem dX8_readOrder_71 : decode cX8_readOrder 71 = .ok (.iinc 5 (-1), 3) := by decide +kernel
theorem dX8_readOrder_74 : decode cX8_readOrder 74 = .ok (.goto (-59), 3) := by decide +kernel
theorem dX8_readOrder_77 : decode cX8_readOrder 77 = .ok (.iload_n 3, 1) := by decide +kernel
theorem dX8_readOrder_78 : decode cX8_readOrder 78 = .ok (.ireturn, 1) := by decide +kernel
theorem sX8_360 {p : Program} {l : Launch} {e : Env} {R : Room} {s : State} {m : MethodId} {args : Array Value} {below : List Frame} {meth : Method} {c : Code} {H : Heap} {locs : List Loc} {cells slots : Nat} {Q : State → Prop} {cc : ByteArray} {pc nL : Nat} {ls : Array Slot} {rest : List Value} {ret : Option FieldType}  {G : xG} {β : Nat} {D : Nat → Prop} {x : XS} {a1 : Int32} {r : Int32} (C : Cx p s m args meth c RX8 cc nL ret (KK G)) (h : fX8_digitsBehindOne a1 = some r) (hw : CW β D G x H) (hS : va_S D s.heap H locs) (hsz : ls.size = nL) (hW : (rest.map fun v => v.category).sum ≤ 8) (hR : 2 ≤ R.frames) (hR2 : 44 ≤ R.locals) (hcs : cells ≤ R.cells ∧ slots ≤ R.slots) (hd : decode cc pc = .ok (.invokestatic 360, 3)) (kk : ∀ (H1 : Heap) (locs1 : List Loc), CW β D G x H1 → va_S D s.heap H1 locs1 → W p l e R s m args below meth c H1 locs1 cells slots Q (F0 m (pc + 3) ls (.int r :: rest))) : W p l e R s m args below meth c H locs cells slots Q (F0 m pc ls (.int a1 :: rest)) := by
  exact xcallS C (As := [.int a1]) (rest := rest) (nA := 1) (kX8_digitsBehindOne h) (tg 643 (by decide +kernel) rfl) (tg 644 (by decide +kernel) rfl) (tg 1 (by decide +kernel) rfl) (tg 645 (by decide +kernel) rfl) ⟨by decide +kernel, by decide +kernel, by decide +kernel⟩ rfl rfl ⟨hR, hR2⟩ hw hS (fun _ q => q) rfl rfl hsz hW hd hcs (fun H1 locs1 hw hz hk hS => kk H1 locs1 hw hS)
theorem gX8_86 {p : Program} {l : Launch} {e : Env} {R : Room} {s : State} {m : MethodId} {args : Array Value} {below : List Frame} {meth : Method} {c : Code} {H : Heap} {locs : List Loc} {cells slots : Nat} {Q : State → Prop} {cc : ByteArray} {pc nL : Nat} {ls : Array Slot} {rest : List Value} {ret : Option FieldType} {G : xG} {β : Nat} {D : Nat → Prop} {x : XS} (C : Cx p s m args meth c RX8 cc nL ret (KK G)) (hw : CW β D G x H) (hd : decode cc pc = .ok (.getfield 86, 3)) (kk : W p l e R s m args below meth c H locs cells slots Q (F0 m (pc + 3) ls (.ref (β + 23) :: rest))) : W p l e R s m args below meth c H locs cells slots Q (F0 m pc ls (.ref β :: rest)) :=
  va_get C.1 C.2.1 C.2.2.2.2.1 iwX8 C.2.2.2.1 C.K.1 (xP1 (hw.2.2.1 0 (by decide))) 0 rfl rfl 15 (by decide) (C.2.2.2.2.1 (.fieldLink RX8 86 RX8 "placed" "[I") (tg 362 (by decide +kernel) rfl)) (fun _ h9 => h9) rfl hd kk
theorem asX_23 {p : Program} {l : Launch} {e : Env} {R : Room} {s : State} {m : MethodId} {args : Array Value} {below : List Frame} {meth : Method} {c : Code} {H : Heap} {locs : List Loc} {cells slots : Nat} {Q : State → Prop} {cc : ByteArray} {pc nL : Nat} {ls : Array Slot} {rest : List Value} {ret : Option FieldType} {G : xG} {β : Nat} {D : Nat → Prop} {x : XS} {own : String} {i : Int32} {v : Int32} (C : Cx p s m args meth c own cc nL ret (KK G)) (hw : CW β D G x H) (hS : va_S D s.heap H locs) (hin : ib i 5) (hd : decode cc pc = .ok (.iastore, 1)) (kk : ∀ (H1 : Heap) (locs1 : List Loc), CW β D G (xsA x 23 i.toNatClampNeg v) H1 → va_S D s.heap H1 locs1 → W p l e R s m args below meth c H1 locs1 cells slots Q (F0 m (pc + 1) ls (rest))) : W p l e R s m args below meth c H locs cells slots Q (F0 m pc ls (.int v :: .int i :: .ref (β + 23) :: rest)) :=
  x_iast C.1 C.2.1 C.K.1 hS 0 (hw.2.2.1 23 (by decide)) (hw.2.1 23 (by decide)) rfl hin hd (fun H1 locs1 hat ho hS => kk H1 locs1 (hw.setA 23 _ _ hat ho) hS)
def BX8_readOrder_15 (lp : Int32 → Int32 → Int32 → XS → Option ((Int32 × XS) ⊕ (Int32 × XS))) (u3 : Int32) (u4 : Int32) (u5 : Int32) (x : XS) : Option ((Int32 × XS) ⊕ (Int32 × XS)) := if u5 < 0 then some (.inr (u3, x)) else lt (irm u4 10) fun v4 => Option.bind (fX8_isHorse x v4) fun v5 => if v5 = true then Option.bind (fX8_isIn x u3 v4) fun v7 => if v7 = true then some (.inl (0, x)) else lt (u3 ||| ((1 : Int32) <<< (v4 &&& 31))) fun v9 => if ib u5 5 then lt (xsA x 23 u5.toNatClampNeg v4) fun x11 => lt (u4 / 10) fun v12 => lt (u5 + (-1)) fun v13 => lp v9 v12 v13 x11 else none else some (.inl (0, x))
def LX8_readOrder_15 : Nat → Int32 → Int32 → Int32 → XS → Option ((Int32 × XS) ⊕ (Int32 × XS))
  | 0, _, _, _, _ => none
  | n + 1, u3, u4, u5, x => BX8_readOrder_15 (LX8_readOrder_15 n) u3 u4 u5 x
def fX8_readOrder (x : XS) (a1 : Int32) : Option (Int32 × XS) := Option.bind (fX8_digitsBehindOne a1) fun v1 => lt (v1 - 1) fun v3 => bs (LX8_readOrder_15 NF 0 a1 v3 x) (fun a => some a) (fun b => bind2 (some b) fun v14 x15 => some (v14, x15))
set_option maxHeartbeats 4000000 in
set_option maxRecDepth 100000 in
theorem lX8_readOrder_15 {p : Program} {l : Launch} {e : Env} {R : Room} {s : State} {m : MethodId} {args : Array Value} {below : List Frame} {meth : Method} {c : Code} {cells slots : Nat} {Q : State → Prop} {G : xG} {β : Nat} {D : Nat → Prop} (C : Cx p s m args meth c RX8 cX8_readOrder 7 (some .int) (KK G)) (hRf : 3 ≤ R.frames) (hRl : 65 ≤ R.locals) (hcs : cells ≤ R.cells ∧ slots ≤ R.slots) : ∀ (n : Nat) (u3 : Int32) (u4 : Int32) (u5 : Int32) (x : XS) (J : (Int32 × XS) ⊕ (Int32 × XS)) (H : Heap) (locs : List Loc) (ls : Array Slot), LX8_readOrder_15 n u3 u4 u5 x = some J → CW β D G x H → va_S D s.heap H locs → lv_has ls 7 [(0, .ref β), (3, .int u3), (4, .int u4), (5, .int u5)] → (∀ (w3 : Int32) (x1 : XS), J = .inr (w3, x1) → ∀ (H : Heap) (locs : List Loc) (ls : Array Slot), CW β D G x1 H → va_S D s.heap H locs → lv_has ls 7 [(3, .int w3)] → W p l e R s m args below meth c H locs cells slots Q (F0 m 77 ls [])) → (∀ (rv : Int32) (x1 : XS), J = .inl (rv, x1) → ∀ (H : Heap) (locs : List Loc) (ls : Array Slot), CW β D G x1 H → va_S D s.heap H locs → W p l e R s m args below meth c H locs cells slots Q (F0 m 47 ls [.int rv])) → W p l e R s m args below meth c H locs cells slots Q (F0 m 15 ls []) := by
  have hx := C.1
  have hb := C.2.1
  have ho := C.2.2.2.1
  have hts := C.2.2.2.2.1
  intro n
  induction n with
  | zero =>
    intro u3 u4 u5 x J H locs ls hm
    exact absurd hm (by simp [LX8_readOrder_15])
  | succ n ih =>
    intro u3 u4 u5 x J H locs ls hm hw hS hl ke kr47
    replace hm : BX8_readOrder_15 (LX8_readOrder_15 n) u3 u4 u5 x = some J := hm
    unfold BX8_readOrder_15 at hm
    refine lv_iload hx hb dX8_readOrder_15 (lv_at hl 3 rfl) ?_
    refine lv_if_lt (tgt := 77) hx hb dX8_readOrder_17 (by decide) (fun cc => ?_) (fun cc => ?_)
    · replace hm := ite_p cc hm
      exact ke _ _ (Option.some.inj hm).symm _ _ _ hw hS (lv_sub hl [1] rfl)
    · replace hm := ite_n cc hm
      refine lv_iload hx hb dX8_readOrder_20 (lv_at hl 2 rfl) ?_
      refine lv_bipush (v := 10) hx hb dX8_readOrder_22 (by decide) ?_
      refine lv_irem hx hb dX8_readOrder_24 (by decide) ?_
      refine topI hm (fun v4 hm => ?_)
      refine lv_istore (lv' := [(6, .int v4), (0, .ref β), (3, .int u3), (4, .int u4), (5, .int u5)]) hx hb dX8_readOrder_25 hl (by decide) rfl (fun ls hl => ?_)
      refine lv_aload_n hx hb dX8_readOrder_27 rfl (lv_at hl 1 rfl) ?_
      refine lv_iload hx hb dX8_readOrder_28 (lv_at hl 0 rfl) ?_
      obtain ⟨v5, h6, hm⟩ := bind_e hm
      refine sX8_154 C h6 hw hS hl.1 (Nat.le_of_ble_eq_true rfl) (Nat.le_trans (Nat.le_of_ble_eq_true rfl) hRf) (Nat.le_trans (Nat.le_of_ble_eq_true rfl) hRl) hcs dX8_readOrder_30 (fun H locs hw hS => ?_)
      refine x_ifeqB hx hb dX8_readOrder_33 (tgt := 46) (by decide) (fun cc => ?_) (fun cc => ?_)
      · replace hm := ite_n cc hm
        refine lv_iconst (v := 0) hx hb dX8_readOrder_46 (by decide) ?_
        exact kr47 _ _ (Option.some.inj hm).symm _ _ _ hw hS
      · replace hm := ite_p cc hm
        refine lv_aload_n hx hb dX8_readOrder_36 rfl (lv_at hl 1 rfl) ?_
        refine lv_iload_n hx hb dX8_readOrder_37 rfl (lv_at hl 2 rfl) ?_
        refine lv_iload hx hb dX8_readOrder_38 (lv_at hl 0 rfl) ?_
        obtain ⟨v7, h8, hm⟩ := bind_e hm
        refine sX8_193 C h8 hw hS hl.1 (Nat.le_of_ble_eq_true rfl) (Nat.le_trans (Nat.le_of_ble_eq_true rfl) hRf) (Nat.le_trans (Nat.le_of_ble_eq_true rfl) hRl) hcs dX8_readOrder_40 (fun H locs hw hS => ?_)
        refine x_ifeqB hx hb dX8_readOrder_43 (tgt := 48) (by decide) (fun cc => ?_) (fun cc => ?_)
        · replace hm := ite_n cc hm
          refine lv_iload_n hx hb dX8_readOrder_48 rfl (lv_at hl 2 rfl) ?_
          refine lv_iconst (v := 1) hx hb dX8_readOrder_49 (by decide) ?_
          refine lv_iload hx hb dX8_readOrder_50 (lv_at hl 0 rfl) ?_
          refine lv_ishl hx hb dX8_readOrder_52 ?_
          refine lv_ior hx hb dX8_readOrder_53 ?_
          refine topI hm (fun v9 hm => ?_)
          refine lv_istore_n (lv' := [(3, .int v9), (6, .int v4), (0, .ref β), (4, .int u4), (5, .int u5)]) hx hb dX8_readOrder_54 rfl hl (by decide) rfl (fun ls hl => ?_)
          refine lv_aload_n hx hb dX8_readOrder_55 rfl (lv_at hl 2 rfl) ?_
          refine gX8_86 C hw dX8_readOrder_56 ?_
          refine lv_iload hx hb dX8_readOrder_59 (lv_at hl 4 rfl) ?_
          refine lv_iload hx hb dX8_readOrder_61 (lv_at hl 1 rfl) ?_
          obtain ⟨h10, hm⟩ := chk_e hm
          refine asX_23 C hw hS h10 dX8_readOrder_63 (fun H locs hw hS => ?_)
          obtain ⟨x11, ev, hm⟩ := lt_e hm
          rw [← ev] at hw
          clear ev
          refine lv_iload hx hb dX8_readOrder_64 (lv_at hl 3 rfl) ?_
          refine lv_bipush (v := 10) hx hb dX8_readOrder_66 (by decide) ?_
          refine lv_idiv hx hb dX8_readOrder_68 (by decide) ?_
          refine topI hm (fun v12 hm => ?_)
          refine lv_istore (lv' := [(4, .int v12), (3, .int v9), (6, .int v4), (0, .ref β), (5, .int u5)]) hx hb dX8_readOrder_69 hl (by decide) rfl (fun ls hl => ?_)
          obtain ⟨v13, ev, hm⟩ := lt_e hm
          refine lv_iinc (v := v13) (lv' := [(5, .int v13), (4, .int v12), (3, .int v9), (6, .int v4), (0, .ref β)]) hx hb dX8_readOrder_71 hl (k := 4) rfl (by rw [ev]; rfl) (by decide) rfl (fun ls hl => ?_)
          clear ev
          refine lv_goto (tgt := 15) hx hb dX8_readOrder_74 (by decide) ?_
          exact ih _ _ _ _ _ _ _ _ hm hw hS (lv_sub hl [4, 2, 1, 0] rfl) ke kr47
        · replace hm := ite_p cc hm
          refine lv_iconst (v := 0) hx hb dX8_readOrder_46 (by decide) ?_
          exact kr47 _ _ (Option.some.inj hm).symm _ _ _ hw hS
abbrev rmX8_readOrder : Room := { frames := 3, cells := 0, slots := 0, locals := 65 }
set_option maxHeartbeats 4000000 in
set_option maxRecDepth 100000 in
theorem kX8_readOrder {l : Launch} {G : xG} {β : Nat} {D : Nat → Prop} {x x' : XS} {a1 : Int32} {r : Int32} (hm : fX8_readOrder x a1 = some (r, x')) : Met l yX8_readOrder (.code yX8_readOrder cX8_readOrder 7 (some .int) :: GT) rmX8_readOrder (PcW [.ref β, .int a1] (CW β D G x) (KK G)) (QcW D (some (.int r)) (CW β D G x')) 0 0 D := by
  unfold fX8_readOrder at hm
  refine xpro (own := RX8) (by decide +kernel) rfl (Nat.le_of_ble_eq_true rfl) ?_
  intro p e s m args below meth c C hw ls hl
  have hx := C.1
  have hb := C.2.1
  have ho := C.2.2.2.1
  have hts := C.2.2.2.2.1
  have hS : va_S D s.heap s.heap [] := va_S.rf
  have hl : lv_has ls 7 [(0, .ref β), (1, .int a1)] := hl
  have hRf : 3 ≤ rmX8_readOrder.frames := Nat.le_refl _
  have hRl : 65 ≤ rmX8_readOrder.locals := Nat.le_refl _
  have hcs : 0 ≤ rmX8_readOrder.cells ∧ 0 ≤ rmX8_readOrder.slots := ⟨Nat.le_refl _, Nat.le_refl _⟩
  refine lv_iload_n hx hb dX8_readOrder_0 rfl (lv_at hl 1 rfl) ?_
  obtain ⟨v1, h2, hm⟩ := bind_e hm
  refine sX8_360 C h2 hw hS hl.1 (Nat.le_of_ble_eq_true rfl) (Nat.le_trans (Nat.le_of_ble_eq_true rfl) hRf) (Nat.le_trans (Nat.le_of_ble_eq_true rfl) hRl) hcs dX8_readOrder_1 (fun H locs hw hS => ?_)
  refine lv_istore_n (lv' := [(2, .int v1), (0, .ref β), (1, .int a1)]) hx hb dX8_readOrder_4 rfl hl (by decide) rfl (fun ls hl => ?_)
  refine lv_iconst (v := 0) hx hb dX8_readOrder_5 (by decide) ?_
  refine lv_istore_n (lv' := [(3, .int 0), (2, .int v1), (0, .ref β), (1, .int a1)]) hx hb dX8_readOrder_6 rfl hl (by decide) rfl (fun ls hl => ?_)
  refine lv_iload_n hx hb dX8_readOrder_7 rfl (lv_at hl 3 rfl) ?_
  refine lv_istore (lv' := [(4, .int a1), (3, .int 0), (2, .int v1), (0, .ref β), (1, .int a1)]) hx hb dX8_readOrder_8 hl (by decide) rfl (fun ls hl => ?_)
  refine lv_iload_n hx hb dX8_readOrder_10 rfl (lv_at hl 2 rfl) ?_
  refine lv_iconst (v := 1) hx hb dX8_readOrder_11 (by decide) ?_
  refine lv_isub hx hb dX8_readOrder_12 ?_
  refine topI hm (fun v3 hm => ?_)
  refine lv_istore (lv' := [(5, .int v3), (4, .int a1), (3, .int 0), (2, .int v1), (0, .ref β), (1, .int a1)]) hx hb dX8_readOrder_13 hl (by decide) rfl (fun ls hl => ?_)
  rcases bs_e hm with ⟨a, hj, hm⟩ | ⟨b, hj, hm⟩
  · refine lX8_readOrder_15 C hRf hRl hcs NF _ _ _ _ _ _ _ _ hj hw hS (lv_sub hl [4, 2, 1, 0] rfl) (fun _ _ e0 => by cases e0) (fun rv x1 e0 H locs ls hw hS => ?_)
    · cases e0
      obtain ⟨rfl, rfl⟩ := inj2 hm
      exact xret_i C hw hS dX8_readOrder_47
  · obtain ⟨v14, x15, e1, hm⟩ := bind2_e hm
    cases e1
    refine lX8_readOrder_15 C hRf hRl hcs NF _ _ _ _ _ _ _ _ hj hw hS (lv_sub hl [4, 2, 1, 0] rfl) (fun v14_ x15_ e0 H locs ls hw hS hl => ?_) (fun _ _ e0 => by cases e0)
    cases e0
    refine lv_iload_n hx hb dX8_readOrder_77 rfl (lv_at hl 0 rfl) ?_
    obtain ⟨rfl, rfl⟩ := inj2 hm
    exact xret_i C hw hS dX8_readOrder_78
theorem dX8_comes_0 : decode cX8_comes 0 = .ok (.aload_n 0, 1) := by decide +kernel
theorem dX8_comes_1 : decode cX8_comes 1 = .ok (.iload_n 1, 1) := by decide +kernel
theorem dX8_comes_2 : decode cX8_comes 2 = .ok (.invokevirtual 187, 3) := by decide +kernel
theorem dX8_comes_5 : decode cX8_comes 5 = .ok (.ifCond .eq 27, 3) := by decide +kernel
theorem dX8_comes_8 : decode cX8_comes 8 = .ok (.iload_n 2, 1) := by decide +kernel
theorem dX8_comes_9 : decode cX8_comes 9 = .ok (.invokestatic 190, 3) := by decide +kernel
theorem dX8_comes_12 : decode cX8_comes 12 = .ok (.ifCond .eq 20, 3) := by decide +kernel
theorem dX8_comes_15 : decode cX8_comes 15 = .ok (.aload_n 0, 1) := by decide +kernel
theorem dX8_comes_16 : decode cX8_comes 16 = .ok (.iload_n 3, 1) := by decide +kernel
theorem dX8_comes_17 : decode cX8_comes 17 = .ok (.invokevirtual 214, 3) := by decide +kernel
theorem dX8_comes_20 : decode cX8_comes 20 = .ok (.iload_n 1, 1) := by decide +kernel
theorem dX8_comes_21 : decode cX8_comes 21 = .ok (.if_icmp .ne 11, 3) := by decide +kernel
theorem dX8_comes_24 : decode cX8_comes 24 = .ok (.iload 4, 2) := by decide +kernel
theorem dX8_comes_26 : decode cX8_comes 26 = .ok (.invokestatic 197, 3) := by decide +kernel
theorem dX8_comes_29 : decode cX8_comes 29 = .ok (.ifCond .ne 7, 3) := by decide +kernel
theorem dX8_comes_32 : decode cX8_comes 32 = .ok (.ldc2_w 157, 3) := by decide +kernel
theorem dX8_comes_35 : decode cX8_comes 35 = .ok (.lreturn, 1) := by decide +kernel
theorem dX8_comes_36 : decode cX8_comes 36 = .ok (.aload_n 0, 1) := by decide +kernel
theorem dX8_comes_37 : decode cX8_comes 37 = .ok (.iload_n 1, 1) := by decide +kernel
theorem dX8_comes_38 : decode cX8_comes 38 = .ok (.iload_n 2, 1) := by decide +kernel
theorem dX8_comes_39 : decode cX8_comes 39 = .ok (.invokevirtual 200, 3) := by decide +kernel
theorem dX8_comes_42 : decode cX8_comes 42 = .ok (.aload_n 0, 1) := by decide +kernel
theorem dX8_comes_43 : decode cX8_comes 43 = .ok (.getfield 79, 3) := by decide +kernel
theorem dX8_comes_46 : decode cX8_comes 46 = .ok (.aload_n 0, 1) := by decide +kernel
theorem dX8_comes_47 : decode cX8_comes 47 = .ok (.getfield 86, 3) := by decide +kernel
theorem dX8_comes_50 : decode cX8_comes 50 = .ok (.invokevirtual 217, 3) := by decide +kernel
theorem dX8_comes_53 : decode cX8_comes 53 = .ok (.aload_n 0, 1) := by decide +kernel
theorem dX8_comes_54 : decode cX8_comes 54 = .ok (.getfield 79, 3) := by decide +kernel
theorem dX8_comes_57 : decode cX8_comes 57 = .ok (.invokevirtual 207, 3) := by decide +kernel
theorem dX8_comes_60 : decode cX8_comes 60 = .ok (.iload 4, 2) := by decide +kernel
theorem dX8_comes_62 : decode cX8_comes 62 = .ok (.invokestatic 210, 3) := by decide +kernel
theorem dX8_comes_65 : decode cX8_comes 65 = .ok (.lreturn, 1) := by decide +kernel
theorem sX8_214 {p : Program} {l : Launch} {e : Env} {R : Room} {s : State} {m : MethodId} {args : Array Value} {below : List Frame} {meth : Method} {c : Code} {H : Heap} {locs : List Loc} {cells slots : Nat} {Q : State → Prop} {cc : ByteArray} {pc nL : Nat} {ls : Array Slot} {rest : List Value} {ret : Option FieldType}  {G : xG} {β : Nat} {D : Nat → Prop} {x x' : XS} {a1 : Int32} {r : Int32} (C : Cx p s m args meth c RX8 cc nL ret (KK G)) (h : fX8_readOrder x a1 = some (r, x')) (hw : CW β D G x H) (hS : va_S D s.heap H locs) (hsz : ls.size = nL) (hW : (rest.map fun v => v.category).sum ≤ 8) (hR : 4 ≤ R.frames) (hR2 : 91 ≤ R.locals) (hcs : cells ≤ R.cells ∧ slots ≤ R.slots) (hd : decode cc pc = .ok (.invokevirtual 214, 3)) (kk : ∀ (H1 : Heap) (locs1 : List Loc), CW β D G x' H1 → va_S D s.heap H1 locs1 → W p l e R s m args below meth c H1 locs1 cells slots Q (F0 m (pc + 3) ls (.int r :: rest))) : W p l e R s m args below meth c H locs cells slots Q (F0 m pc ls (.int a1 :: .ref β :: rest)) := by
  exact xcallV C (As := [.int a1]) (rest := rest) (nA := 1) (ci := 8) (kX8_readOrder h) (tg 639 (by decide +kernel) rfl) (tg 641 (by decide +kernel) rfl) (sg (List.mem_of_getElem? (i := 37) (by decide +kernel)) rfl) (tg 1 (by decide +kernel) rfl) (tg 642 (by decide +kernel) rfl) ⟨rfl, by decide +kernel, by decide +kernel, by decide +kernel⟩ rfl rfl rfl ⟨hR, hR2⟩ (hw.2.2.1 0 (by decide)) hw hS (fun _ q => q) rfl rfl hsz hW hd hcs (fun H1 locs1 hw hz hk hS => kk H1 locs1 hw hS)
theorem sX8_217 {p : Program} {l : Launch} {e : Env} {R : Room} {s : State} {m : MethodId} {args : Array Value} {below : List Frame} {meth : Method} {c : Code} {H : Heap} {locs : List Loc} {cells slots : Nat} {Q : State → Prop} {cc : ByteArray} {pc nL : Nat} {ls : Array Slot} {rest : List Value} {ret : Option FieldType}  {G : xG} {β : Nat} {D : Nat → Prop} {x x' : XS} {r : Int32} (C : Cx p s m args meth c RX8 cc nL ret (KK G)) (h : fX0_casesInOrder x = some (r, x')) (hw : CW β D G x H) (hS : va_S D s.heap H locs) (hsz : ls.size = nL) (hW : (rest.map fun v => v.category).sum ≤ 8) (hR : 3 ≤ R.frames) (hR2 : 88 ≤ R.locals) (hcs : cells ≤ R.cells ∧ slots ≤ R.slots) (hd : decode cc pc = .ok (.invokevirtual 217, 3)) (kk : ∀ (H1 : Heap) (locs1 : List Loc), CW β D G x' H1 → va_S D s.heap H1 locs1 → W p l e R s m args below meth c H1 locs1 cells slots Q (F0 m (pc + 3) ls (.int r :: rest))) : W p l e R s m args below meth c H locs cells slots Q (F0 m pc ls (.ref (β + 23) :: .ref (β + 16) :: rest)) := by
  exact xcallV C (As := [.ref (β + 23)]) (rest := rest) (nA := 1) (ci := 0) (kX0_casesInOrder h) (tg 646 (by decide +kernel) rfl) (tg 647 (by decide +kernel) rfl) (tg 648 (by decide +kernel) rfl) (tg 5 (by decide +kernel) rfl) (tg 649 (by decide +kernel) rfl) ⟨rfl, by decide +kernel, by decide +kernel, by decide +kernel⟩ rfl rfl rfl ⟨hR, hR2⟩ (hw.2.2.1 16 (by decide)) hw hS (fun _ q => q) rfl rfl hsz hW hd hcs (fun H1 locs1 hw hz hk hS => kk H1 locs1 hw hS)
def fX8_comes (x : XS) (a1 : Int32) (a2 : Int32) (a3 : Int32) (a4 : Int32) : Option (Int64 × XS) := Option.bind (fX8_isField x a1) fun v1 => if v1 = true then Option.bind (fX8_isWhen a2) fun v3 => if v3 = true then bind2 (fX8_readOrder x a3) fun v5 x6 => if v5 = a1 then Option.bind (fX8_isPart a4) fun v8 => if v8 = true then Option.bind (fX8_enter x6 a1 a2) fun x10 => bind2 (fX0_casesInOrder x10) fun v12 x13 => Option.bind (fX0_cases x13) fun v15 => Option.bind (fX8_inLowestTerms v12 v15 a4) fun v17 => some (v17, x13) else some ((-4611686018427387904), x6) else some ((-4611686018427387904), x6) else some ((-4611686018427387904), x) else some ((-4611686018427387904), x)
abbrev rmX8_comes : Room := { frames := 7, cells := 0, slots := 0, locals := 157 }
set_option maxHeartbeats 4000000 in
set_option maxRecDepth 100000 in
theorem kX8_comes {l : Launch} {G : xG} {β : Nat} {D : Nat → Prop} {x x' : XS} {a1 : Int32} {a2 : Int32} {a3 : Int32} {a4 : Int32} {r : Int64} (hm : fX8_comes x a1 a2 a3 a4 = some (r, x')) : Met l yX8_comes (.code yX8_comes cX8_comes 5 (some .long) :: GT) rmX8_comes (PcW [.ref β, .int a1, .int a2, .int a3, .int a4] (CW β D G x) (KK G)) (QcW D (some (.long r)) (CW β D G x')) 0 0 D := by
  unfold fX8_comes at hm
  refine xpro (own := RX8) (by decide +kernel) rfl (Nat.le_of_ble_eq_true rfl) ?_
  intro p e s m args below meth c C hw ls hl
  have hx := C.1
  have hb := C.2.1
  have ho := C.2.2.2.1
  have hts := C.2.2.2.2.1
  have hS : va_S D s.heap s.heap [] := va_S.rf
  have hl : lv_has ls 5 [(0, .ref β), (1, .int a1), (2, .int a2), (3, .int a3), (4, .int a4)] := hl
  have hRf : 7 ≤ rmX8_comes.frames := Nat.le_refl _
  have hRl : 157 ≤ rmX8_comes.locals := Nat.le_refl _
  have hcs : 0 ≤ rmX8_comes.cells ∧ 0 ≤ rmX8_comes.slots := ⟨Nat.le_refl _, Nat.le_refl _⟩
  refine lv_aload_n hx hb dX8_comes_0 rfl (lv_at hl 0 rfl) ?_
  refine lv_iload_n hx hb dX8_comes_1 rfl (lv_at hl 1 rfl) ?_
  obtain ⟨v1, h2, hm⟩ := bind_e hm
  refine sX8_187 C h2 hw hS hl.1 (Nat.le_of_ble_eq_true rfl) (Nat.le_trans (Nat.le_of_ble_eq_true rfl) hRf) (Nat.le_trans (Nat.le_of_ble_eq_true rfl) hRl) hcs dX8_comes_2 (fun H locs hw hS => ?_)
  refine x_ifeqB hx hb dX8_comes_5 (tgt := 32) (by decide) (fun cc => ?_) (fun cc => ?_)
  · replace hm := ite_n cc hm
    refine lv_ldc2 (v := (-4611686018427387904)) hx hb ho (hts (.constantLong RX8 157 (-4611686018427387904)) (tg 476 (by decide +kernel) rfl)) dX8_comes_32 ?_
    obtain ⟨rfl, rfl⟩ := inj2 hm
    exact xret_l C hw hS dX8_comes_35
  · replace hm := ite_p cc hm
    refine lv_iload_n hx hb dX8_comes_8 rfl (lv_at hl 2 rfl) ?_
    obtain ⟨v3, h4, hm⟩ := bind_e hm
    refine sX8_190 C h4 hw hS hl.1 (Nat.le_of_ble_eq_true rfl) (Nat.le_trans (Nat.le_of_ble_eq_true rfl) hRf) (Nat.le_trans (Nat.le_of_ble_eq_true rfl) hRl) hcs dX8_comes_9 (fun H locs hw hS => ?_)
    refine x_ifeqB hx hb dX8_comes_12 (tgt := 32) (by decide) (fun cc => ?_) (fun cc => ?_)
    · replace hm := ite_n cc hm
      refine lv_ldc2 (v := (-4611686018427387904)) hx hb ho (hts (.constantLong RX8 157 (-4611686018427387904)) (tg 476 (by decide +kernel) rfl)) dX8_comes_32 ?_
      obtain ⟨rfl, rfl⟩ := inj2 hm
      exact xret_l C hw hS dX8_comes_35
    · replace hm := ite_p cc hm
      refine lv_aload_n hx hb dX8_comes_15 rfl (lv_at hl 0 rfl) ?_
      refine lv_iload_n hx hb dX8_comes_16 rfl (lv_at hl 3 rfl) ?_
      obtain ⟨v5, x6, h7, hm⟩ := bind2_e hm
      refine sX8_214 C h7 hw hS hl.1 (Nat.le_of_ble_eq_true rfl) (Nat.le_trans (Nat.le_of_ble_eq_true rfl) hRf) (Nat.le_trans (Nat.le_of_ble_eq_true rfl) hRl) hcs dX8_comes_17 (fun H locs hw hS => ?_)
      refine lv_iload_n hx hb dX8_comes_20 rfl (lv_at hl 1 rfl) ?_
      refine lv_icmp_ne (tgt := 32) hx hb dX8_comes_21 (by decide) (fun cc => ?_) (fun cc => ?_)
      · replace hm := ite_n cc hm
        refine lv_ldc2 (v := (-4611686018427387904)) hx hb ho (hts (.constantLong RX8 157 (-4611686018427387904)) (tg 476 (by decide +kernel) rfl)) dX8_comes_32 ?_
        obtain ⟨rfl, rfl⟩ := inj2 hm
        exact xret_l C hw hS dX8_comes_35
      · replace hm := ite_p cc hm
        refine lv_iload hx hb dX8_comes_24 (lv_at hl 4 rfl) ?_
        obtain ⟨v8, h9, hm⟩ := bind_e hm
        refine sX8_197 C h9 hw hS hl.1 (Nat.le_of_ble_eq_true rfl) (Nat.le_trans (Nat.le_of_ble_eq_true rfl) hRf) (Nat.le_trans (Nat.le_of_ble_eq_true rfl) hRl) hcs dX8_comes_26 (fun H locs hw hS => ?_)
        refine x_ifneB hx hb dX8_comes_29 (tgt := 36) (by decide) (fun cc => ?_) (fun cc => ?_)
        · replace hm := ite_p cc hm
          refine lv_aload_n hx hb dX8_comes_36 rfl (lv_at hl 0 rfl) ?_
          refine lv_iload_n hx hb dX8_comes_37 rfl (lv_at hl 1 rfl) ?_
          refine lv_iload_n hx hb dX8_comes_38 rfl (lv_at hl 2 rfl) ?_
          obtain ⟨x10, h11, hm⟩ := bind_e hm
          refine sX8_200 C h11 hw hS hl.1 (Nat.le_of_ble_eq_true rfl) (Nat.le_trans (Nat.le_of_ble_eq_true rfl) hRf) (Nat.le_trans (Nat.le_of_ble_eq_true rfl) hRl) hcs dX8_comes_39 (fun H locs hw hS => ?_)
          refine lv_aload_n hx hb dX8_comes_42 rfl (lv_at hl 0 rfl) ?_
          refine gX8_79 C hw dX8_comes_43 ?_
          refine lv_aload_n hx hb dX8_comes_46 rfl (lv_at hl 0 rfl) ?_
          refine gX8_86 C hw dX8_comes_47 ?_
          obtain ⟨v12, x13, h14, hm⟩ := bind2_e hm
          refine sX8_217 C h14 hw hS hl.1 (Nat.le_of_ble_eq_true rfl) (Nat.le_trans (Nat.le_of_ble_eq_true rfl) hRf) (Nat.le_trans (Nat.le_of_ble_eq_true rfl) hRl) hcs dX8_comes_50 (fun H locs hw hS => ?_)
          refine lv_aload_n hx hb dX8_comes_53 rfl (lv_at hl 0 rfl) ?_
          refine gX8_79 C hw dX8_comes_54 ?_
          obtain ⟨v15, h16, hm⟩ := bind_e hm
          refine sX8_207 C h16 hw hS hl.1 (Nat.le_of_ble_eq_true rfl) (Nat.le_trans (Nat.le_of_ble_eq_true rfl) hRf) (Nat.le_trans (Nat.le_of_ble_eq_true rfl) hRl) hcs dX8_comes_57 (fun H locs hw hS => ?_)
          refine lv_iload hx hb dX8_comes_60 (lv_at hl 4 rfl) ?_
          obtain ⟨v17, h18, hm⟩ := bind_e hm
          refine sX8_210 C h18 hw hS hl.1 (Nat.le_of_ble_eq_true rfl) (Nat.le_trans (Nat.le_of_ble_eq_true rfl) hRf) (Nat.le_trans (Nat.le_of_ble_eq_true rfl) hRl) hcs dX8_comes_62 (fun H locs hw hS => ?_)
          obtain ⟨rfl, rfl⟩ := inj2 hm
          exact xret_l C hw hS dX8_comes_65
        · replace hm := ite_n cc hm
          refine lv_ldc2 (v := (-4611686018427387904)) hx hb ho (hts (.constantLong RX8 157 (-4611686018427387904)) (tg 476 (by decide +kernel) rfl)) dX8_comes_32 ?_
          obtain ⟨rfl, rfl⟩ := inj2 hm
          exact xret_l C hw hS dX8_comes_35
theorem dX8_worse_0 : decode cX8_worse 0 = .ok (.aload_n 0, 1) := by decide +kernel
theorem dX8_worse_1 : decode cX8_worse 1 = .ok (.iload_n 1, 1) := by decide +kernel
theorem dX8_worse_2 : decode cX8_worse 2 = .ok (.invokevirtual 187, 3) := by decide +kernel
theorem dX8_worse_5 : decode cX8_worse 5 = .ok (.ifCond .eq 37, 3) := by decide +kernel
theorem dX8_worse_8 : decode cX8_worse 8 = .ok (.iload_n 2, 1) := by decide +kernel
theorem dX8_worse_9 : decode cX8_worse 9 = .ok (.invokestatic 190, 3) := by decide +kernel
theorem dX8_worse_12 : decode cX8_worse 12 = .ok (.ifCond .eq 30, 3) := by decide +kernel
theorem dX8_worse_15 : decode cX8_worse 15 = .ok (.aload_n 0, 1) := by decide +kernel
theorem dX8_worse_16 : decode cX8_worse 16 = .ok (.iload_n 1, 1) := by decide +kernel
theorem dX8_worse_17 : decode cX8_worse 17 = .ok (.iload_n 3, 1) := by decide +kernel
theorem dX8_worse_18 : decode cX8_worse 18 = .ok (.invokevirtual 193, 3) := by decide +kernel
theorem dX8_worse_21 : decode cX8_worse 21 = .ok (.ifCond .eq 21, 3) := by decide +kernel
theorem dX8_worse_24 : decode cX8_worse 24 = .ok (.iload 4, 2) := by decide +kernel
theorem dX8_worse_26 : decode cX8_worse 26 = .ok (.iconst 1, 1) := by decide +kernel
theorem dX8_worse_27 : decode cX8_worse 27 = .ok (.iconst 4, 1) := by decide +kernel
theorem dX8_worse_28 : decode cX8_worse 28 = .ok (.invokestatic 138, 3) := by decide +kernel
theorem dX8_worse_31 : decode cX8_worse 31 = .ok (.ifCond .eq 11, 3) := by decide +kernel
theorem dX8_worse_34 : decode cX8_worse 34 = .ok (.iload 5, 2) := by decide +kernel
theorem dX8_worse_36 : decode cX8_worse 36 = .ok (.invokestatic 197, 3) := by decide +kernel
theorem dX8_worse_39 : decode cX8_worse 39 = .ok (.ifCond .ne 7, 3) := by decide +kernel
theorem dX8_worse_42 : decode cX8_worse 42 = .ok (.ldc2_w 157, 3) := by decide +kernel
theorem dX8_worse_45 : decode cX8_worse 45 = .ok (.lreturn, 1) := by decide +kernel
theorem dX8_worse_46 : decode cX8_worse 46 = .ok (.aload_n 0, 1) := by decide +kernel
theorem dX8_worse_47 : decode cX8_worse 47 = .ok (.iload_n 1, 1) := by decide +kernel
theorem dX8_worse_48 : decode cX8_worse 48 = .ok (.iload_n 2, 1) := by decide +kernel
theorem dX8_worse_49 : decode cX8_worse 49 = .ok (.invokevirtual 200, 3) := by decide +kernel
theorem dX8_worse_52 : decode cX8_worse 52 = .ok (.aload_n 0, 1) := by decide +kernel
theorem dX8_worse_53 : decode cX8_worse 53 = .ok (.getfield 79, 3) := by decide +kernel
theorem dX8_worse_56 : decode cX8_worse 56 = .ok (.iload_n 3, 1) := by decide +kernel
theorem dX8_worse_57 : decode cX8_worse 57 = .ok (.iload 4, 2) := by decide +kernel
theorem dX8_worse_59 : decode cX8_worse 59 = .ok (.invokevirtual 221, 3) := by decide +kernel
theorem dX8_worse_62 : decode cX8_worse 62 = .ok (.aload_n 0, 1) := by decide +kernel
theorem dX8_worse_63 : decode cX8_worse 63 = .ok (.getfield 79, 3) := by decide +kernel
theorem dX8_worse_66 : decode cX8_worse 66 = .ok (.invokevirtual 207, 3) := by decide +kernel
theorem dX8_worse_69 : decode cX8_worse 69 = .ok (.iload 5, 2) := by decide +kernel
theorem dX8_worse_71 : decode cX8_worse 71 = .ok (.invokestatic 210, 3) := by decide +kernel
theorem dX8_worse_74 : decode cX8_worse 74 = .ok (.lreturn, 1) := by decide +kernel
theorem sX8_221 {p : Program} {l : Launch} {e : Env} {R : Room} {s : State} {m : MethodId} {args : Array Value} {below : List Frame} {meth : Method} {c : Code} {H : Heap} {locs : List Loc} {cells slots : Nat} {Q : State → Prop} {cc : ByteArray} {pc nL : Nat} {ls : Array Slot} {rest : List Value} {ret : Option FieldType}  {G : xG} {β : Nat} {D : Nat → Prop} {x x' : XS} {a1 : Int32} {a2 : Int32} {r : Int32} (C : Cx p s m args meth c RX8 cc nL ret (KK G)) (h : fX0_casesBehind x a1 a2 = some (r, x')) (hw : CW β D G x H) (hS : va_S D s.heap H locs) (hsz : ls.size = nL) (hW : (rest.map fun v => v.category).sum ≤ 8) (hR : 4 ≤ R.frames) (hR2 : 94 ≤ R.locals) (hcs : cells ≤ R.cells ∧ slots ≤ R.slots) (hd : decode cc pc = .ok (.invokevirtual 221, 3)) (kk : ∀ (H1 : Heap) (locs1 : List Loc), CW β D G x' H1 → va_S D s.heap H1 locs1 → W p l e R s m args below meth c H1 locs1 cells slots Q (F0 m (pc + 3) ls (.int r :: rest))) : W p l e R s m args below meth c H locs cells slots Q (F0 m pc ls (.int a2 :: .int a1 :: .ref (β + 16) :: rest)) := by
  exact xcallV C (As := [.int a1, .int a2]) (rest := rest) (nA := 2) (ci := 0) (kX0_casesBehind h) (tg 661 (by decide +kernel) rfl) (tg 662 (by decide +kernel) rfl) (tg 663 (by decide +kernel) rfl) (tg 5 (by decide +kernel) rfl) (tg 664 (by decide +kernel) rfl) ⟨rfl, by decide +kernel, by decide +kernel, by decide +kernel⟩ rfl rfl rfl ⟨hR, hR2⟩ (hw.2.2.1 16 (by decide)) hw hS (fun _ q => q) rfl rfl hsz hW hd hcs (fun H1 locs1 hw hz hk hS => kk H1 locs1 hw hS)
def fX8_worse (x : XS) (a1 : Int32) (a2 : Int32) (a3 : Int32) (a4 : Int32) (a5 : Int32) : Option (Int64 × XS) := Option.bind (fX8_isField x a1) fun v1 => if v1 = true then Option.bind (fX8_isWhen a2) fun v3 => if v3 = true then Option.bind (fX8_isIn x a1 a3) fun v5 => if v5 = true then Option.bind (fX8_isWithin a4 1 4) fun v7 => if v7 = true then Option.bind (fX8_isPart a5) fun v9 => if v9 = true then Option.bind (fX8_enter x a1 a2) fun x11 => bind2 (fX0_casesBehind x11 a3 a4) fun v13 x14 => Option.bind (fX0_cases x14) fun v16 => Option.bind (fX8_inLowestTerms v13 v16 a5) fun v18 => some (v18, x14) else some ((-4611686018427387904), x) else some ((-4611686018427387904), x) else some ((-4611686018427387904), x) else some ((-4611686018427387904), x) else some ((-4611686018427387904), x)
abbrev rmX8_worse : Room := { frames := 7, cells := 0, slots := 0, locals := 157 }
set_option maxHeartbeats 4000000 in
set_option maxRecDepth 100000 in
theorem kX8_worse {l : Launch} {G : xG} {β : Nat} {D : Nat → Prop} {x x' : XS} {a1 : Int32} {a2 : Int32} {a3 : Int32} {a4 : Int32} {a5 : Int32} {r : Int64} (hm : fX8_worse x a1 a2 a3 a4 a5 = some (r, x')) : Met l yX8_worse (.code yX8_worse cX8_worse 6 (some .long) :: GT) rmX8_worse (PcW [.ref β, .int a1, .int a2, .int a3, .int a4, .int a5] (CW β D G x) (KK G)) (QcW D (some (.long r)) (CW β D G x')) 0 0 D := by
  unfold fX8_worse at hm
  refine xpro (own := RX8) (by decide +kernel) rfl (Nat.le_of_ble_eq_true rfl) ?_
  intro p e s m args below meth c C hw ls hl
  have hx := C.1
  have hb := C.2.1
  have ho := C.2.2.2.1
  have hts := C.2.2.2.2.1
  have hS : va_S D s.heap s.heap [] := va_S.rf
  have hl : lv_has ls 6 [(0, .ref β), (1, .int a1), (2, .int a2), (3, .int a3), (4, .int a4), (5, .int a5)] := hl
  have hRf : 7 ≤ rmX8_worse.frames := Nat.le_refl _
  have hRl : 157 ≤ rmX8_worse.locals := Nat.le_refl _
  have hcs : 0 ≤ rmX8_worse.cells ∧ 0 ≤ rmX8_worse.slots := ⟨Nat.le_refl _, Nat.le_refl _⟩
  refine lv_aload_n hx hb dX8_worse_0 rfl (lv_at hl 0 rfl) ?_
  refine lv_iload_n hx hb dX8_worse_1 rfl (lv_at hl 1 rfl) ?_
  obtain ⟨v1, h2, hm⟩ := bind_e hm
  refine sX8_187 C h2 hw hS hl.1 (Nat.le_of_ble_eq_true rfl) (Nat.le_trans (Nat.le_of_ble_eq_true rfl) hRf) (Nat.le_trans (Nat.le_of_ble_eq_true rfl) hRl) hcs dX8_worse_2 (fun H locs hw hS => ?_)
  refine x_ifeqB hx hb dX8_worse_5 (tgt := 42) (by decide) (fun cc => ?_) (fun cc => ?_)
  · replace hm := ite_n cc hm
    refine lv_ldc2 (v := (-4611686018427387904)) hx hb ho (hts (.constantLong RX8 157 (-4611686018427387904)) (tg 476 (by decide +kernel) rfl)) dX8_worse_42 ?_
    obtain ⟨rfl, rfl⟩ := inj2 hm
    exact xret_l C hw hS dX8_worse_45
  · replace hm := ite_p cc hm
    refine lv_iload_n hx hb dX8_worse_8 rfl (lv_at hl 2 rfl) ?_
    obtain ⟨v3, h4, hm⟩ := bind_e hm
    refine sX8_190 C h4 hw hS hl.1 (Nat.le_of_ble_eq_true rfl) (Nat.le_trans (Nat.le_of_ble_eq_true rfl) hRf) (Nat.le_trans (Nat.le_of_ble_eq_true rfl) hRl) hcs dX8_worse_9 (fun H locs hw hS => ?_)
    refine x_ifeqB hx hb dX8_worse_12 (tgt := 42) (by decide) (fun cc => ?_) (fun cc => ?_)
    · replace hm := ite_n cc hm
      refine lv_ldc2 (v := (-4611686018427387904)) hx hb ho (hts (.constantLong RX8 157 (-4611686018427387904)) (tg 476 (by decide +kernel) rfl)) dX8_worse_42 ?_
      obtain ⟨rfl, rfl⟩ := inj2 hm
      exact xret_l C hw hS dX8_worse_45
    · replace hm := ite_p cc hm
      refine lv_aload_n hx hb dX8_worse_15 rfl (lv_at hl 0 rfl) ?_
      refine lv_iload_n hx hb dX8_worse_16 rfl (lv_at hl 1 rfl) ?_
      refine lv_iload_n hx hb dX8_worse_17 rfl (lv_at hl 3 rfl) ?_
      obtain ⟨v5, h6, hm⟩ := bind_e hm
      refine sX8_193 C h6 hw hS hl.1 (Nat.le_of_ble_eq_true rfl) (Nat.le_trans (Nat.le_of_ble_eq_true rfl) hRf) (Nat.le_trans (Nat.le_of_ble_eq_true rfl) hRl) hcs dX8_worse_18 (fun H locs hw hS => ?_)
      refine x_ifeqB hx hb dX8_worse_21 (tgt := 42) (by decide) (fun cc => ?_) (fun cc => ?_)
      · replace hm := ite_n cc hm
        refine lv_ldc2 (v := (-4611686018427387904)) hx hb ho (hts (.constantLong RX8 157 (-4611686018427387904)) (tg 476 (by decide +kernel) rfl)) dX8_worse_42 ?_
        obtain ⟨rfl, rfl⟩ := inj2 hm
        exact xret_l C hw hS dX8_worse_45
      · replace hm := ite_p cc hm
        refine lv_iload hx hb dX8_worse_24 (lv_at hl 4 rfl) ?_
        refine lv_iconst (v := 1) hx hb dX8_worse_26 (by decide) ?_
        refine lv_iconst (v := 4) hx hb dX8_worse_27 (by decide) ?_
        obtain ⟨v7, h8, hm⟩ := bind_e hm
        refine sX8_138 C h8 hw hS hl.1 (Nat.le_of_ble_eq_true rfl) (Nat.le_trans (Nat.le_of_ble_eq_true rfl) hRf) (Nat.le_trans (Nat.le_of_ble_eq_true rfl) hRl) hcs dX8_worse_28 (fun H locs hw hS => ?_)
        refine x_ifeqB hx hb dX8_worse_31 (tgt := 42) (by decide) (fun cc => ?_) (fun cc => ?_)
        · replace hm := ite_n cc hm
          refine lv_ldc2 (v := (-4611686018427387904)) hx hb ho (hts (.constantLong RX8 157 (-4611686018427387904)) (tg 476 (by decide +kernel) rfl)) dX8_worse_42 ?_
          obtain ⟨rfl, rfl⟩ := inj2 hm
          exact xret_l C hw hS dX8_worse_45
        · replace hm := ite_p cc hm
          refine lv_iload hx hb dX8_worse_34 (lv_at hl 5 rfl) ?_
          obtain ⟨v9, h10, hm⟩ := bind_e hm
          refine sX8_197 C h10 hw hS hl.1 (Nat.le_of_ble_eq_true rfl) (Nat.le_trans (Nat.le_of_ble_eq_true rfl) hRf) (Nat.le_trans (Nat.le_of_ble_eq_true rfl) hRl) hcs dX8_worse_36 (fun H locs hw hS => ?_)
          refine x_ifneB hx hb dX8_worse_39 (tgt := 46) (by decide) (fun cc => ?_) (fun cc => ?_)
          · replace hm := ite_p cc hm
            refine lv_aload_n hx hb dX8_worse_46 rfl (lv_at hl 0 rfl) ?_
            refine lv_iload_n hx hb dX8_worse_47 rfl (lv_at hl 1 rfl) ?_
            refine lv_iload_n hx hb dX8_worse_48 rfl (lv_at hl 2 rfl) ?_
            obtain ⟨x11, h12, hm⟩ := bind_e hm
            refine sX8_200 C h12 hw hS hl.1 (Nat.le_of_ble_eq_true rfl) (Nat.le_trans (Nat.le_of_ble_eq_true rfl) hRf) (Nat.le_trans (Nat.le_of_ble_eq_true rfl) hRl) hcs dX8_worse_49 (fun H locs hw hS => ?_)
            refine lv_aload_n hx hb dX8_worse_52 rfl (lv_at hl 0 rfl) ?_
            refine gX8_79 C hw dX8_worse_53 ?_
            refine lv_iload_n hx hb dX8_worse_56 rfl (lv_at hl 3 rfl) ?_
            refine lv_iload hx hb dX8_worse_57 (lv_at hl 4 rfl) ?_
            obtain ⟨v13, x14, h15, hm⟩ := bind2_e hm
            refine sX8_221 C h15 hw hS hl.1 (Nat.le_of_ble_eq_true rfl) (Nat.le_trans (Nat.le_of_ble_eq_true rfl) hRf) (Nat.le_trans (Nat.le_of_ble_eq_true rfl) hRl) hcs dX8_worse_59 (fun H locs hw hS => ?_)
            refine lv_aload_n hx hb dX8_worse_62 rfl (lv_at hl 0 rfl) ?_
            refine gX8_79 C hw dX8_worse_63 ?_
            obtain ⟨v16, h17, hm⟩ := bind_e hm
            refine sX8_207 C h17 hw hS hl.1 (Nat.le_of_ble_eq_true rfl) (Nat.le_trans (Nat.le_of_ble_eq_true rfl) hRf) (Nat.le_trans (Nat.le_of_ble_eq_true rfl) hRl) hcs dX8_worse_66 (fun H locs hw hS => ?_)
            refine lv_iload hx hb dX8_worse_69 (lv_at hl 5 rfl) ?_
            obtain ⟨v18, h19, hm⟩ := bind_e hm
            refine sX8_210 C h19 hw hS hl.1 (Nat.le_of_ble_eq_true rfl) (Nat.le_trans (Nat.le_of_ble_eq_true rfl) hRf) (Nat.le_trans (Nat.le_of_ble_eq_true rfl) hRl) hcs dX8_worse_71 (fun H locs hw hS => ?_)
            obtain ⟨rfl, rfl⟩ := inj2 hm
            exact xret_l C hw hS dX8_worse_74
          · replace hm := ite_n cc hm
            refine lv_ldc2 (v := (-4611686018427387904)) hx hb ho (hts (.constantLong RX8 157 (-4611686018427387904)) (tg 476 (by decide +kernel) rfl)) dX8_worse_42 ?_
            obtain ⟨rfl, rfl⟩ := inj2 hm
            exact xret_l C hw hS dX8_worse_45
theorem dX8_even_0 : decode cX8_even 0 = .ok (.aload_n 0, 1) := by decide +kernel
theorem dX8_even_1 : decode cX8_even 1 = .ok (.iload_n 1, 1) := by decide +kernel
theorem dX8_even_2 : decode cX8_even 2 = .ok (.invokevirtual 187, 3) := by decide +kernel
theorem dX8_even_5 : decode cX8_even 5 = .ok (.ifCond .eq 17, 3) := by decide +kernel
theorem dX8_even_8 : decode cX8_even 8 = .ok (.iload_n 2, 1) := by decide +kernel
theorem dX8_even_9 : decode cX8_even 9 = .ok (.invokestatic 190, 3) := by decide +kernel
theorem dX8_even_12 : decode cX8_even 12 = .ok (.ifCond .eq 10, 3) := by decide +kernel
theorem dX8_even_15 : decode cX8_even 15 = .ok (.iload_n 3, 1) := by decide +kernel
theorem dX8_even_16 : decode cX8_even 16 = .ok (.invokestatic 197, 3) := by decide +kernel
theorem dX8_even_19 : decode cX8_even 19 = .ok (.ifCond .ne 7, 3) := by decide +kernel
theorem dX8_even_22 : decode cX8_even 22 = .ok (.ldc2_w 157, 3) := by decide +kernel
theorem dX8_even_25 : decode cX8_even 25 = .ok (.lreturn, 1) := by decide +kernel
theorem dX8_even_26 : decode cX8_even 26 = .ok (.aload_n 0, 1) := by decide +kernel
theorem dX8_even_27 : decode cX8_even 27 = .ok (.iload_n 1, 1) := by decide +kernel
theorem dX8_even_28 : decode cX8_even 28 = .ok (.iload_n 2, 1) := by decide +kernel
theorem dX8_even_29 : decode cX8_even 29 = .ok (.invokevirtual 200, 3) := by decide +kernel
theorem dX8_even_32 : decode cX8_even 32 = .ok (.aload_n 0, 1) := by decide +kernel
theorem dX8_even_33 : decode cX8_even 33 = .ok (.getfield 79, 3) := by decide +kernel
theorem dX8_even_36 : decode cX8_even 36 = .ok (.invokevirtual 224, 3) := by decide +kernel
theorem dX8_even_39 : decode cX8_even 39 = .ok (.aload_n 0, 1) := by decide +kernel
theorem dX8_even_40 : decode cX8_even 40 = .ok (.getfield 79, 3) := by decide +kernel
theorem dX8_even_43 : decode cX8_even 43 = .ok (.invokevirtual 227, 3) := by decide +kernel
theorem dX8_even_46 : decode cX8_even 46 = .ok (.bipush 60, 2) := by decide +kernel
theorem dX8_even_48 : decode cX8_even 48 = .ok (.aload_n 0, 1) := by decide +kernel
theorem dX8_even_49 : decode cX8_even 49 = .ok (.getfield 79, 3) := by decide +kernel
theorem dX8_even_52 : decode cX8_even 52 = .ok (.invokevirtual 207, 3) := by decide +kernel
theorem dX8_even_55 : decode cX8_even 55 = .ok (.imul, 1) := by decide +kernel
theorem dX8_even_56 : decode cX8_even 56 = .ok (.iload_n 3, 1) := by decide +kernel
theorem dX8_even_57 : decode cX8_even 57 = .ok (.invokestatic 210, 3) := by decide +kernel
theorem dX8_even_60 : decode cX8_even 60 = .ok (.lreturn, 1) := by decide +kernel
theorem sX8_224 {p : Program} {l : Launch} {e : Env} {R : Room} {s : State} {m : MethodId} {args : Array Value} {below : List Frame} {meth : Method} {c : Code} {H : Heap} {locs : List Loc} {cells slots : Nat} {Q : State → Prop} {cc : ByteArray} {pc nL : Nat} {ls : Array Slot} {rest : List Value} {ret : Option FieldType}  {G : xG} {β : Nat} {D : Nat → Prop} {x x' : XS} (C : Cx p s m args meth c RX8 cc nL ret (KK G)) (h : fX0_shareOut x = some x') (hw : CW β D G x H) (hS : va_S D s.heap H locs) (hsz : ls.size = nL) (hW : (rest.map fun v => v.category).sum ≤ 8) (hR : 5 ≤ R.frames) (hR2 : 114 ≤ R.locals) (hcs : cells ≤ R.cells ∧ slots ≤ R.slots) (hd : decode cc pc = .ok (.invokevirtual 224, 3)) (kk : ∀ (H1 : Heap) (locs1 : List Loc), CW β D G x' H1 → va_S D s.heap H1 locs1 → W p l e R s m args below meth c H1 locs1 cells slots Q (F0 m (pc + 3) ls (rest))) : W p l e R s m args below meth c H locs cells slots Q (F0 m pc ls (.ref (β + 16) :: rest)) := by
  exact xcallV C (As := []) (rest := rest) (nA := 0) (ci := 0) (kX0_shareOut h) (tg 669 (by decide +kernel) rfl) (tg 670 (by decide +kernel) rfl) (tg 671 (by decide +kernel) rfl) (tg 5 (by decide +kernel) rfl) (tg 672 (by decide +kernel) rfl) ⟨rfl, by decide +kernel, by decide +kernel, by decide +kernel⟩ rfl rfl rfl ⟨hR, hR2⟩ (hw.2.2.1 16 (by decide)) hw hS (fun _ q => q) rfl rfl hsz hW hd hcs (fun H1 locs1 hw hz hk hS => kk H1 locs1 hw hS)
theorem sX8_227 {p : Program} {l : Launch} {e : Env} {R : Room} {s : State} {m : MethodId} {args : Array Value} {below : List Frame} {meth : Method} {c : Code} {H : Heap} {locs : List Loc} {cells slots : Nat} {Q : State → Prop} {cc : ByteArray} {pc nL : Nat} {ls : Array Slot} {rest : List Value} {ret : Option FieldType}  {G : xG} {β : Nat} {D : Nat → Prop} {x : XS} {r : Int32} (C : Cx p s m args meth c RX8 cc nL ret (KK G)) (h : fX0_gap x = some r) (hw : CW β D G x H) (hS : va_S D s.heap H locs) (hsz : ls.size = nL) (hW : (rest.map fun v => v.category).sum ≤ 8) (hR : 2 ≤ R.frames) (hR2 : 44 ≤ R.locals) (hcs : cells ≤ R.cells ∧ slots ≤ R.slots) (hd : decode cc pc = .ok (.invokevirtual 227, 3)) (kk : ∀ (H1 : Heap) (locs1 : List Loc), CW β D G x H1 → va_S D s.heap H1 locs1 → W p l e R s m args below meth c H1 locs1 cells slots Q (F0 m (pc + 3) ls (.int r :: rest))) : W p l e R s m args below meth c H locs cells slots Q (F0 m pc ls (.ref (β + 16) :: rest)) := by
  exact xcallV C (As := []) (rest := rest) (nA := 0) (ci := 0) (kX0_gap h) (tg 674 (by decide +kernel) rfl) (tg 675 (by decide +kernel) rfl) (tg 676 (by decide +kernel) rfl) (tg 5 (by decide +kernel) rfl) (tg 677 (by decide +kernel) rfl) ⟨rfl, by decide +kernel, by decide +kernel, by decide +kernel⟩ rfl rfl rfl ⟨hR, hR2⟩ (hw.2.2.1 16 (by decide)) hw hS (fun _ q => q) rfl rfl hsz hW hd hcs (fun H1 locs1 hw hz hk hS => kk H1 locs1 hw hS)
def fX8_even (x : XS) (a1 : Int32) (a2 : Int32) (a3 : Int32) : Option (Int64 × XS) := Option.bind (fX8_isField x a1) fun v1 => if v1 = true then Option.bind (fX8_isWhen a2) fun v3 => if v3 = true then Option.bind (fX8_isPart a3) fun v5 => if v5 = true then Option.bind (fX8_enter x a1 a2) fun x7 => Option.bind (fX0_shareOut x7) fun x9 => Option.bind (fX0_gap x9) fun v11 => Option.bind (fX0_cases x9) fun v13 => Option.bind (fX8_inLowestTerms v11 (60 * v13) a3) fun v15 => some (v15, x9) else some ((-4611686018427387904), x) else some ((-4611686018427387904), x) else some ((-4611686018427387904), x)
abbrev rmX8_even : Room := { frames := 7, cells := 0, slots := 0, locals := 157 }
set_option maxHeartbeats 4000000 in
set_option maxRecDepth 100000 in
theorem kX8_even {l : Launch} {G : xG} {β : Nat} {D : Nat → Prop} {x x' : XS} {a1 : Int32} {a2 : Int32} {a3 : Int32} {r : Int64} (hm : fX8_even x a1 a2 a3 = some (r, x')) : Met l yX8_even (.code yX8_even cX8_even 4 (some .long) :: GT) rmX8_even (PcW [.ref β, .int a1, .int a2, .int a3] (CW β D G x) (KK G)) (QcW D (some (.long r)) (CW β D G x')) 0 0 D := by
  unfold fX8_even at hm
  refine xpro (own := RX8) (by decide +kernel) rfl (Nat.le_of_ble_eq_true rfl) ?_
  intro p e s m args below meth c C hw ls hl
  have hx := C.1
  have hb := C.2.1
  have ho := C.2.2.2.1
  have hts := C.2.2.2.2.1
  have hS : va_S D s.heap s.heap [] := va_S.rf
  have hl : lv_has ls 4 [(0, .ref β), (1, .int a1), (2, .int a2), (3, .int a3)] := hl
  have hRf : 7 ≤ rmX8_even.frames := Nat.le_refl _
  have hRl : 157 ≤ rmX8_even.locals := Nat.le_refl _
  have hcs : 0 ≤ rmX8_even.cells ∧ 0 ≤ rmX8_even.slots := ⟨Nat.le_refl _, Nat.le_refl _⟩
  refine lv_aload_n hx hb dX8_even_0 rfl (lv_at hl 0 rfl) ?_
  refine lv_iload_n hx hb dX8_even_1 rfl (lv_at hl 1 rfl) ?_
  obtain ⟨v1, h2, hm⟩ := bind_e hm
  refine sX8_187 C h2 hw hS hl.1 (Nat.le_of_ble_eq_true rfl) (Nat.le_trans (Nat.le_of_ble_eq_true rfl) hRf) (Nat.le_trans (Nat.le_of_ble_eq_true rfl) hRl) hcs dX8_even_2 (fun H locs hw hS => ?_)
  refine x_ifeqB hx hb dX8_even_5 (tgt := 22) (by decide) (fun cc => ?_) (fun cc => ?_)
  · replace hm := ite_n cc hm
    refine lv_ldc2 (v := (-4611686018427387904)) hx hb ho (hts (.constantLong RX8 157 (-4611686018427387904)) (tg 476 (by decide +kernel) rfl)) dX8_even_22 ?_
    obtain ⟨rfl, rfl⟩ := inj2 hm
    exact xret_l C hw hS dX8_even_25
  · replace hm := ite_p cc hm
    refine lv_iload_n hx hb dX8_even_8 rfl (lv_at hl 2 rfl) ?_
    obtain ⟨v3, h4, hm⟩ := bind_e hm
    refine sX8_190 C h4 hw hS hl.1 (Nat.le_of_ble_eq_true rfl) (Nat.le_trans (Nat.le_of_ble_eq_true rfl) hRf) (Nat.le_trans (Nat.le_of_ble_eq_true rfl) hRl) hcs dX8_even_9 (fun H locs hw hS => ?_)
    refine x_ifeqB hx hb dX8_even_12 (tgt := 22) (by decide) (fun cc => ?_) (fun cc => ?_)
    · replace hm := ite_n cc hm
      refine lv_ldc2 (v := (-4611686018427387904)) hx hb ho (hts (.constantLong RX8 157 (-4611686018427387904)) (tg 476 (by decide +kernel) rfl)) dX8_even_22 ?_
      obtain ⟨rfl, rfl⟩ := inj2 hm
      exact xret_l C hw hS dX8_even_25
    · replace hm := ite_p cc hm
      refine lv_iload_n hx hb dX8_even_15 rfl (lv_at hl 3 rfl) ?_
      obtain ⟨v5, h6, hm⟩ := bind_e hm
      refine sX8_197 C h6 hw hS hl.1 (Nat.le_of_ble_eq_true rfl) (Nat.le_trans (Nat.le_of_ble_eq_true rfl) hRf) (Nat.le_trans (Nat.le_of_ble_eq_true rfl) hRl) hcs dX8_even_16 (fun H locs hw hS => ?_)
      refine x_ifneB hx hb dX8_even_19 (tgt := 26) (by decide) (fun cc => ?_) (fun cc => ?_)
      · replace hm := ite_p cc hm
        refine lv_aload_n hx hb dX8_even_26 rfl (lv_at hl 0 rfl) ?_
        refine lv_iload_n hx hb dX8_even_27 rfl (lv_at hl 1 rfl) ?_
        refine lv_iload_n hx hb dX8_even_28 rfl (lv_at hl 2 rfl) ?_
        obtain ⟨x7, h8, hm⟩ := bind_e hm
        refine sX8_200 C h8 hw hS hl.1 (Nat.le_of_ble_eq_true rfl) (Nat.le_trans (Nat.le_of_ble_eq_true rfl) hRf) (Nat.le_trans (Nat.le_of_ble_eq_true rfl) hRl) hcs dX8_even_29 (fun H locs hw hS => ?_)
        refine lv_aload_n hx hb dX8_even_32 rfl (lv_at hl 0 rfl) ?_
        refine gX8_79 C hw dX8_even_33 ?_
        obtain ⟨x9, h10, hm⟩ := bind_e hm
        refine sX8_224 C h10 hw hS hl.1 (Nat.le_of_ble_eq_true rfl) (Nat.le_trans (Nat.le_of_ble_eq_true rfl) hRf) (Nat.le_trans (Nat.le_of_ble_eq_true rfl) hRl) hcs dX8_even_36 (fun H locs hw hS => ?_)
        refine lv_aload_n hx hb dX8_even_39 rfl (lv_at hl 0 rfl) ?_
        refine gX8_79 C hw dX8_even_40 ?_
        obtain ⟨v11, h12, hm⟩ := bind_e hm
        refine sX8_227 C h12 hw hS hl.1 (Nat.le_of_ble_eq_true rfl) (Nat.le_trans (Nat.le_of_ble_eq_true rfl) hRf) (Nat.le_trans (Nat.le_of_ble_eq_true rfl) hRl) hcs dX8_even_43 (fun H locs hw hS => ?_)
        refine lv_bipush (v := 60) hx hb dX8_even_46 (by decide) ?_
        refine lv_aload_n hx hb dX8_even_48 rfl (lv_at hl 0 rfl) ?_
        refine gX8_79 C hw dX8_even_49 ?_
        obtain ⟨v13, h14, hm⟩ := bind_e hm
        refine sX8_207 C h14 hw hS hl.1 (Nat.le_of_ble_eq_true rfl) (Nat.le_trans (Nat.le_of_ble_eq_true rfl) hRf) (Nat.le_trans (Nat.le_of_ble_eq_true rfl) hRl) hcs dX8_even_52 (fun H locs hw hS => ?_)
        refine lv_imul hx hb dX8_even_55 ?_
        refine lv_iload_n hx hb dX8_even_56 rfl (lv_at hl 3 rfl) ?_
        obtain ⟨v15, h16, hm⟩ := bind_e hm
        refine sX8_210 C h16 hw hS hl.1 (Nat.le_of_ble_eq_true rfl) (Nat.le_trans (Nat.le_of_ble_eq_true rfl) hRf) (Nat.le_trans (Nat.le_of_ble_eq_true rfl) hRl) hcs dX8_even_57 (fun H locs hw hS => ?_)
        obtain ⟨rfl, rfl⟩ := inj2 hm
        exact xret_l C hw hS dX8_even_60
      · replace hm := ite_n cc hm
        refine lv_ldc2 (v := (-4611686018427387904)) hx hb ho (hts (.constantLong RX8 157 (-4611686018427387904)) (tg 476 (by decide +kernel) rfl)) dX8_even_22 ?_
        obtain ⟨rfl, rfl⟩ := inj2 hm
        exact xret_l C hw hS dX8_even_25
theorem dX8_addLead_0 : decode cX8_addLead 0 = .ok (.aload_n 0, 1) := by decide +kernel
theorem dX8_addLead_1 : decode cX8_addLead 1 = .ok (.getfield 89, 3) := by decide +kernel
theorem dX8_addLead_4 : decode cX8_addLead 4 = .ok (.iload_n 1, 1) := by decide +kernel
theorem dX8_addLead_5 : decode cX8_addLead 5 = .ok (.dup2, 1) := by decide +kernel
theorem dX8_addLead_6 : decode cX8_addLead 6 = .ok (.iaload, 1) := by decide +kernel
theorem dX8_addLead_7 : decode cX8_addLead 7 = .ok (.iload_n 2, 1) := by decide +kernel
theorem dX8_addLead_8 : decode cX8_addLead 8 = .ok (.iadd, 1) := by decide +kernel
theorem dX8_addLead_9 : decode cX8_addLead 9 = .ok (.iastore, 1) := by decide +kernel
theorem dX8_addLead_10 : decode cX8_addLead 10 = .ok (.aload_n 0, 1) := by decide +kernel
theorem dX8_addLead_11 : decode cX8_addLead 11 = .ok (.iload_n 1, 1) := by decide +kernel
theorem dX8_addLead_12 : decode cX8_addLead 12 = .ok (.iload_n 3, 1) := by decide +kernel
theorem dX8_addLead_13 : decode cX8_addLead 13 = .ok (.invokevirtual 370, 3) := by decide +kernel
theorem dX8_addLead_16 : decode cX8_addLead 16 = .ok (.aload_n 0, 1) := by decide +kernel
theorem dX8_addLead_17 : decode cX8_addLead 17 = .ok (.getfield 79, 3) := by decide +kernel
theorem dX8_addLead_20 : decode cX8_addLead 20 = .ok (.invokevirtual 224, 3) := by decide +kernel
theorem dX8_addLead_23 : decode cX8_addLead 23 = .ok (.return_, 1) := by decide +kernel
def fX8_addLead (x : XS) (a1 : Int32) (a2 : Int32) (a3 : Int32) : Option (XS) := if ib a1 10 then if ib a1 10 then lt (xsA x 24 a1.toNatClampNeg ((x.2.1 24 a1.toNatClampNeg) + a2)) fun x3 => Option.bind (fX8_weigh x3 a1 a3) fun x4 => Option.bind (fX0_shareOut x4) fun x6 => some x6 else none else none
abbrev rmX8_addLead : Room := { frames := 6, cells := 0, slots := 0, locals := 134 }
set_option maxHeartbeats 4000000 in
set_option maxRecDepth 100000 in
theorem kX8_addLead {l : Launch} {G : xG} {β : Nat} {D : Nat → Prop} {x x' : XS} {a1 : Int32} {a2 : Int32} {a3 : Int32} (hm : fX8_addLead x a1 a2 a3 = some x') : Met l yX8_addLead (.code yX8_addLead cX8_addLead 4 none :: GT) rmX8_addLead (PcW [.ref β, .int a1, .int a2, .int a3] (CW β D G x) (KK G)) (QcW D none (CW β D G x')) 0 0 D := by
  unfold fX8_addLead at hm
  refine xpro (own := RX8) (by decide +kernel) rfl (Nat.le_of_ble_eq_true rfl) ?_
  intro p e s m args below meth c C hw ls hl
  have hx := C.1
  have hb := C.2.1
  have ho := C.2.2.2.1
  have hts := C.2.2.2.2.1
  have hS : va_S D s.heap s.heap [] := va_S.rf
  have hl : lv_has ls 4 [(0, .ref β), (1, .int a1), (2, .int a2), (3, .int a3)] := hl
  have hRf : 6 ≤ rmX8_addLead.frames := Nat.le_refl _
  have hRl : 134 ≤ rmX8_addLead.locals := Nat.le_refl _
  have hcs : 0 ≤ rmX8_addLead.cells ∧ 0 ≤ rmX8_addLead.slots := ⟨Nat.le_refl _, Nat.le_refl _⟩
  refine lv_aload_n hx hb dX8_addLead_0 rfl (lv_at hl 0 rfl) ?_
  refine gX8_89 C hw dX8_addLead_1 ?_
  refine lv_iload_n hx hb dX8_addLead_4 rfl (lv_at hl 1 rfl) ?_
  refine lv_dup2_11 hx hb dX8_addLead_5 rfl rfl ?_
  obtain ⟨h1, hm⟩ := chk_e hm
  refine alX_24 C hw h1 dX8_addLead_6 ?_
  refine lv_iload_n hx hb dX8_addLead_7 rfl (lv_at hl 2 rfl) ?_
  refine lv_iadd hx hb dX8_addLead_8 ?_
  obtain ⟨h2, hm⟩ := chk_e hm
  refine asX_24 C hw hS h2 dX8_addLead_9 (fun H locs hw hS => ?_)
  obtain ⟨x3, ev, hm⟩ := lt_e hm
  rw [← ev] at hw
  clear ev
  refine lv_aload_n hx hb dX8_addLead_10 rfl (lv_at hl 0 rfl) ?_
  refine lv_iload_n hx hb dX8_addLead_11 rfl (lv_at hl 1 rfl) ?_
  refine lv_iload_n hx hb dX8_addLead_12 rfl (lv_at hl 3 rfl) ?_
  obtain ⟨x4, h5, hm⟩ := bind_e hm
  refine sX8_370 C h5 hw hS hl.1 (Nat.le_of_ble_eq_true rfl) (Nat.le_trans (Nat.le_of_ble_eq_true rfl) hRf) (Nat.le_trans (Nat.le_of_ble_eq_true rfl) hRl) hcs dX8_addLead_13 (fun H locs hw hS => ?_)
  refine lv_aload_n hx hb dX8_addLead_16 rfl (lv_at hl 0 rfl) ?_
  refine gX8_79 C hw dX8_addLead_17 ?_
  obtain ⟨x6, h7, hm⟩ := bind_e hm
  refine sX8_224 C h7 hw hS hl.1 (Nat.le_of_ble_eq_true rfl) (Nat.le_trans (Nat.le_of_ble_eq_true rfl) hRf) (Nat.le_trans (Nat.le_of_ble_eq_true rfl) hRl) hcs dX8_addLead_20 (fun H locs hw hS => ?_)
  obtain rfl := Option.some.inj hm
  exact xret_v C hw hS dX8_addLead_23
