abbrev rmGCh (n : Nat) : Room := { frames := n + 0, cells := 0, slots := 0, locals := n * 26 + 0 }
def BX9_chain_34 (rc : Nat → MS → Int32 → Int32 → Option (Int64)) (x : MS) (q1 : Int32) (q2 : Int32) (q5 : Int32) (lp : Int64 → Int32 → Option (Int64)) (u3 : Int64) (u6 : Int32) : Option (Int64) := if ib q5 10 then if ((x.2.1 11 q5.toNatClampNeg) + (x.1 0 15)) < u6 then some u3 else if q2 ≤ u6 then some u3 else Option.bind (rc 0 x (q1 + 1) u6) fun v6 => lt (u3 + v6) fun v8 => lt (u6 + 1) fun v9 => lp v8 v9 else none
def LX9_chain_34 (rc : Nat → MS → Int32 → Int32 → Option (Int64)) (x : MS) (q1 : Int32) (q2 : Int32) (q5 : Int32) : Nat → Int64 → Int32 → Option (Int64)
  | 0, _, _ => none
  | n + 1, u3, u6 => BX9_chain_34 rc x q1 q2 q5 (LX9_chain_34 rc x q1 q2 q5 n) u3 u6
def fX9_chain (rc : Nat → MS → Int32 → Int32 → Option (Int64)) (x : MS) (a1 : Int32) (a2 : Int32) : Option (Int64) := if a1 = (x.1 0 19) then some 1 else if ib a1 5 then lt (x.2.1 13 a1.toNatClampNeg) fun v2 => if ib v2 10 then lt ((x.2.1 11 v2.toNatClampNeg) - (x.1 0 15)) fun v4 => Option.bind (LX9_chain_34 rc x a1 a2 v2 NF 0 v4) fun v10 => some v10 else none else none
def GCh : Nat → Nat → MS → Int32 → Int32 → Option (Int64)
  | 0, _, _, _, _ => none
  | n + 1, t, x, a1, a2 => match t with
    | 0 => fX9_chain (GCh n) x a1 a2
    | _ => none
def GPGCh (l : Launch) (G : xG) (β N : Nat) (n : Nat) : Prop :=
  (∀ (x : MS) (a1 : Int32) (a2 : Int32) (r : Int64), GCh n 0 x a1 a2 = some r → Met l yX9_chain (.code yX9_chain cX9_chain 7 (some .long) :: GT) (rmGCh n) (PcW [.ref β, .int a1, .int a2] (MW β G N x) (KK G)) (QcW (AM β) (some (.long r)) (MW β G N x)) 0 0 (AM β))
theorem dX9_chain_0 : decode cX9_chain 0 = .ok (.iload_n 1, 1) := by decide +kernel
theorem dX9_chain_1 : decode cX9_chain 1 = .ok (.aload_n 0, 1) := by decide +kernel
theorem dX9_chain_2 : decode cX9_chain 2 = .ok (.getfield 247, 3) := by decide +kernel
theorem dX9_chain_5 : decode cX9_chain 5 = .ok (.if_icmp .ne 5, 3) := by decide +kernel
theorem dX9_chain_8 : decode cX9_chain 8 = .ok (.lconst 1, 1) := by decide +kernel
theorem dX9_chain_9 : decode cX9_chain 9 = .ok (.lreturn, 1) := by decide +kernel
theorem dX9_chain_10 : decode cX9_chain 10 = .ok (.lconst 0, 1) := by decide +kernel
theorem dX9_chain_11 : decode cX9_chain 11 = .ok (.lstore_n 3, 1) := by decide +kernel
theorem dX9_chain_12 : decode cX9_chain 12 = .ok (.aload_n 0, 1) := by decide +kernel
theorem dX9_chain_13 : decode cX9_chain 13 = .ok (.getfield 51, 3) := by decide +kernel
theorem dX9_chain_16 : decode cX9_chain 16 = .ok (.iload_n 1, 1) := by decide +kernel
theorem dX9_chain_17 : decode cX9_chain 17 = .ok (.iaload, 1) := by decide +kernel
theorem dX9_chain_18 : decode cX9_chain 18 = .ok (.istore 5, 2) := by decide +kernel
theorem dX9_chain_20 : decode cX9_chain 20 = .ok (.aload_n 0, 1) := by decide +kernel
theorem dX9_chain_21 : decode cX9_chain 21 = .ok (.getfield 44, 3) := by decide +kernel
theorem dX9_chain_24 : decode cX9_chain 24 = .ok (.iload 5, 2) := by decide +kernel
theorem dX9_chain_26 : decode cX9_chain 26 = .ok (.iaload, 1) := by decide +kernel
theorem dX9_chain_27 : decode cX9_chain 27 = .ok (.aload_n 0, 1) := by decide +kernel
theorem dX9_chain_28 : decode cX9_chain 28 = .ok (.getfield 124, 3) := by decide +kernel
theorem dX9_chain_31 : decode cX9_chain 31 = .ok (.isub, 1) := by decide +kernel
theorem dX9_chain_32 : decode cX9_chain 32 = .ok (.istore 6, 2) := by decide +kernel
theorem dX9_chain_34 : decode cX9_chain 34 = .ok (.iload 6, 2) := by decide +kernel
theorem dX9_chain_36 : decode cX9_chain 36 = .ok (.aload_n 0, 1) := by decide +kernel
theorem dX9_chain_37 : decode cX9_chain 37 = .ok (.getfield 44, 3) := by decide +kernel
theorem dX9_chain_40 : decode cX9_chain 40 = .ok (.iload 5, 2) := by decide +kernel
theorem dX9_chain_42 : decode cX9_chain 42 = .ok (.iaload, 1) := by decide +kernel
theorem dX9_chain_43 : decode cX9_chain 43 = .ok (.aload_n 0, 1) := by decide +kernel
theorem dX9_chain_44 : decode cX9_chain 44 = .ok (.getfield 124, 3) := by decide +kernel
theorem dX9_chain_47 : decode cX9_chain 47 = .ok (.iadd, 1) := by decide +kernel
theorem dX9_chain_48 : decode cX9_chain 48 = .ok (.if_icmp .gt 27, 3) := by decide +kernel
theorem dX9_chain_51 : decode cX9_chain 51 = .ok (.iload 6, 2) := by decide +kernel
theorem dX9_chain_53 : decode cX9_chain 53 = .ok (.iload_n 2, 1) := by decide +kernel
theorem dX9_chain_54 : decode cX9_chain 54 = .ok (.if_icmp .ge 21, 3) := by decide +kernel
theorem dX9_chain_57 : decode cX9_chain 57 = .ok (.lload_n 3, 1) := by decide +kernel
theorem dX9_chain_58 : decode cX9_chain 58 = .ok (.aload_n 0, 1) := by decide +kernel
theorem dX9_chain_59 : decode cX9_chain 59 = .ok (.iload_n 1, 1) := by decide +kernel
theorem dX9_chain_60 : decode cX9_chain 60 = .ok (.iconst 1, 1) := by decide +kernel
theorem dX9_chain_61 : decode cX9_chain 61 = .ok (.iadd, 1) := by decide +kernel
theorem dX9_chain_62 : decode cX9_chain 62 = .ok (.iload 6, 2) := by decide +kernel
theorem dX9_chain_64 : decode cX9_chain 64 = .ok (.invokevirtual 250, 3) := by decide +kernel
theorem dX9_chain_67 : decode cX9_chain 67 = .ok (.ladd, 1) := by decide +kernel
theorem dX9_chain_68 : decode cX9_chain 68 = .ok (.lstore_n 3, 1) := by decide +kernel
theorem dX9_chain_69 : decode cX9_chain 69 = .ok (.iinc 6 1, 3) := by decide +kernel
theorem dX9_chain_72 : decode cX9_chain 72 = .ok (.goto (-38), 3) := by decide +kernel
theorem dX9_chain_75 : decode cX9_chain 75 = .ok (.lload_n 3, 1) := by decide +kernel
theorem dX9_chain_76 : decode cX9_chain 76 = .ok (.lreturn, 1) := by decide +kernel
theorem sgX9_250 {p : Program} {l : Launch} {e : Env} {R : Room} {s : State} {m : MethodId} {args : Array Value} {below : List Frame} {meth : Method} {c : Code} {H : Heap} {locs : List Loc} {cells slots : Nat} {Q : State → Prop} {cc : ByteArray} {pc nL : Nat} {ls : Array Slot} {rest : List Value} {ret : Option FieldType} {G : xG} {β N : Nat} {x : MS} {a1 : Int32} {a2 : Int32} {r : Int64} {rm : Room} (C : Cx p s m args meth c RX9 cc nL ret (KK G)) (hM : Met l yX9_chain (.code yX9_chain cX9_chain 7 (some .long) :: GT) rm (PcW [.ref β, .int a1, .int a2] (MW β G N x) (KK G)) (QcW (AM β) (some (.long r)) (MW β G N x)) 0 0 (AM β)) (hrc : rm.cells = 0) (hrs : rm.slots = 0) (hw : MW β G N x H) (hS : va_S (AM β) s.heap H locs) (hsz : ls.size = nL) (hW : (rest.map fun v => v.category).sum ≤ 8) (hR : rm.frames + 1 ≤ R.frames) (hR2 : 26 + rm.locals ≤ R.locals) (hcs : cells ≤ R.cells ∧ slots ≤ R.slots) (hd : decode cc pc = .ok (.invokevirtual 250, 3)) (kk : ∀ (H1 : Heap) (locs1 : List Loc), MW β G N x H1 → va_S (AM β) s.heap H1 locs1 → W p l e R s m args below meth c H1 locs1 cells slots Q (F0 m (pc + 3) ls (.long r :: rest))) : W p l e R s m args below meth c H locs cells slots Q (F0 m pc ls (.int a2 :: .int a1 :: .ref β :: rest)) :=
  xcallV C (As := [.int a1, .int a2]) (rest := rest) (nA := 2) (ci := 9) hM (tg 1301 (by decide +kernel) rfl) (tg 1303 (by decide +kernel) rfl) (sg (List.mem_of_getElem? (i := 86) (by decide +kernel)) rfl) (tg 14 (by decide +kernel) rfl) (tg 1304 (by decide +kernel) rfl) ⟨rfl, by decide +kernel, by decide +kernel, by decide +kernel⟩ rfl hrc hrs ⟨hR, hR2⟩ (hw.2 0 (by decide)) hw hS (fun _ q => q) rfl rfl hsz hW hd hcs (fun H1 locs1 hw hz hk hS => kk H1 locs1 hw hS)
set_option maxHeartbeats 4000000 in
set_option maxRecDepth 100000 in
theorem lX9_chain_34 {p : Program} {l : Launch} {e : Env} {R : Room} {s : State} {m : MethodId} {args : Array Value} {below : List Frame} {meth : Method} {c : Code} {cells slots : Nat} {Q : State → Prop} {G : xG} {β N : Nat} {gn : Nat} (C : Cx p s m args meth c RX9 cX9_chain 7 (some .long) (KK G)) (hRf : (gn + 1 + 0) ≤ R.frames) (hRl : ((gn + 1) * 26 + 0) ≤ R.locals) (hcs : cells ≤ R.cells ∧ slots ≤ R.slots) (IH : GPGCh l G β N gn) (x : MS) (q1 : Int32) (q2 : Int32) (q5 : Int32) : ∀ (n : Nat) (u3 : Int64) (u6 : Int32) (J : Int64) (H : Heap) (locs : List Loc) (ls : Array Slot), LX9_chain_34 (GCh gn) x q1 q2 q5 n u3 u6 = some J → MW β G N x H → va_S (AM β) s.heap H locs → lv_has ls 7 [(0, .ref β), (1, .int q1), (2, .int q2), (3, .long u3), (5, .int q5), (6, .int u6)] → (∀ (w3 : Int64), J = w3 → ∀ (H : Heap) (locs : List Loc) (ls : Array Slot), MW β G N x H → va_S (AM β) s.heap H locs → lv_has ls 7 [(3, .long w3)] → W p l e R s m args below meth c H locs cells slots Q (F0 m 75 ls [])) → W p l e R s m args below meth c H locs cells slots Q (F0 m 34 ls []) := by
  have hx := C.1
  have hb := C.2.1
  have ho := C.2.2.2.1
  have hts := C.2.2.2.2.1
  intro n
  induction n with
  | zero =>
    intro u3 u6 J H locs ls hm
    exact absurd hm (by simp [LX9_chain_34])
  | succ n ih =>
    intro u3 u6 J H locs ls hm hw hS hl ke
    replace hm : BX9_chain_34 (GCh gn) x q1 q2 q5 (LX9_chain_34 (GCh gn) x q1 q2 q5 n) u3 u6 = some J := hm
    unfold BX9_chain_34 at hm
    refine lv_iload hx hb dX9_chain_34 (lv_at hl 5 rfl) ?_
    refine lv_aload_n hx hb dX9_chain_36 rfl (lv_at hl 0 rfl) ?_
    refine gX9_44 C hw dX9_chain_37 ?_
    refine lv_iload hx hb dX9_chain_40 (lv_at hl 4 rfl) ?_
    obtain ⟨h5, hm⟩ := chk_e hm
    refine alM_11 C hw h5 dX9_chain_42 ?_
    refine lv_aload_n hx hb dX9_chain_43 rfl (lv_at hl 0 rfl) ?_
    refine gX9_124 C hw dX9_chain_44 ?_
    refine lv_iadd hx hb dX9_chain_47 ?_
    refine lv_icmp_gt (tgt := 75) hx hb dX9_chain_48 (by decide) (fun cc => ?_) (fun cc => ?_)
    · replace hm := ite_p cc hm
      exact ke _ (Option.some.inj hm).symm _ _ _ hw hS (lv_sub hl [3] rfl)
    · replace hm := ite_n cc hm
      refine lv_iload hx hb dX9_chain_51 (lv_at hl 5 rfl) ?_
      refine lv_iload_n hx hb dX9_chain_53 rfl (lv_at hl 2 rfl) ?_
      refine lv_icmp_ge (tgt := 75) hx hb dX9_chain_54 (by decide) (fun cc => ?_) (fun cc => ?_)
      · replace hm := ite_p cc hm
        exact ke _ (Option.some.inj hm).symm _ _ _ hw hS (lv_sub hl [3] rfl)
      · replace hm := ite_n cc hm
        refine lv_lload_n hx hb dX9_chain_57 rfl (lv_at hl 3 rfl) ?_
        refine lv_aload_n hx hb dX9_chain_58 rfl (lv_at hl 0 rfl) ?_
        refine lv_iload_n hx hb dX9_chain_59 rfl (lv_at hl 1 rfl) ?_
        refine lv_iconst (v := 1) hx hb dX9_chain_60 (by decide) ?_
        refine lv_iadd hx hb dX9_chain_61 ?_
        refine lv_iload hx hb dX9_chain_62 (lv_at hl 5 rfl) ?_
        obtain ⟨v6, h7, hm⟩ := bind_e hm
        refine sgX9_250 C (IH _ _ _ _ h7) rfl rfl hw hS hl.1 (Nat.le_of_ble_eq_true rfl) (by have := hRf; show gn + 0 + 1 ≤ _; omega) (by have := hRl; show 26 + (gn * 26 + 0) ≤ _; omega) hcs dX9_chain_64 (fun H locs hw hS => ?_)
        refine lv_ladd hx hb dX9_chain_67 ?_
        refine topJ hm (fun v8 hm => ?_)
        refine lv_lstore_n (lv' := [(3, .long v8), (0, .ref β), (1, .int q1), (2, .int q2), (5, .int q5), (6, .int u6)]) hx hb dX9_chain_68 rfl hl (by decide) rfl (fun ls hl => ?_)
        obtain ⟨v9, ev, hm⟩ := lt_e hm
        refine lv_iinc (v := v9) (lv' := [(6, .int v9), (3, .long v8), (0, .ref β), (1, .int q1), (2, .int q2), (5, .int q5)]) hx hb dX9_chain_69 hl (k := 5) rfl (by rw [ev]; rfl) (by decide) rfl (fun ls hl => ?_)
        clear ev
        refine lv_goto (tgt := 34) hx hb dX9_chain_72 (by decide) ?_
        exact ih _ _ _ _ _ _ hm hw hS (lv_sub hl [2, 3, 4, 1, 5, 0] rfl) ke
set_option maxHeartbeats 4000000 in
set_option maxRecDepth 100000 in
theorem kX9_chain {l : Launch} {G : xG} {β N : Nat} {gn : Nat} (IH : GPGCh l G β N gn) {x : MS} {a1 : Int32} {a2 : Int32} {r : Int64} (hm : fX9_chain (GCh gn) x a1 a2 = some r) : Met l yX9_chain (.code yX9_chain cX9_chain 7 (some .long) :: GT) (rmGCh (gn + 1)) (PcW [.ref β, .int a1, .int a2] (MW β G N x) (KK G)) (QcW (AM β) (some (.long r)) (MW β G N x)) 0 0 (AM β) := by
  unfold fX9_chain at hm
  refine xpro (own := RX9) (by decide +kernel) rfl (Nat.le_of_ble_eq_true rfl) ?_
  intro p e s m args below meth c C hw ls hl
  have hx := C.1
  have hb := C.2.1
  have ho := C.2.2.2.1
  have hts := C.2.2.2.2.1
  have hS : va_S (AM β) s.heap s.heap [] := va_S.rf
  have hl : lv_has ls 7 [(0, .ref β), (1, .int a1), (2, .int a2)] := hl
  have hRf : (gn + 1 + 0) ≤ (rmGCh (gn + 1)).frames := Nat.le_refl _
  have hRl : ((gn + 1) * 26 + 0) ≤ (rmGCh (gn + 1)).locals := Nat.le_refl _
  have hcs : 0 ≤ (rmGCh (gn + 1)).cells ∧ 0 ≤ (rmGCh (gn + 1)).slots := ⟨Nat.le_refl _, Nat.le_refl _⟩
  refine lv_iload_n hx hb dX9_chain_0 rfl (lv_at hl 1 rfl) ?_
  refine lv_aload_n hx hb dX9_chain_1 rfl (lv_at hl 0 rfl) ?_
  refine gX9_247 C hw dX9_chain_2 ?_
  refine lv_icmp_ne (tgt := 10) hx hb dX9_chain_5 (by decide) (fun cc => ?_) (fun cc => ?_)
  · replace hm := ite_n cc hm
    refine lv_lconst (v := 0) hx hb dX9_chain_10 (by decide) ?_
    refine lv_lstore_n (lv' := [(3, .long 0), (0, .ref β), (1, .int a1), (2, .int a2)]) hx hb dX9_chain_11 rfl hl (by decide) rfl (fun ls hl => ?_)
    refine lv_aload_n hx hb dX9_chain_12 rfl (lv_at hl 1 rfl) ?_
    refine gX9_51 C hw dX9_chain_13 ?_
    refine lv_iload_n hx hb dX9_chain_16 rfl (lv_at hl 2 rfl) ?_
    obtain ⟨h1, hm⟩ := chk_e hm
    refine alM_13 C hw h1 dX9_chain_17 ?_
    refine topI hm (fun v2 hm => ?_)
    refine lv_istore (lv' := [(5, .int v2), (3, .long 0), (0, .ref β), (1, .int a1), (2, .int a2)]) hx hb dX9_chain_18 hl (by decide) rfl (fun ls hl => ?_)
    refine lv_aload_n hx hb dX9_chain_20 rfl (lv_at hl 2 rfl) ?_
    refine gX9_44 C hw dX9_chain_21 ?_
    refine lv_iload hx hb dX9_chain_24 (lv_at hl 0 rfl) ?_
    obtain ⟨h3, hm⟩ := chk_e hm
    refine alM_11 C hw h3 dX9_chain_26 ?_
    refine lv_aload_n hx hb dX9_chain_27 rfl (lv_at hl 2 rfl) ?_
    refine gX9_124 C hw dX9_chain_28 ?_
    refine lv_isub hx hb dX9_chain_31 ?_
    refine topI hm (fun v4 hm => ?_)
    refine lv_istore (lv' := [(6, .int v4), (5, .int v2), (3, .long 0), (0, .ref β), (1, .int a1), (2, .int a2)]) hx hb dX9_chain_32 hl (by decide) rfl (fun ls hl => ?_)
    obtain ⟨v10, hj, hm⟩ := bind_e hm
    refine lX9_chain_34 C hRf hRl hcs IH x a1 a2 v2 NF _ _ _ _ _ _ hj hw hS (lv_sub hl [3, 4, 5, 2, 1, 0] rfl) (fun v10_ e0 H locs ls hw hS hl => ?_)
    cases e0
    refine lv_lload_n hx hb dX9_chain_75 rfl (lv_at hl 0 rfl) ?_
    obtain rfl := Option.some.inj hm
    exact xret_l C hw hS dX9_chain_76
  · replace hm := ite_p cc hm
    refine lv_lconst (v := 1) hx hb dX9_chain_8 (by decide) ?_
    obtain rfl := Option.some.inj hm
    exact xret_l C hw hS dX9_chain_9
theorem okGCh (l : Launch) (G : xG) (β N : Nat) : ∀ n, GPGCh l G β N n
  | 0 => by unfold GPGCh; exact fun _ _ _ _ h => by cases h
  | n + 1 => by
    have IH := okGCh l G β N n
    unfold GPGCh
    exact fun _ _ _ _ h => kX9_chain IH h
theorem kgX9_chain {l : Launch} {G : xG} {β N : Nat} {x : MS} {a1 : Int32} {a2 : Int32} {r : Int64} (hm : GCh MF 0 x a1 a2 = some r) : Met l yX9_chain (.code yX9_chain cX9_chain 7 (some .long) :: GT) (rmGCh MF) (PcW [.ref β, .int a1, .int a2] (MW β G N x) (KK G)) (QcW (AM β) (some (.long r)) (MW β G N x)) 0 0 (AM β) := (okGCh l G β N MF) _ _ _ _ hm
abbrev rmGPar (n : Nat) : Room := { frames := n + 3, cells := 0, slots := 0, locals := n * 23 + 67 }
def BX9_either_5 (rc : Nat → MS → Option (Int32 × MS)) (lp : Int32 → MS → Option (Int32 × MS)) (u1 : Int32) (x : MS) : Option (Int32 × MS) := Option.bind (fX9_isWord x 423) fun v4 => if v4 = true then Option.bind (fX9_next x) fun x6 => bind2 (rc 1 x6) fun v8 x9 => if u1 = 0 then if v8 = 0 then lp 0 x9 else lp 1 x9 else lp 1 x9 else some (u1, x)
def LX9_either_5 (rc : Nat → MS → Option (Int32 × MS)) : Nat → Int32 → MS → Option (Int32 × MS)
  | 0, _, _ => none
  | n + 1, u1, x => BX9_either_5 rc (LX9_either_5 rc n) u1 x
def fX9_either (rc : Nat → MS → Option (Int32 × MS)) (x : MS) : Option (Int32 × MS) := bind2 (rc 1 x) fun v1 x2 => bind2 (LX9_either_5 rc NF v1 x2) fun v11 x12 => some (v11, x12)
def BX9_both_5 (rc : Nat → MS → Option (Int32 × MS)) (lp : Int32 → MS → Option (Int32 × MS)) (u1 : Int32) (x : MS) : Option (Int32 × MS) := Option.bind (fX9_isWord x 1111) fun v4 => if v4 = true then Option.bind (fX9_next x) fun x6 => bind2 (rc 2 x6) fun v8 x9 => if u1 = 0 then lp 0 x9 else if v8 = 0 then lp 0 x9 else lp 1 x9 else some (u1, x)
def LX9_both_5 (rc : Nat → MS → Option (Int32 × MS)) : Nat → Int32 → MS → Option (Int32 × MS)
  | 0, _, _ => none
  | n + 1, u1, x => BX9_both_5 rc (LX9_both_5 rc n) u1 x
def fX9_both (rc : Nat → MS → Option (Int32 × MS)) (x : MS) : Option (Int32 × MS) := bind2 (rc 2 x) fun v1 x2 => bind2 (LX9_both_5 rc NF v1 x2) fun v11 x12 => some (v11, x12)
def fX9_not (rc : Nat → MS → Option (Int32 × MS)) (x : MS) : Option (Int32 × MS) := Option.bind (fX9_isWord x 10631) fun v1 => if v1 = true then bind2 (fX9_opens x) fun v22 x23 => if v22 = true then bind2 (rc 2 x23) fun v25 x26 => lt (msS x26 0 28 ((x26.1 0 28) - 1)) fun x28 => if v25 = 0 then some (1, x28) else some (0, x28) else some (0, x23) else bind2 (rc 3 x) fun v3 x4 => Option.bind (fX9_isSign x4 60) fun v6 => if v6 = true then Option.bind (if (x4.2.2 0 26) = 60 then some true else some false) fun v8 => Option.bind (fX9_next x4) fun x9 => bind2 (rc 3 x9) fun v11 x12 => if v8 = true then if v11 ≤ v3 then some (0, x12) else some (1, x12) else if v3 = v11 then some (1, x12) else some (0, x12) else Option.bind (fX9_isSign x4 61) fun v14 => if v14 = true then Option.bind (if (x4.2.2 0 26) = 60 then some true else some false) fun v16 => Option.bind (fX9_next x4) fun x17 => bind2 (rc 3 x17) fun v19 x20 => if v16 = true then if v19 ≤ v3 then some (0, x20) else some (1, x20) else if v3 = v19 then some (1, x20) else some (0, x20) else some (v3, x4)
def BX9_added_5 (rc : Nat → MS → Option (Int32 × MS)) (lp : Int32 → MS → Option (Int32 × MS)) (u1 : Int32) (x : MS) : Option (Int32 × MS) := Option.bind (fX9_isSign x 43) fun v4 => if v4 = true then Option.bind (if (x.2.2 0 26) = 43 then some true else some false) fun v6 => Option.bind (fX9_next x) fun x7 => bind2 (rc 4 x7) fun v9 x10 => if v6 = true then lt (u1 + v9) fun v13 => lp v13 x10 else lt (u1 - v9) fun v12 => lp v12 x10 else Option.bind (fX9_isSign x 45) fun v14 => if v14 = true then Option.bind (if (x.2.2 0 26) = 43 then some true else some false) fun v16 => Option.bind (fX9_next x) fun x17 => bind2 (rc 4 x17) fun v19 x20 => if v16 = true then lt (u1 + v19) fun v23 => lp v23 x20 else lt (u1 - v19) fun v22 => lp v22 x20 else some (u1, x)
def LX9_added_5 (rc : Nat → MS → Option (Int32 × MS)) : Nat → Int32 → MS → Option (Int32 × MS)
  | 0, _, _ => none
  | n + 1, u1, x => BX9_added_5 rc (LX9_added_5 rc n) u1 x
def fX9_added (rc : Nat → MS → Option (Int32 × MS)) (x : MS) : Option (Int32 × MS) := bind2 (rc 4 x) fun v1 x2 => bind2 (LX9_added_5 rc NF v1 x2) fun v24 x25 => some (v24, x25)
def BX9_term_5 (rc : Nat → MS → Option (Int32 × MS)) (lp : Int32 → MS → Option (Int32 × MS)) (u1 : Int32) (x : MS) : Option (Int32 × MS) := Option.bind (fX9_isSign x 42) fun v4 => if v4 = true then Option.bind (fX9_next x) fun x6 => bind2 (rc 5 x6) fun v8 x9 => lt (u1 * v8) fun v11 => lp v11 x9 else some (u1, x)
def LX9_term_5 (rc : Nat → MS → Option (Int32 × MS)) : Nat → Int32 → MS → Option (Int32 × MS)
  | 0, _, _ => none
  | n + 1, u1, x => BX9_term_5 rc (LX9_term_5 rc n) u1 x
def fX9_term (rc : Nat → MS → Option (Int32 × MS)) (x : MS) : Option (Int32 × MS) := bind2 (rc 5 x) fun v1 x2 => bind2 (LX9_term_5 rc NF v1 x2) fun v12 x13 => some (v12, x13)
def fX9_one (rc : Nat → MS → Option (Int32 × MS)) (x : MS) : Option (Int32 × MS) := Option.bind (fX9_isSign x 45) fun v1 => if v1 = true then bind2 (fX9_opens x) fun v40 x41 => if v40 = true then bind2 (rc 5 x41) fun v43 x44 => lt (-v43) fun v46 => lt (msS x44 0 28 ((x44.1 0 28) - 1)) fun x47 => some (v46, x47) else some (0, x41) else Option.bind (fX9_isSign x 40) fun v3 => if v3 = true then bind2 (fX9_opens x) fun v26 x27 => if v26 = true then bind2 (rc 0 x27) fun v29 x30 => Option.bind (fX9_isSign x30 41) fun v32 => Option.bind (if v32 = true then some x30 else Option.bind (fX9_fail x30) fun x34 => some x34) fun x36 => lt (msS x36 0 28 ((x36.1 0 28) - 1)) fun x37 => if (x37.1 0 29) = 0 then Option.bind (fX9_next x37) fun x38 => some (v29, x38) else some (v29, x37) else some (0, x27) else if (x.1 0 29) = 0 then if (x.1 0 24) = 2 then lt ((x.2.2 0 26).toInt32) fun v23 => Option.bind (fX9_next x) fun x24 => some (v23, x24) else if (x.1 0 29) = 0 then if (x.1 0 24) = 1 then bind2 (fX9_name x) fun v18 x19 => if (x19.1 0 29) = 0 then Option.bind (fX9_next x19) fun x21 => some (v18, x21) else some (v18, x19) else Option.bind (fX9_fail x) fun x16 => some (0, x16) else Option.bind (fX9_fail x) fun x14 => some (0, x14) else if (x.1 0 29) = 0 then if (x.1 0 24) = 1 then bind2 (fX9_name x) fun v9 x10 => if (x10.1 0 29) = 0 then Option.bind (fX9_next x10) fun x12 => some (v9, x12) else some (v9, x10) else Option.bind (fX9_fail x) fun x7 => some (0, x7) else Option.bind (fX9_fail x) fun x5 => some (0, x5)
def GPar : Nat → Nat → MS → Option (Int32 × MS)
  | 0, _, _ => none
  | n + 1, t, x => match t with
    | 0 => fX9_either (GPar n) x
    | 1 => fX9_both (GPar n) x
    | 2 => fX9_not (GPar n) x
    | 3 => fX9_added (GPar n) x
    | 4 => fX9_term (GPar n) x
    | 5 => fX9_one (GPar n) x
    | _ => none
def GPGPar (l : Launch) (G : xG) (β N : Nat) (n : Nat) : Prop :=
  (∀ (x : MS) (r : Int32) (x' : MS), GPar n 0 x = some (r, x') → Met l yX9_either (.code yX9_either cX9_either 3 (some .int) :: GT) (rmGPar n) (PcW [.ref β] (MW β G N x) (KK G)) (QcW (AM β) (some (.int r)) (MW β G N x')) 0 0 (AM β)) ∧
  (∀ (x : MS) (r : Int32) (x' : MS), GPar n 1 x = some (r, x') → Met l yX9_both (.code yX9_both cX9_both 3 (some .int) :: GT) (rmGPar n) (PcW [.ref β] (MW β G N x) (KK G)) (QcW (AM β) (some (.int r)) (MW β G N x')) 0 0 (AM β)) ∧
  (∀ (x : MS) (r : Int32) (x' : MS), GPar n 2 x = some (r, x') → Met l yX9_not (.code yX9_not cX9_not 4 (some .int) :: GT) (rmGPar n) (PcW [.ref β] (MW β G N x) (KK G)) (QcW (AM β) (some (.int r)) (MW β G N x')) 0 0 (AM β)) ∧
  (∀ (x : MS) (r : Int32) (x' : MS), GPar n 3 x = some (r, x') → Met l yX9_added (.code yX9_added cX9_added 4 (some .int) :: GT) (rmGPar n) (PcW [.ref β] (MW β G N x) (KK G)) (QcW (AM β) (some (.int r)) (MW β G N x')) 0 0 (AM β)) ∧
  (∀ (x : MS) (r : Int32) (x' : MS), GPar n 4 x = some (r, x') → Met l yX9_term (.code yX9_term cX9_term 2 (some .int) :: GT) (rmGPar n) (PcW [.ref β] (MW β G N x) (KK G)) (QcW (AM β) (some (.int r)) (MW β G N x')) 0 0 (AM β)) ∧
  (∀ (x : MS) (r : Int32) (x' : MS), GPar n 5 x = some (r, x') → Met l yX9_one (.code yX9_one cX9_one 2 (some .int) :: GT) (rmGPar n) (PcW [.ref β] (MW β G N x) (KK G)) (QcW (AM β) (some (.int r)) (MW β G N x')) 0 0 (AM β))
theorem dX9_either_0 : decode cX9_either 0 = .ok (.aload_n 0, 1) := by decide +kernel
theorem dX9_either_1 : decode cX9_either 1 = .ok (.invokevirtual 387, 3) := by decide +kernel
theorem dX9_either_4 : decode cX9_either 4 = .ok (.istore_n 1, 1) := by decide +kernel
theorem dX9_either_5 : decode cX9_either 5 = .ok (.aload_n 0, 1) := by decide +kernel
theorem dX9_either_6 : decode cX9_either 6 = .ok (.ldc2_w 390, 3) := by decide +kernel
theorem dX9_either_9 : decode cX9_either 9 = .ok (.invokevirtual 327, 3) := by decide +kernel
theorem dX9_either_12 : decode cX9_either 12 = .ok (.ifCond .eq 29, 3) := by decide +kernel
theorem dX9_either_15 : decode cX9_either 15 = .ok (.aload_n 0, 1) := by decide +kernel
theorem dX9_either_16 : decode cX9_either 16 = .ok (.invokevirtual 322, 3) := by decide +kernel
theorem dX9_either_19 : decode cX9_either 19 = .ok (.aload_n 0, 1) := by decide +kernel
theorem dX9_either_20 : decode cX9_either 20 = .ok (.invokevirtual 387, 3) := by decide +kernel
theorem dX9_either_23 : decode cX9_either 23 = .ok (.istore_n 2, 1) := by decide +kernel
theorem dX9_either_24 : decode cX9_either 24 = .ok (.iload_n 1, 1) := by decide +kernel
theorem dX9_either_25 : decode cX9_either 25 = .ok (.ifCond .ne 7, 3) := by decide +kernel
theorem dX9_either_28 : decode cX9_either 28 = .ok (.iload_n 2, 1) := by decide +kernel
theorem dX9_either_29 : decode cX9_either 29 = .ok (.ifCond .eq 7, 3) := by decide +kernel
theorem dX9_either_32 : decode cX9_either 32 = .ok (.iconst 1, 1) := by decide +kernel
theorem dX9_either_33 : decode cX9_either 33 = .ok (.goto 4, 3) := by decide +kernel
theorem dX9_either_36 : decode cX9_either 36 = .ok (.iconst 0, 1) := by decide +kernel
theorem dX9_either_37 : decode cX9_either 37 = .ok (.istore_n 1, 1) := by decide +kernel
theorem dX9_either_38 : decode cX9_either 38 = .ok (.goto (-33), 3) := by decide +kernel
theorem dX9_either_41 : decode cX9_either 41 = .ok (.iload_n 1, 1) := by decide +kernel
theorem dX9_either_42 : decode cX9_either 42 = .ok (.ireturn, 1) := by decide +kernel
theorem sgX9_387 {p : Program} {l : Launch} {e : Env} {R : Room} {s : State} {m : MethodId} {args : Array Value} {below : List Frame} {meth : Method} {c : Code} {H : Heap} {locs : List Loc} {cells slots : Nat} {Q : State → Prop} {cc : ByteArray} {pc nL : Nat} {ls : Array Slot} {rest : List Value} {ret : Option FieldType} {G : xG} {β N : Nat} {x x' : MS} {r : Int32} {rm : Room} (C : Cx p s m args meth c RX9 cc nL ret (KK G)) (hM : Met l yX9_both (.code yX9_both cX9_both 3 (some .int) :: GT) rm (PcW [.ref β] (MW β G N x) (KK G)) (QcW (AM β) (some (.int r)) (MW β G N x')) 0 0 (AM β)) (hrc : rm.cells = 0) (hrs : rm.slots = 0) (hw : MW β G N x H) (hS : va_S (AM β) s.heap H locs) (hsz : ls.size = nL) (hW : (rest.map fun v => v.category).sum ≤ 8) (hR : rm.frames + 1 ≤ R.frames) (hR2 : 22 + rm.locals ≤ R.locals) (hcs : cells ≤ R.cells ∧ slots ≤ R.slots) (hd : decode cc pc = .ok (.invokevirtual 387, 3)) (kk : ∀ (H1 : Heap) (locs1 : List Loc), MW β G N x' H1 → va_S (AM β) s.heap H1 locs1 → W p l e R s m args below meth c H1 locs1 cells slots Q (F0 m (pc + 3) ls (.int r :: rest))) : W p l e R s m args below meth c H locs cells slots Q (F0 m pc ls (.ref β :: rest)) :=
  xcallV C (As := []) (rest := rest) (nA := 0) (ci := 9) hM (tg 1185 (by decide +kernel) rfl) (tg 1187 (by decide +kernel) rfl) (sg (List.mem_of_getElem? (i := 67) (by decide +kernel)) rfl) (tg 14 (by decide +kernel) rfl) (tg 1188 (by decide +kernel) rfl) ⟨rfl, by decide +kernel, by decide +kernel, by decide +kernel⟩ rfl hrc hrs ⟨hR, hR2⟩ (hw.2 0 (by decide)) hw hS (fun _ q => q) rfl rfl hsz hW hd hcs (fun H1 locs1 hw hz hk hS => kk H1 locs1 hw hS)
set_option maxHeartbeats 4000000 in
set_option maxRecDepth 100000 in
theorem lX9_either_5 {p : Program} {l : Launch} {e : Env} {R : Room} {s : State} {m : MethodId} {args : Array Value} {below : List Frame} {meth : Method} {c : Code} {cells slots : Nat} {Q : State → Prop} {G : xG} {β N : Nat} {gn : Nat} (C : Cx p s m args meth c RX9 cX9_either 3 (some .int) (KK G)) (hRf : (gn + 1 + 3) ≤ R.frames) (hRl : ((gn + 1) * 23 + 67) ≤ R.locals) (hcs : cells ≤ R.cells ∧ slots ≤ R.slots) (IH : GPGPar l G β N gn) : ∀ (n : Nat) (u1 : Int32) (x : MS) (J : Int32 × MS) (H : Heap) (locs : List Loc) (ls : Array Slot), LX9_either_5 (GPar gn) n u1 x = some J → MW β G N x H → va_S (AM β) s.heap H locs → lv_has ls 3 [(0, .ref β), (1, .int u1)] → (∀ (w1 : Int32) (x1 : MS), J = (w1, x1) → ∀ (H : Heap) (locs : List Loc) (ls : Array Slot), MW β G N x1 H → va_S (AM β) s.heap H locs → lv_has ls 3 [(1, .int w1)] → W p l e R s m args below meth c H locs cells slots Q (F0 m 41 ls [])) → W p l e R s m args below meth c H locs cells slots Q (F0 m 5 ls []) := by
  have hx := C.1
  have hb := C.2.1
  have ho := C.2.2.2.1
  have hts := C.2.2.2.2.1
  intro n
  induction n with
  | zero =>
    intro u1 x J H locs ls hm
    exact absurd hm (by simp [LX9_either_5])
  | succ n ih =>
    intro u1 x J H locs ls hm hw hS hl ke
    replace hm : BX9_either_5 (GPar gn) (LX9_either_5 (GPar gn) n) u1 x = some J := hm
    unfold BX9_either_5 at hm
    refine lv_aload_n hx hb dX9_either_5 rfl (lv_at hl 0 rfl) ?_
    refine lv_ldc2 (v := 423) hx hb ho (hts (.constantLong RX9 390 423) (tg 1226 (by decide +kernel) rfl)) dX9_either_6 ?_
    obtain ⟨v4, h5, hm⟩ := bind_e hm
    refine sX9_327 C h5 hw hS hl.1 (Nat.le_of_ble_eq_true rfl) (by have := hRf; omega) (by have := hRl; omega) hcs dX9_either_9 (fun H locs hw hS => ?_)
    refine x_ifeqB hx hb dX9_either_12 (tgt := 41) (by decide) (fun cc => ?_) (fun cc => ?_)
    · replace hm := ite_n cc hm
      exact ke _ _ (Option.some.inj hm).symm _ _ _ hw hS (lv_sub hl [1] rfl)
    · replace hm := ite_p cc hm
      refine lv_aload_n hx hb dX9_either_15 rfl (lv_at hl 0 rfl) ?_
      obtain ⟨x6, h7, hm⟩ := bind_e hm
      refine sX9_322 C h7 hw hS hl.1 (Nat.le_of_ble_eq_true rfl) (by have := hRf; omega) (by have := hRl; omega) hcs dX9_either_16 (fun H locs hw hS => ?_)
      refine lv_aload_n hx hb dX9_either_19 rfl (lv_at hl 0 rfl) ?_
      obtain ⟨v8, x9, h10, hm⟩ := bind2_e hm
      refine sgX9_387 C (IH.2.1 _ _ _ h10) rfl rfl hw hS hl.1 (Nat.le_of_ble_eq_true rfl) (by have := hRf; show gn + 3 + 1 ≤ _; omega) (by have := hRl; show 22 + (gn * 23 + 67) ≤ _; omega) hcs dX9_either_20 (fun H locs hw hS => ?_)
      refine lv_istore_n (lv' := [(2, .int v8), (0, .ref β), (1, .int u1)]) hx hb dX9_either_23 rfl hl (by decide) rfl (fun ls hl => ?_)
      refine lv_iload_n hx hb dX9_either_24 rfl (lv_at hl 2 rfl) ?_
      refine lv_if_ne (tgt := 32) hx hb dX9_either_25 (by decide) (fun cc => ?_) (fun cc => ?_)
      · replace hm := ite_n cc hm
        refine lv_iconst (v := 1) hx hb dX9_either_32 (by decide) ?_
        refine lv_goto (tgt := 37) hx hb dX9_either_33 (by decide) ?_
        refine lv_istore_n (lv' := [(1, .int 1), (2, .int v8), (0, .ref β)]) hx hb dX9_either_37 rfl hl (by decide) rfl (fun ls hl => ?_)
        refine lv_goto (tgt := 5) hx hb dX9_either_38 (by decide) ?_
        exact ih _ _ _ _ _ _ hm hw hS (lv_sub hl [2, 0] rfl) ke
      · replace hm := ite_p cc hm
        refine lv_iload_n hx hb dX9_either_28 rfl (lv_at hl 0 rfl) ?_
        refine lv_if_eq (tgt := 36) hx hb dX9_either_29 (by decide) (fun cc => ?_) (fun cc => ?_)
        · replace hm := ite_p cc hm
          refine lv_iconst (v := 0) hx hb dX9_either_36 (by decide) ?_
          refine lv_istore_n (lv' := [(1, .int 0), (2, .int v8), (0, .ref β)]) hx hb dX9_either_37 rfl hl (by decide) rfl (fun ls hl => ?_)
          refine lv_goto (tgt := 5) hx hb dX9_either_38 (by decide) ?_
          exact ih _ _ _ _ _ _ hm hw hS (lv_sub hl [2, 0] rfl) ke
        · replace hm := ite_n cc hm
          refine lv_iconst (v := 1) hx hb dX9_either_32 (by decide) ?_
          refine lv_goto (tgt := 37) hx hb dX9_either_33 (by decide) ?_
          refine lv_istore_n (lv' := [(1, .int 1), (2, .int v8), (0, .ref β)]) hx hb dX9_either_37 rfl hl (by decide) rfl (fun ls hl => ?_)
          refine lv_goto (tgt := 5) hx hb dX9_either_38 (by decide) ?_
          exact ih _ _ _ _ _ _ hm hw hS (lv_sub hl [2, 0] rfl) ke
set_option maxHeartbeats 4000000 in
set_option maxRecDepth 100000 in
theorem kX9_either {l : Launch} {G : xG} {β N : Nat} {gn : Nat} (IH : GPGPar l G β N gn) {x x' : MS} {r : Int32} (hm : fX9_either (GPar gn) x = some (r, x')) : Met l yX9_either (.code yX9_either cX9_either 3 (some .int) :: GT) (rmGPar (gn + 1)) (PcW [.ref β] (MW β G N x) (KK G)) (QcW (AM β) (some (.int r)) (MW β G N x')) 0 0 (AM β) := by
  unfold fX9_either at hm
  refine xpro (own := RX9) (by decide +kernel) rfl (Nat.le_of_ble_eq_true rfl) ?_
  intro p e s m args below meth c C hw ls hl
  have hx := C.1
  have hb := C.2.1
  have ho := C.2.2.2.1
  have hts := C.2.2.2.2.1
  have hS : va_S (AM β) s.heap s.heap [] := va_S.rf
  have hl : lv_has ls 3 [(0, .ref β)] := hl
  have hRf : (gn + 1 + 3) ≤ (rmGPar (gn + 1)).frames := Nat.le_refl _
  have hRl : ((gn + 1) * 23 + 67) ≤ (rmGPar (gn + 1)).locals := Nat.le_refl _
  have hcs : 0 ≤ (rmGPar (gn + 1)).cells ∧ 0 ≤ (rmGPar (gn + 1)).slots := ⟨Nat.le_refl _, Nat.le_refl _⟩
  refine lv_aload_n hx hb dX9_either_0 rfl (lv_at hl 0 rfl) ?_
  obtain ⟨v1, x2, h3, hm⟩ := bind2_e hm
  refine sgX9_387 C (IH.2.1 _ _ _ h3) rfl rfl hw hS hl.1 (Nat.le_of_ble_eq_true rfl) (by have := hRf; show gn + 3 + 1 ≤ _; omega) (by have := hRl; show 22 + (gn * 23 + 67) ≤ _; omega) hcs dX9_either_1 (fun H locs hw hS => ?_)
  refine lv_istore_n (lv' := [(1, .int v1), (0, .ref β)]) hx hb dX9_either_4 rfl hl (by decide) rfl (fun ls hl => ?_)
  obtain ⟨v11, x12, hj, hm⟩ := bind2_e hm
  refine lX9_either_5 C hRf hRl hcs IH NF _ _ _ _ _ _ hj hw hS (lv_sub hl [1, 0] rfl) (fun v11_ x12_ e0 H locs ls hw hS hl => ?_)
  cases e0
  refine lv_iload_n hx hb dX9_either_41 rfl (lv_at hl 0 rfl) ?_
  obtain ⟨rfl, rfl⟩ := inj2 hm
  exact xret_i C hw hS dX9_either_42
theorem dX9_both_0 : decode cX9_both 0 = .ok (.aload_n 0, 1) := by decide +kernel
theorem dX9_both_1 : decode cX9_both 1 = .ok (.invokevirtual 379, 3) := by decide +kernel
theorem dX9_both_4 : decode cX9_both 4 = .ok (.istore_n 1, 1) := by decide +kernel
theorem dX9_both_5 : decode cX9_both 5 = .ok (.aload_n 0, 1) := by decide +kernel
theorem dX9_both_6 : decode cX9_both 6 = .ok (.ldc2_w 385, 3) := by decide +kernel
theorem dX9_both_9 : decode cX9_both 9 = .ok (.invokevirtual 327, 3) := by decide +kernel
theorem dX9_both_12 : decode cX9_both 12 = .ok (.ifCond .eq 29, 3) := by decide +kernel
theorem dX9_both_15 : decode cX9_both 15 = .ok (.aload_n 0, 1) := by decide +kernel
theorem dX9_both_16 : decode cX9_both 16 = .ok (.invokevirtual 322, 3) := by decide +kernel
theorem dX9_both_19 : decode cX9_both 19 = .ok (.aload_n 0, 1) := by decide +kernel
theorem dX9_both_20 : decode cX9_both 20 = .ok (.invokevirtual 379, 3) := by decide +kernel
theorem dX9_both_23 : decode cX9_both 23 = .ok (.istore_n 2, 1) := by decide +kernel
theorem dX9_both_24 : decode cX9_both 24 = .ok (.iload_n 1, 1) := by decide +kernel
theorem dX9_both_25 : decode cX9_both 25 = .ok (.ifCond .eq 11, 3) := by decide +kernel
theorem dX9_both_28 : decode cX9_both 28 = .ok (.iload_n 2, 1) := by decide +kernel
theorem dX9_both_29 : decode cX9_both 29 = .ok (.ifCond .eq 7, 3) := by decide +kernel
theorem dX9_both_32 : decode cX9_both 32 = .ok (.iconst 1, 1) := by decide +kernel
theorem dX9_both_33 : decode cX9_both 33 = .ok (.goto 4, 3) := by decide +kernel
theorem dX9_both_36 : decode cX9_both 36 = .ok (.iconst 0, 1) := by decide +kernel
theorem dX9_both_37 : decode cX9_both 37 = .ok (.istore_n 1, 1) := by decide +kernel
theorem dX9_both_38 : decode cX9_both 38 = .ok (.goto (-33), 3) := by decide +kernel
theorem dX9_both_41 : decode cX9_both 41 = .ok (.iload_n 1, 1) := by decide +kernel
theorem dX9_both_42 : decode cX9_both 42 = .ok (.ireturn, 1) := by decide +kernel
theorem sgX9_379 {p : Program} {l : Launch} {e : Env} {R : Room} {s : State} {m : MethodId} {args : Array Value} {below : List Frame} {meth : Method} {c : Code} {H : Heap} {locs : List Loc} {cells slots : Nat} {Q : State → Prop} {cc : ByteArray} {pc nL : Nat} {ls : Array Slot} {rest : List Value} {ret : Option FieldType} {G : xG} {β N : Nat} {x x' : MS} {r : Int32} {rm : Room} (C : Cx p s m args meth c RX9 cc nL ret (KK G)) (hM : Met l yX9_not (.code yX9_not cX9_not 4 (some .int) :: GT) rm (PcW [.ref β] (MW β G N x) (KK G)) (QcW (AM β) (some (.int r)) (MW β G N x')) 0 0 (AM β)) (hrc : rm.cells = 0) (hrs : rm.slots = 0) (hw : MW β G N x H) (hS : va_S (AM β) s.heap H locs) (hsz : ls.size = nL) (hW : (rest.map fun v => v.category).sum ≤ 8) (hR : rm.frames + 1 ≤ R.frames) (hR2 : 23 + rm.locals ≤ R.locals) (hcs : cells ≤ R.cells ∧ slots ≤ R.slots) (hd : decode cc pc = .ok (.invokevirtual 379, 3)) (kk : ∀ (H1 : Heap) (locs1 : List Loc), MW β G N x' H1 → va_S (AM β) s.heap H1 locs1 → W p l e R s m args below meth c H1 locs1 cells slots Q (F0 m (pc + 3) ls (.int r :: rest))) : W p l e R s m args below meth c H locs cells slots Q (F0 m pc ls (.ref β :: rest)) :=
  xcallV C (As := []) (rest := rest) (nA := 0) (ci := 9) hM (tg 1189 (by decide +kernel) rfl) (tg 1191 (by decide +kernel) rfl) (sg (List.mem_of_getElem? (i := 68) (by decide +kernel)) rfl) (tg 14 (by decide +kernel) rfl) (tg 1192 (by decide +kernel) rfl) ⟨rfl, by decide +kernel, by decide +kernel, by decide +kernel⟩ rfl hrc hrs ⟨hR, hR2⟩ (hw.2 0 (by decide)) hw hS (fun _ q => q) rfl rfl hsz hW hd hcs (fun H1 locs1 hw hz hk hS => kk H1 locs1 hw hS)
set_option maxHeartbeats 4000000 in
set_option maxRecDepth 100000 in
theorem lX9_both_5 {p : Program} {l : Launch} {e : Env} {R : Room} {s : State} {m : MethodId} {args : Array Value} {below : List Frame} {meth : Method} {c : Code} {cells slots : Nat} {Q : State → Prop} {G : xG} {β N : Nat} {gn : Nat} (C : Cx p s m args meth c RX9 cX9_both 3 (some .int) (KK G)) (hRf : (gn + 1 + 3) ≤ R.frames) (hRl : ((gn + 1) * 23 + 67) ≤ R.locals) (hcs : cells ≤ R.cells ∧ slots ≤ R.slots) (IH : GPGPar l G β N gn) : ∀ (n : Nat) (u1 : Int32) (x : MS) (J : Int32 × MS) (H : Heap) (locs : List Loc) (ls : Array Slot), LX9_both_5 (GPar gn) n u1 x = some J → MW β G N x H → va_S (AM β) s.heap H locs → lv_has ls 3 [(0, .ref β), (1, .int u1)] → (∀ (w1 : Int32) (x1 : MS), J = (w1, x1) → ∀ (H : Heap) (locs : List Loc) (ls : Array Slot), MW β G N x1 H → va_S (AM β) s.heap H locs → lv_has ls 3 [(1, .int w1)] → W p l e R s m args below meth c H locs cells slots Q (F0 m 41 ls [])) → W p l e R s m args below meth c H locs cells slots Q (F0 m 5 ls []) := by
  have hx := C.1
  have hb := C.2.1
  have ho := C.2.2.2.1
  have hts := C.2.2.2.2.1
  intro n
  induction n with
  | zero =>
    intro u1 x J H locs ls hm
    exact absurd hm (by simp [LX9_both_5])
  | succ n ih =>
    intro u1 x J H locs ls hm hw hS hl ke
    replace hm : BX9_both_5 (GPar gn) (LX9_both_5 (GPar gn) n) u1 x = some J := hm
    unfold BX9_both_5 at hm
    refine lv_aload_n hx hb dX9_both_5 rfl (lv_at hl 0 rfl) ?_
    refine lv_ldc2 (v := 1111) hx hb ho (hts (.constantLong RX9 385 1111) (tg 1225 (by decide +kernel) rfl)) dX9_both_6 ?_
    obtain ⟨v4, h5, hm⟩ := bind_e hm
    refine sX9_327 C h5 hw hS hl.1 (Nat.le_of_ble_eq_true rfl) (by have := hRf; omega) (by have := hRl; omega) hcs dX9_both_9 (fun H locs hw hS => ?_)
    refine x_ifeqB hx hb dX9_both_12 (tgt := 41) (by decide) (fun cc => ?_) (fun cc => ?_)
    · replace hm := ite_n cc hm
      exact ke _ _ (Option.some.inj hm).symm _ _ _ hw hS (lv_sub hl [1] rfl)
    · replace hm := ite_p cc hm
      refine lv_aload_n hx hb dX9_both_15 rfl (lv_at hl 0 rfl) ?_
      obtain ⟨x6, h7, hm⟩ := bind_e hm
      refine sX9_322 C h7 hw hS hl.1 (Nat.le_of_ble_eq_true rfl) (by have := hRf; omega) (by have := hRl; omega) hcs dX9_both_16 (fun H locs hw hS => ?_)
      refine lv_aload_n hx hb dX9_both_19 rfl (lv_at hl 0 rfl) ?_
      obtain ⟨v8, x9, h10, hm⟩ := bind2_e hm
      refine sgX9_379 C (IH.2.2.1 _ _ _ h10) rfl rfl hw hS hl.1 (Nat.le_of_ble_eq_true rfl) (by have := hRf; show gn + 3 + 1 ≤ _; omega) (by have := hRl; show 23 + (gn * 23 + 67) ≤ _; omega) hcs dX9_both_20 (fun H locs hw hS => ?_)
      refine lv_istore_n (lv' := [(2, .int v8), (0, .ref β), (1, .int u1)]) hx hb dX9_both_23 rfl hl (by decide) rfl (fun ls hl => ?_)
      refine lv_iload_n hx hb dX9_both_24 rfl (lv_at hl 2 rfl) ?_
      refine lv_if_eq (tgt := 36) hx hb dX9_both_25 (by decide) (fun cc => ?_) (fun cc => ?_)
      · replace hm := ite_p cc hm
        refine lv_iconst (v := 0) hx hb dX9_both_36 (by decide) ?_
        refine lv_istore_n (lv' := [(1, .int 0), (2, .int v8), (0, .ref β)]) hx hb dX9_both_37 rfl hl (by decide) rfl (fun ls hl => ?_)
        refine lv_goto (tgt := 5) hx hb dX9_both_38 (by decide) ?_
        exact ih _ _ _ _ _ _ hm hw hS (lv_sub hl [2, 0] rfl) ke
      · replace hm := ite_n cc hm
        refine lv_iload_n hx hb dX9_both_28 rfl (lv_at hl 0 rfl) ?_
        refine lv_if_eq (tgt := 36) hx hb dX9_both_29 (by decide) (fun cc => ?_) (fun cc => ?_)
        · replace hm := ite_p cc hm
          refine lv_iconst (v := 0) hx hb dX9_both_36 (by decide) ?_
          refine lv_istore_n (lv' := [(1, .int 0), (2, .int v8), (0, .ref β)]) hx hb dX9_both_37 rfl hl (by decide) rfl (fun ls hl => ?_)
          refine lv_goto (tgt := 5) hx hb dX9_both_38 (by decide) ?_
          exact ih _ _ _ _ _ _ hm hw hS (lv_sub hl [2, 0] rfl) ke
        · replace hm := ite_n cc hm
          refine lv_iconst (v := 1) hx hb dX9_both_32 (by decide) ?_
          refine lv_goto (tgt := 37) hx hb dX9_both_33 (by decide) ?_
          refine lv_istore_n (lv' := [(1, .int 1), (2, .int v8), (0, .ref β)]) hx hb dX9_both_37 rfl hl (by decide) rfl (fun ls hl => ?_)
          refine lv_goto (tgt := 5) hx hb dX9_both_38 (by decide) ?_
          exact ih _ _ _ _ _ _ hm hw hS (lv_sub hl [2, 0] rfl) ke
set_option maxHeartbeats 4000000 in
set_option maxRecDepth 100000 in
theorem kX9_both {l : Launch} {G : xG} {β N : Nat} {gn : Nat} (IH : GPGPar l G β N gn) {x x' : MS} {r : Int32} (hm : fX9_both (GPar gn) x = some (r, x')) : Met l yX9_both (.code yX9_both cX9_both 3 (some .int) :: GT) (rmGPar (gn + 1)) (PcW [.ref β] (MW β G N x) (KK G)) (QcW (AM β) (some (.int r)) (MW β G N x')) 0 0 (AM β) := by
  unfold fX9_both at hm
  refine xpro (own := RX9) (by decide +kernel) rfl (Nat.le_of_ble_eq_true rfl) ?_
  intro p e s m args below meth c C hw ls hl
  have hx := C.1
  have hb := C.2.1
  have ho := C.2.2.2.1
  have hts := C.2.2.2.2.1
  have hS : va_S (AM β) s.heap s.heap [] := va_S.rf
  have hl : lv_has ls 3 [(0, .ref β)] := hl
  have hRf : (gn + 1 + 3) ≤ (rmGPar (gn + 1)).frames := Nat.le_refl _
  have hRl : ((gn + 1) * 23 + 67) ≤ (rmGPar (gn + 1)).locals := Nat.le_refl _
  have hcs : 0 ≤ (rmGPar (gn + 1)).cells ∧ 0 ≤ (rmGPar (gn + 1)).slots := ⟨Nat.le_refl _, Nat.le_refl _⟩
  refine lv_aload_n hx hb dX9_both_0 rfl (lv_at hl 0 rfl) ?_
  obtain ⟨v1, x2, h3, hm⟩ := bind2_e hm
  refine sgX9_379 C (IH.2.2.1 _ _ _ h3) rfl rfl hw hS hl.1 (Nat.le_of_ble_eq_true rfl) (by have := hRf; show gn + 3 + 1 ≤ _; omega) (by have := hRl; show 23 + (gn * 23 + 67) ≤ _; omega) hcs dX9_both_1 (fun H locs hw hS => ?_)
  refine lv_istore_n (lv' := [(1, .int v1), (0, .ref β)]) hx hb dX9_both_4 rfl hl (by decide) rfl (fun ls hl => ?_)
  obtain ⟨v11, x12, hj, hm⟩ := bind2_e hm
  refine lX9_both_5 C hRf hRl hcs IH NF _ _ _ _ _ _ hj hw hS (lv_sub hl [1, 0] rfl) (fun v11_ x12_ e0 H locs ls hw hS hl => ?_)
  cases e0
  refine lv_iload_n hx hb dX9_both_41 rfl (lv_at hl 0 rfl) ?_
  obtain ⟨rfl, rfl⟩ := inj2 hm
  exact xret_i C hw hS dX9_both_42
theorem dX9_not_0 : decode cX9_not 0 = .ok (.aload_n 0, 1) := by decide +kernel
theorem dX9_not_1 : decode cX9_not 1 = .ok (.ldc2_w 377, 3) := by decide +kernel
theorem dX9_not_4 : decode cX9_not 4 = .ok (.invokevirtual 327, 3) := by decide +kernel
theorem dX9_not_7 : decode cX9_not 7 = .ok (.ifCond .eq 37, 3) := by decide +kernel
theorem dX9_not_10 : decode cX9_not 10 = .ok (.aload_n 0, 1) := by decide +kernel
theorem dX9_not_11 : decode cX9_not 11 = .ok (.invokevirtual 359, 3) := by decide +kernel
theorem dX9_not_14 : decode cX9_not 14 = .ok (.ifCond .ne 5, 3) := by decide +kernel
theorem dX9_not_17 : decode cX9_not 17 = .ok (.iconst 0, 1) := by decide +kernel
theorem dX9_not_18 : decode cX9_not 18 = .ok (.ireturn, 1) := by decide +kernel
theorem dX9_not_19 : decode cX9_not 19 = .ok (.aload_n 0, 1) := by decide +kernel
theorem dX9_not_20 : decode cX9_not 20 = .ok (.invokevirtual 379, 3) := by decide +kernel
theorem dX9_not_23 : decode cX9_not 23 = .ok (.istore_n 1, 1) := by decide +kernel
theorem dX9_not_24 : decode cX9_not 24 = .ok (.aload_n 0, 1) := by decide +kernel
theorem dX9_not_25 : decode cX9_not 25 = .ok (.dup, 1) := by decide +kernel
theorem dX9_not_26 : decode cX9_not 26 = .ok (.getfield 316, 3) := by decide +kernel
theorem dX9_not_29 : decode cX9_not 29 = .ok (.iconst 1, 1) := by decide +kernel
theorem dX9_not_30 : decode cX9_not 30 = .ok (.isub, 1) := by decide +kernel
theorem dX9_not_31 : decode cX9_not 31 = .ok (.putfield 316, 3) := by decide +kernel
theorem dX9_not_34 : decode cX9_not 34 = .ok (.iload_n 1, 1) := by decide +kernel
theorem dX9_not_35 : decode cX9_not 35 = .ok (.ifCond .ne 7, 3) := by decide +kernel
theorem dX9_not_38 : decode cX9_not 38 = .ok (.iconst 1, 1) := by decide +kernel
theorem dX9_not_39 : decode cX9_not 39 = .ok (.goto 4, 3) := by decide +kernel
theorem dX9_not_42 : decode cX9_not 42 = .ok (.iconst 0, 1) := by decide +kernel
theorem dX9_not_43 : decode cX9_not 43 = .ok (.ireturn, 1) := by decide +kernel
theorem dX9_not_44 : decode cX9_not 44 = .ok (.aload_n 0, 1) := by decide +kernel
theorem dX9_not_45 : decode cX9_not 45 = .ok (.invokevirtual 382, 3) := by decide +kernel
theorem dX9_not_48 : decode cX9_not 48 = .ok (.istore_n 1, 1) := by decide +kernel
theorem dX9_not_49 : decode cX9_not 49 = .ok (.aload_n 0, 1) := by decide +kernel
theorem dX9_not_50 : decode cX9_not 50 = .ok (.bipush 60, 2) := by decide +kernel
theorem dX9_not_52 : decode cX9_not 52 = .ok (.invokevirtual 356, 3) := by decide +kernel
theorem dX9_not_55 : decode cX9_not 55 = .ok (.ifCond .ne 14, 3) := by decide +kernel
theorem dX9_not_58 : decode cX9_not 58 = .ok (.aload_n 0, 1) := by decide +kernel
theorem dX9_not_59 : decode cX9_not 59 = .ok (.bipush 61, 2) := by decide +kernel
theorem dX9_not_61 : decode cX9_not 61 = .ok (.invokevirtual 356, 3) := by decide +kernel
theorem dX9_not_64 : decode cX9_not 64 = .ok (.ifCond .ne 5, 3) := by decide +kernel
theorem dX9_not_67 : decode cX9_not 67 = .ok (.iload_n 1, 1) := by decide +kernel
theorem dX9_not_68 : decode cX9_not 68 = .ok (.ireturn, 1) := by decide +kernel
theorem dX9_not_69 : decode cX9_not 69 = .ok (.aload_n 0, 1) := by decide +kernel
theorem dX9_not_70 : decode cX9_not 70 = .ok (.getfield 295, 3) := by decide +kernel
theorem dX9_not_73 : decode cX9_not 73 = .ok (.ldc2_w 154, 3) := by decide +kernel
theorem dX9_not_76 : decode cX9_not 76 = .ok (.lcmp, 1) := by decide +kernel
theorem dX9_not_77 : decode cX9_not 77 = .ok (.ifCond .ne 7, 3) := by decide +kernel
theorem dX9_not_80 : decode cX9_not 80 = .ok (.iconst 1, 1) := by decide +kernel
theorem dX9_not_81 : decode cX9_not 81 = .ok (.goto 4, 3) := by decide +kernel
theorem dX9_not_84 : decode cX9_not 84 = .ok (.iconst 0, 1) := by decide +kernel
theorem dX9_not_85 : decode cX9_not 85 = .ok (.istore_n 2, 1) := by decide +kernel
theorem dX9_not_86 : decode cX9_not 86 = .ok (.aload_n 0, 1) := by decide +kernel
theorem dX9_not_87 : decode cX9_not 87 = .ok (.invokevirtual 322, 3) := by decide +kernel
theorem dX9_not_90 : decode cX9_not 90 = .ok (.aload_n 0, 1) := by decide +kernel
theorem dX9_not_91 : decode cX9_not 91 = .ok (.invokevirtual 382, 3) := by decide +kernel
theorem dX9_not_94 : decode cX9_not 94 = .ok (.istore_n 3, 1) := by decide +kernel
theorem dX9_not_95 : decode cX9_not 95 = .ok (.iload_n 2, 1) := by decide +kernel
theorem dX9_not_96 : decode cX9_not 96 = .ok (.ifCond .eq 11, 3) := by decide +kernel
theorem dX9_not_99 : decode cX9_not 99 = .ok (.iload_n 1, 1) := by decide +kernel
theorem dX9_not_100 : decode cX9_not 100 = .ok (.iload_n 3, 1) := by decide +kernel
theorem dX9_not_101 : decode cX9_not 101 = .ok (.if_icmp .ge 15, 3) := by decide +kernel
theorem dX9_not_104 : decode cX9_not 104 = .ok (.goto 8, 3) := by decide +kernel
theorem dX9_not_107 : decode cX9_not 107 = .ok (.iload_n 1, 1) := by decide +kernel
theorem dX9_not_108 : decode cX9_not 108 = .ok (.iload_n 3, 1) := by decide +kernel
theorem dX9_not_109 : decode cX9_not 109 = .ok (.if_icmp .ne 7, 3) := by decide +kernel
theorem dX9_not_112 : decode cX9_not 112 = .ok (.iconst 1, 1) := by decide +kernel
theorem dX9_not_113 : decode cX9_not 113 = .ok (.goto 4, 3) := by decide +kernel
theorem dX9_not_116 : decode cX9_not 116 = .ok (.iconst 0, 1) := by decide +kernel
theorem dX9_not_117 : decode cX9_not 117 = .ok (.ireturn, 1) := by decide +kernel
theorem sgX9_382 {p : Program} {l : Launch} {e : Env} {R : Room} {s : State} {m : MethodId} {args : Array Value} {below : List Frame} {meth : Method} {c : Code} {H : Heap} {locs : List Loc} {cells slots : Nat} {Q : State → Prop} {cc : ByteArray} {pc nL : Nat} {ls : Array Slot} {rest : List Value} {ret : Option FieldType} {G : xG} {β N : Nat} {x x' : MS} {r : Int32} {rm : Room} (C : Cx p s m args meth c RX9 cc nL ret (KK G)) (hM : Met l yX9_added (.code yX9_added cX9_added 4 (some .int) :: GT) rm (PcW [.ref β] (MW β G N x) (KK G)) (QcW (AM β) (some (.int r)) (MW β G N x')) 0 0 (AM β)) (hrc : rm.cells = 0) (hrs : rm.slots = 0) (hw : MW β G N x H) (hS : va_S (AM β) s.heap H locs) (hsz : ls.size = nL) (hW : (rest.map fun v => v.category).sum ≤ 8) (hR : rm.frames + 1 ≤ R.frames) (hR2 : 23 + rm.locals ≤ R.locals) (hcs : cells ≤ R.cells ∧ slots ≤ R.slots) (hd : decode cc pc = .ok (.invokevirtual 382, 3)) (kk : ∀ (H1 : Heap) (locs1 : List Loc), MW β G N x' H1 → va_S (AM β) s.heap H1 locs1 → W p l e R s m args below meth c H1 locs1 cells slots Q (F0 m (pc + 3) ls (.int r :: rest))) : W p l e R s m args below meth c H locs cells slots Q (F0 m pc ls (.ref β :: rest)) :=
  xcallV C (As := []) (rest := rest) (nA := 0) (ci := 9) hM (tg 1198 (by decide +kernel) rfl) (tg 1200 (by decide +kernel) rfl) (sg (List.mem_of_getElem? (i := 70) (by decide +kernel)) rfl) (tg 14 (by decide +kernel) rfl) (tg 1201 (by decide +kernel) rfl) ⟨rfl, by decide +kernel, by decide +kernel, by decide +kernel⟩ rfl hrc hrs ⟨hR, hR2⟩ (hw.2 0 (by decide)) hw hS (fun _ q => q) rfl rfl hsz hW hd hcs (fun H1 locs1 hw hz hk hS => kk H1 locs1 hw hS)
theorem sX9_356 {p : Program} {l : Launch} {e : Env} {R : Room} {s : State} {m : MethodId} {args : Array Value} {below : List Frame} {meth : Method} {c : Code} {H : Heap} {locs : List Loc} {cells slots : Nat} {Q : State → Prop} {cc : ByteArray} {pc nL : Nat} {ls : Array Slot} {rest : List Value} {ret : Option FieldType} {G : xG} {β N : Nat} {x : MS} {a1 : Int32} {r : Bool} (C : Cx p s m args meth c RX9 cc nL ret (KK G)) (h : fX9_isSign x a1 = some r) (hw : MW β G N x H) (hS : va_S (AM β) s.heap H locs) (hsz : ls.size = nL) (hW : (rest.map fun v => v.category).sum ≤ 8) (hR : 1 ≤ R.frames) (hR2 : 21 ≤ R.locals) (hcs : cells ≤ R.cells ∧ slots ≤ R.slots) (hd : decode cc pc = .ok (.invokevirtual 356, 3)) (kk : ∀ (H1 : Heap) (locs1 : List Loc), MW β G N x H1 → va_S (AM β) s.heap H1 locs1 → W p l e R s m args below meth c H1 locs1 cells slots Q (F0 m (pc + 3) ls (.int (bI r) :: rest))) : W p l e R s m args below meth c H locs cells slots Q (F0 m pc ls (.int a1 :: .ref β :: rest)) :=
  xcallV C (As := [.int a1]) (rest := rest) (nA := 1) (ci := 9) (kX9_isSign h) (tg 1210 (by decide +kernel) rfl) (tg 1212 (by decide +kernel) rfl) (sg (List.mem_of_getElem? (i := 73) (by decide +kernel)) rfl) (tg 14 (by decide +kernel) rfl) (tg 1213 (by decide +kernel) rfl) ⟨rfl, by decide +kernel, by decide +kernel, by decide +kernel⟩ rfl rfl rfl ⟨hR, hR2⟩ (hw.2 0 (by decide)) hw hS (fun _ q => q) rfl rfl hsz hW hd hcs (fun H1 locs1 hw hz hk hS => kk H1 locs1 hw hS)
theorem sX9_359 {p : Program} {l : Launch} {e : Env} {R : Room} {s : State} {m : MethodId} {args : Array Value} {below : List Frame} {meth : Method} {c : Code} {H : Heap} {locs : List Loc} {cells slots : Nat} {Q : State → Prop} {cc : ByteArray} {pc nL : Nat} {ls : Array Slot} {rest : List Value} {ret : Option FieldType} {G : xG} {β N : Nat} {x x' : MS} {r : Bool} (C : Cx p s m args meth c RX9 cc nL ret (KK G)) (h : fX9_opens x = some (r, x')) (hw : MW β G N x H) (hS : va_S (AM β) s.heap H locs) (hsz : ls.size = nL) (hW : (rest.map fun v => v.category).sum ≤ 8) (hR : 3 ≤ R.frames) (hR2 : 67 ≤ R.locals) (hcs : cells ≤ R.cells ∧ slots ≤ R.slots) (hd : decode cc pc = .ok (.invokevirtual 359, 3)) (kk : ∀ (H1 : Heap) (locs1 : List Loc), MW β G N x' H1 → va_S (AM β) s.heap H1 locs1 → W p l e R s m args below meth c H1 locs1 cells slots Q (F0 m (pc + 3) ls (.int (bI r) :: rest))) : W p l e R s m args below meth c H locs cells slots Q (F0 m pc ls (.ref β :: rest)) :=
  xcallV C (As := []) (rest := rest) (nA := 0) (ci := 9) (kX9_opens h) (tg 1194 (by decide +kernel) rfl) (tg 1196 (by decide +kernel) rfl) (sg (List.mem_of_getElem? (i := 69) (by decide +kernel)) rfl) (tg 14 (by decide +kernel) rfl) (tg 1197 (by decide +kernel) rfl) ⟨rfl, by decide +kernel, by decide +kernel, by decide +kernel⟩ rfl rfl rfl ⟨hR, hR2⟩ (hw.2 0 (by decide)) hw hS (fun _ q => q) rfl rfl hsz hW hd hcs (fun H1 locs1 hw hz hk hS => kk H1 locs1 hw hS)
set_option maxHeartbeats 4000000 in
set_option maxRecDepth 100000 in
theorem kX9_not {l : Launch} {G : xG} {β N : Nat} {gn : Nat} (IH : GPGPar l G β N gn) {x x' : MS} {r : Int32} (hm : fX9_not (GPar gn) x = some (r, x')) : Met l yX9_not (.code yX9_not cX9_not 4 (some .int) :: GT) (rmGPar (gn + 1)) (PcW [.ref β] (MW β G N x) (KK G)) (QcW (AM β) (some (.int r)) (MW β G N x')) 0 0 (AM β) := by
  unfold fX9_not at hm
  refine xpro (own := RX9) (by decide +kernel) rfl (Nat.le_of_ble_eq_true rfl) ?_
  intro p e s m args below meth c C hw ls hl
  have hx := C.1
  have hb := C.2.1
  have ho := C.2.2.2.1
  have hts := C.2.2.2.2.1
  have hS : va_S (AM β) s.heap s.heap [] := va_S.rf
  have hl : lv_has ls 4 [(0, .ref β)] := hl
  have hRf : (gn + 1 + 3) ≤ (rmGPar (gn + 1)).frames := Nat.le_refl _
  have hRl : ((gn + 1) * 23 + 67) ≤ (rmGPar (gn + 1)).locals := Nat.le_refl _
  have hcs : 0 ≤ (rmGPar (gn + 1)).cells ∧ 0 ≤ (rmGPar (gn + 1)).slots := ⟨Nat.le_refl _, Nat.le_refl _⟩
  refine lv_aload_n hx hb dX9_not_0 rfl (lv_at hl 0 rfl) ?_
  refine lv_ldc2 (v := 10631) hx hb ho (hts (.constantLong RX9 377 10631) (tg 1193 (by decide +kernel) rfl)) dX9_not_1 ?_
  obtain ⟨v1, h2, hm⟩ := bind_e hm
  refine sX9_327 C h2 hw hS hl.1 (Nat.le_of_ble_eq_true rfl) (by have := hRf; omega) (by have := hRl; omega) hcs dX9_not_4 (fun H locs hw hS => ?_)
  refine x_ifeqB hx hb dX9_not_7 (tgt := 44) (by decide) (fun cc => ?_) (fun cc => ?_)
  · replace hm := ite_n cc hm
    refine lv_aload_n hx hb dX9_not_44 rfl (lv_at hl 0 rfl) ?_
    obtain ⟨v3, x4, h5, hm⟩ := bind2_e hm
    refine sgX9_382 C (IH.2.2.2.1 _ _ _ h5) rfl rfl hw hS hl.1 (Nat.le_of_ble_eq_true rfl) (by have := hRf; show gn + 3 + 1 ≤ _; omega) (by have := hRl; show 23 + (gn * 23 + 67) ≤ _; omega) hcs dX9_not_45 (fun H locs hw hS => ?_)
    refine lv_istore_n (lv' := [(1, .int v3), (0, .ref β)]) hx hb dX9_not_48 rfl hl (by decide) rfl (fun ls hl => ?_)
    refine lv_aload_n hx hb dX9_not_49 rfl (lv_at hl 1 rfl) ?_
    refine lv_bipush (v := 60) hx hb dX9_not_50 (by decide) ?_
    obtain ⟨v6, h7, hm⟩ := bind_e hm
    refine sX9_356 C h7 hw hS hl.1 (Nat.le_of_ble_eq_true rfl) (by have := hRf; omega) (by have := hRl; omega) hcs dX9_not_52 (fun H locs hw hS => ?_)
    refine x_ifneB hx hb dX9_not_55 (tgt := 69) (by decide) (fun cc => ?_) (fun cc => ?_)
    · replace hm := ite_p cc hm
      refine lv_aload_n hx hb dX9_not_69 rfl (lv_at hl 1 rfl) ?_
      refine gX9_295 C hw dX9_not_70 ?_
      refine lv_ldc2 (v := 60) hx hb ho (hts (.constantLong RX9 154 60) (tg 1111 (by decide +kernel) rfl)) dX9_not_73 ?_
      refine W.lcmp hx hb dX9_not_76 ?_
      obtain ⟨v8, hj, hm⟩ := bind_e hm
      have kk : ∀ (H : Heap) (locs : List Loc) (ls : Array Slot), MW β G N x4 H → va_S (AM β) s.heap H locs → lv_has ls 4 [(0, .ref β), (1, .int v3)] → W p l e (rmGPar (gn + 1)) s m args below meth c H locs 0 0 (MQ below (QcW (AM β) (some (.int r)) (MW β G N x')) args s 0 0 (AM β)) (F0 m 85 ls [.int (bI v8)]) := by
        intro H locs ls hw hS hl
        refine lv_istore_n (lv' := [(2, .int (bI v8)), (0, .ref β), (1, .int v3)]) hx hb dX9_not_85 rfl hl (by decide) rfl (fun ls hl => ?_)
        refine lv_aload_n hx hb dX9_not_86 rfl (lv_at hl 1 rfl) ?_
        obtain ⟨x9, h10, hm⟩ := bind_e hm
        refine sX9_322 C h10 hw hS hl.1 (Nat.le_of_ble_eq_true rfl) (by have := hRf; omega) (by have := hRl; omega) hcs dX9_not_87 (fun H locs hw hS => ?_)
        refine lv_aload_n hx hb dX9_not_90 rfl (lv_at hl 1 rfl) ?_
        obtain ⟨v11, x12, h13, hm⟩ := bind2_e hm
        refine sgX9_382 C (IH.2.2.2.1 _ _ _ h13) rfl rfl hw hS hl.1 (Nat.le_of_ble_eq_true rfl) (by have := hRf; show gn + 3 + 1 ≤ _; omega) (by have := hRl; show 23 + (gn * 23 + 67) ≤ _; omega) hcs dX9_not_91 (fun H locs hw hS => ?_)
        refine lv_istore_n (lv' := [(3, .int v11), (2, .int (bI v8)), (0, .ref β), (1, .int v3)]) hx hb dX9_not_94 rfl hl (by decide) rfl (fun ls hl => ?_)
        refine lv_iload_n hx hb dX9_not_95 rfl (lv_at hl 1 rfl) ?_
        refine x_ifeqB hx hb dX9_not_96 (tgt := 107) (by decide) (fun cc => ?_) (fun cc => ?_)
        · replace hm := ite_n cc hm
          refine lv_iload_n hx hb dX9_not_107 rfl (lv_at hl 3 rfl) ?_
          refine lv_iload_n hx hb dX9_not_108 rfl (lv_at hl 0 rfl) ?_
          refine lv_icmp_ne (tgt := 116) hx hb dX9_not_109 (by decide) (fun cc => ?_) (fun cc => ?_)
          · replace hm := ite_n cc hm
            refine lv_iconst (v := 0) hx hb dX9_not_116 (by decide) ?_
            obtain ⟨rfl, rfl⟩ := inj2 hm
            exact xret_i C hw hS dX9_not_117
          · replace hm := ite_p cc hm
            refine lv_iconst (v := 1) hx hb dX9_not_112 (by decide) ?_
            refine lv_goto (tgt := 117) hx hb dX9_not_113 (by decide) ?_
            obtain ⟨rfl, rfl⟩ := inj2 hm
            exact xret_i C hw hS dX9_not_117
        · replace hm := ite_p cc hm
          refine lv_iload_n hx hb dX9_not_99 rfl (lv_at hl 3 rfl) ?_
          refine lv_iload_n hx hb dX9_not_100 rfl (lv_at hl 0 rfl) ?_
          refine lv_icmp_ge (tgt := 116) hx hb dX9_not_101 (by decide) (fun cc => ?_) (fun cc => ?_)
          · replace hm := ite_p cc hm
            refine lv_iconst (v := 0) hx hb dX9_not_116 (by decide) ?_
            obtain ⟨rfl, rfl⟩ := inj2 hm
            exact xret_i C hw hS dX9_not_117
          · replace hm := ite_n cc hm
            refine lv_goto (tgt := 112) hx hb dX9_not_104 (by decide) ?_
            refine lv_iconst (v := 1) hx hb dX9_not_112 (by decide) ?_
            refine lv_goto (tgt := 117) hx hb dX9_not_113 (by decide) ?_
            obtain ⟨rfl, rfl⟩ := inj2 hm
            exact xret_i C hw hS dX9_not_117
      clear hm
      replace hm := hj
      clear hj
      refine lv_if_ne (tgt := 84) hx hb dX9_not_77 (by decide) (fun cc => ?_) (fun cc => ?_)
      · rw [lg_cmp_eq] at cc
        replace hm := ite_n cc hm
        refine lv_iconst (v := 0) hx hb dX9_not_84 (by decide) ?_
        obtain rfl := Option.some.inj hm
        exact kk _ _ _ hw hS (lv_sub hl [1, 0] rfl)
      · rw [lg_cmp_eq] at cc
        replace hm := ite_p cc hm
        refine lv_iconst (v := 1) hx hb dX9_not_80 (by decide) ?_
        refine lv_goto (tgt := 85) hx hb dX9_not_81 (by decide) ?_
        obtain rfl := Option.some.inj hm
        exact kk _ _ _ hw hS (lv_sub hl [1, 0] rfl)
    · replace hm := ite_n cc hm
      refine lv_aload_n hx hb dX9_not_58 rfl (lv_at hl 1 rfl) ?_
      refine lv_bipush (v := 61) hx hb dX9_not_59 (by decide) ?_
      obtain ⟨v14, h15, hm⟩ := bind_e hm
      refine sX9_356 C h15 hw hS hl.1 (Nat.le_of_ble_eq_true rfl) (by have := hRf; omega) (by have := hRl; omega) hcs dX9_not_61 (fun H locs hw hS => ?_)
      refine x_ifneB hx hb dX9_not_64 (tgt := 69) (by decide) (fun cc => ?_) (fun cc => ?_)
      · replace hm := ite_p cc hm
        refine lv_aload_n hx hb dX9_not_69 rfl (lv_at hl 1 rfl) ?_
        refine gX9_295 C hw dX9_not_70 ?_
        refine lv_ldc2 (v := 60) hx hb ho (hts (.constantLong RX9 154 60) (tg 1111 (by decide +kernel) rfl)) dX9_not_73 ?_
        refine W.lcmp hx hb dX9_not_76 ?_
        obtain ⟨v16, hj, hm⟩ := bind_e hm
        have kk : ∀ (H : Heap) (locs : List Loc) (ls : Array Slot), MW β G N x4 H → va_S (AM β) s.heap H locs → lv_has ls 4 [(0, .ref β), (1, .int v3)] → W p l e (rmGPar (gn + 1)) s m args below meth c H locs 0 0 (MQ below (QcW (AM β) (some (.int r)) (MW β G N x')) args s 0 0 (AM β)) (F0 m 85 ls [.int (bI v16)]) := by
          intro H locs ls hw hS hl
          refine lv_istore_n (lv' := [(2, .int (bI v16)), (0, .ref β), (1, .int v3)]) hx hb dX9_not_85 rfl hl (by decide) rfl (fun ls hl => ?_)
          refine lv_aload_n hx hb dX9_not_86 rfl (lv_at hl 1 rfl) ?_
          obtain ⟨x17, h18, hm⟩ := bind_e hm
          refine sX9_322 C h18 hw hS hl.1 (Nat.le_of_ble_eq_true rfl) (by have := hRf; omega) (by have := hRl; omega) hcs dX9_not_87 (fun H locs hw hS => ?_)
          refine lv_aload_n hx hb dX9_not_90 rfl (lv_at hl 1 rfl) ?_
          obtain ⟨v19, x20, h21, hm⟩ := bind2_e hm
          refine sgX9_382 C (IH.2.2.2.1 _ _ _ h21) rfl rfl hw hS hl.1 (Nat.le_of_ble_eq_true rfl) (by have := hRf; show gn + 3 + 1 ≤ _; omega) (by have := hRl; show 23 + (gn * 23 + 67) ≤ _; omega) hcs dX9_not_91 (fun H locs hw hS => ?_)
          refine lv_istore_n (lv' := [(3, .int v19), (2, .int (bI v16)), (0, .ref β), (1, .int v3)]) hx hb dX9_not_94 rfl hl (by decide) rfl (fun ls hl => ?_)
          refine lv_iload_n hx hb dX9_not_95 rfl (lv_at hl 1 rfl) ?_
          refine x_ifeqB hx hb dX9_not_96 (tgt := 107) (by decide) (fun cc => ?_) (fun cc => ?_)
          · replace hm := ite_n cc hm
            refine lv_iload_n hx hb dX9_not_107 rfl (lv_at hl 3 rfl) ?_
            refine lv_iload_n hx hb dX9_not_108 rfl (lv_at hl 0 rfl) ?_
            refine lv_icmp_ne (tgt := 116) hx hb dX9_not_109 (by decide) (fun cc => ?_) (fun cc => ?_)
            · replace hm := ite_n cc hm
              refine lv_iconst (v := 0) hx hb dX9_not_116 (by decide) ?_
              obtain ⟨rfl, rfl⟩ := inj2 hm
              exact xret_i C hw hS dX9_not_117
            · replace hm := ite_p cc hm
              refine lv_iconst (v := 1) hx hb dX9_not_112 (by decide) ?_
              refine lv_goto (tgt := 117) hx hb dX9_not_113 (by decide) ?_
              obtain ⟨rfl, rfl⟩ := inj2 hm
              exact xret_i C hw hS dX9_not_117
          · replace hm := ite_p cc hm
            refine lv_iload_n hx hb dX9_not_99 rfl (lv_at hl 3 rfl) ?_
            refine lv_iload_n hx hb dX9_not_100 rfl (lv_at hl 0 rfl) ?_
            refine lv_icmp_ge (tgt := 116) hx hb dX9_not_101 (by decide) (fun cc => ?_) (fun cc => ?_)
            · replace hm := ite_p cc hm
              refine lv_iconst (v := 0) hx hb dX9_not_116 (by decide) ?_
              obtain ⟨rfl, rfl⟩ := inj2 hm
              exact xret_i C hw hS dX9_not_117
            · replace hm := ite_n cc hm
              refine lv_goto (tgt := 112) hx hb dX9_not_104 (by decide) ?_
              refine lv_iconst (v := 1) hx hb dX9_not_112 (by decide) ?_
              refine lv_goto (tgt := 117) hx hb dX9_not_113 (by decide) ?_
              obtain ⟨rfl, rfl⟩ := inj2 hm
              exact xret_i C hw hS dX9_not_117
        clear hm
        replace hm := hj
        clear hj
        refine lv_if_ne (tgt := 84) hx hb dX9_not_77 (by decide) (fun cc => ?_) (fun cc => ?_)
        · rw [lg_cmp_eq] at cc
          replace hm := ite_n cc hm
          refine lv_iconst (v := 0) hx hb dX9_not_84 (by decide) ?_
          obtain rfl := Option.some.inj hm
          exact kk _ _ _ hw hS (lv_sub hl [1, 0] rfl)
        · rw [lg_cmp_eq] at cc
          replace hm := ite_p cc hm
          refine lv_iconst (v := 1) hx hb dX9_not_80 (by decide) ?_
          refine lv_goto (tgt := 85) hx hb dX9_not_81 (by decide) ?_
          obtain rfl := Option.some.inj hm
          exact kk _ _ _ hw hS (lv_sub hl [1, 0] rfl)
      · replace hm := ite_n cc hm
        refine lv_iload_n hx hb dX9_not_67 rfl (lv_at hl 0 rfl) ?_
        obtain ⟨rfl, rfl⟩ := inj2 hm
        exact xret_i C hw hS dX9_not_68
  · replace hm := ite_p cc hm
    refine lv_aload_n hx hb dX9_not_10 rfl (lv_at hl 0 rfl) ?_
    obtain ⟨v22, x23, h24, hm⟩ := bind2_e hm
    refine sX9_359 C h24 hw hS hl.1 (Nat.le_of_ble_eq_true rfl) (by have := hRf; omega) (by have := hRl; omega) hcs dX9_not_11 (fun H locs hw hS => ?_)
    refine x_ifneB hx hb dX9_not_14 (tgt := 19) (by decide) (fun cc => ?_) (fun cc => ?_)
    · replace hm := ite_p cc hm
      refine lv_aload_n hx hb dX9_not_19 rfl (lv_at hl 0 rfl) ?_
      obtain ⟨v25, x26, h27, hm⟩ := bind2_e hm
      refine sgX9_379 C (IH.2.2.1 _ _ _ h27) rfl rfl hw hS hl.1 (Nat.le_of_ble_eq_true rfl) (by have := hRf; show gn + 3 + 1 ≤ _; omega) (by have := hRl; show 23 + (gn * 23 + 67) ≤ _; omega) hcs dX9_not_20 (fun H locs hw hS => ?_)
      refine lv_istore_n (lv' := [(1, .int v25), (0, .ref β)]) hx hb dX9_not_23 rfl hl (by decide) rfl (fun ls hl => ?_)
      refine lv_aload_n hx hb dX9_not_24 rfl (lv_at hl 1 rfl) ?_
      refine lv_dup hx hb dX9_not_25 rfl ?_
      refine gX9_316 C hw dX9_not_26 ?_
      refine lv_iconst (v := 1) hx hb dX9_not_29 (by decide) ?_
      refine lv_isub hx hb dX9_not_30 ?_
      refine pX9_316 C hw hS dX9_not_31 (fun H locs hw hS => ?_)
      obtain ⟨x28, ev, hm⟩ := lt_e hm
      rw [← ev] at hw
      clear ev
      refine lv_iload_n hx hb dX9_not_34 rfl (lv_at hl 0 rfl) ?_
      refine lv_if_ne (tgt := 42) hx hb dX9_not_35 (by decide) (fun cc => ?_) (fun cc => ?_)
      · replace hm := ite_n cc hm
        refine lv_iconst (v := 0) hx hb dX9_not_42 (by decide) ?_
        obtain ⟨rfl, rfl⟩ := inj2 hm
        exact xret_i C hw hS dX9_not_43
      · replace hm := ite_p cc hm
        refine lv_iconst (v := 1) hx hb dX9_not_38 (by decide) ?_
        refine lv_goto (tgt := 43) hx hb dX9_not_39 (by decide) ?_
        obtain ⟨rfl, rfl⟩ := inj2 hm
        exact xret_i C hw hS dX9_not_43
    · replace hm := ite_n cc hm
      refine lv_iconst (v := 0) hx hb dX9_not_17 (by decide) ?_
      obtain ⟨rfl, rfl⟩ := inj2 hm
      exact xret_i C hw hS dX9_not_18
theorem dX9_added_0 : decode cX9_added 0 = .ok (.aload_n 0, 1) := by decide +kernel
theorem dX9_added_1 : decode cX9_added 1 = .ok (.invokevirtual 372, 3) := by decide +kernel
theorem dX9_added_4 : decode cX9_added 4 = .ok (.istore_n 1, 1) := by decide +kernel
theorem dX9_added_5 : decode cX9_added 5 = .ok (.aload_n 0, 1) := by decide +kernel
theorem dX9_added_6 : decode cX9_added 6 = .ok (.bipush 43, 2) := by decide +kernel
theorem dX9_added_8 : decode cX9_added 8 = .ok (.invokevirtual 356, 3) := by decide +kernel
theorem dX9_added_11 : decode cX9_added 11 = .ok (.ifCond .ne 12, 3) := by decide +kernel
theorem dX9_added_14 : decode cX9_added 14 = .ok (.aload_n 0, 1) := by decide +kernel
theorem dX9_added_15 : decode cX9_added 15 = .ok (.bipush 45, 2) := by decide +kernel
theorem dX9_added_17 : decode cX9_added 17 = .ok (.invokevirtual 356, 3) := by decide +kernel
theorem dX9_added_20 : decode cX9_added 20 = .ok (.ifCond .eq 46, 3) := by decide +kernel
theorem dX9_added_23 : decode cX9_added 23 = .ok (.aload_n 0, 1) := by decide +kernel
theorem dX9_added_24 : decode cX9_added 24 = .ok (.getfield 295, 3) := by decide +kernel
theorem dX9_added_27 : decode cX9_added 27 = .ok (.ldc2_w 375, 3) := by decide +kernel
theorem dX9_added_30 : decode cX9_added 30 = .ok (.lcmp, 1) := by decide +kernel
theorem dX9_added_31 : decode cX9_added 31 = .ok (.ifCond .ne 7, 3) := by decide +kernel
theorem dX9_added_34 : decode cX9_added 34 = .ok (.iconst 1, 1) := by decide +kernel
theorem dX9_added_35 : decode cX9_added 35 = .ok (.goto 4, 3) := by decide +kernel
theorem dX9_added_38 : decode cX9_added 38 = .ok (.iconst 0, 1) := by decide +kernel
theorem dX9_added_39 : decode cX9_added 39 = .ok (.istore_n 2, 1) := by decide +kernel
theorem dX9_added_40 : decode cX9_added 40 = .ok (.aload_n 0, 1) := by decide +kernel
theorem dX9_added_41 : decode cX9_added 41 = .ok (.invokevirtual 322, 3) := by decide +kernel
theorem dX9_added_44 : decode cX9_added 44 = .ok (.aload_n 0, 1) := by decide +kernel
theorem dX9_added_45 : decode cX9_added 45 = .ok (.invokevirtual 372, 3) := by decide +kernel
theorem dX9_added_48 : decode cX9_added 48 = .ok (.istore_n 3, 1) := by decide +kernel
theorem dX9_added_49 : decode cX9_added 49 = .ok (.iload_n 2, 1) := by decide +kernel
theorem dX9_added_50 : decode cX9_added 50 = .ok (.ifCond .eq 9, 3) := by decide +kernel
theorem dX9_added_53 : decode cX9_added 53 = .ok (.iload_n 1, 1) := by decide +kernel
theorem dX9_added_54 : decode cX9_added 54 = .ok (.iload_n 3, 1) := by decide +kernel
theorem dX9_added_55 : decode cX9_added 55 = .ok (.iadd, 1) := by decide +kernel
theorem dX9_added_56 : decode cX9_added 56 = .ok (.goto 6, 3) := by decide +kernel
theorem dX9_added_59 : decode cX9_added 59 = .ok (.iload_n 1, 1) := by decide +kernel
theorem dX9_added_60 : decode cX9_added 60 = .ok (.iload_n 3, 1) := by decide +kernel
theorem dX9_added_61 : decode cX9_added 61 = .ok (.isub, 1) := by decide +kernel
theorem dX9_added_62 : decode cX9_added 62 = .ok (.istore_n 1, 1) := by decide +kernel
theorem dX9_added_63 : decode cX9_added 63 = .ok (.goto (-58), 3) := by decide +kernel
theorem dX9_added_66 : decode cX9_added 66 = .ok (.iload_n 1, 1) := by decide +kernel
theorem dX9_added_67 : decode cX9_added 67 = .ok (.ireturn, 1) := by decide +kernel
theorem sgX9_372 {p : Program} {l : Launch} {e : Env} {R : Room} {s : State} {m : MethodId} {args : Array Value} {below : List Frame} {meth : Method} {c : Code} {H : Heap} {locs : List Loc} {cells slots : Nat} {Q : State → Prop} {cc : ByteArray} {pc nL : Nat} {ls : Array Slot} {rest : List Value} {ret : Option FieldType} {G : xG} {β N : Nat} {x x' : MS} {r : Int32} {rm : Room} (C : Cx p s m args meth c RX9 cc nL ret (KK G)) (hM : Met l yX9_term (.code yX9_term cX9_term 2 (some .int) :: GT) rm (PcW [.ref β] (MW β G N x) (KK G)) (QcW (AM β) (some (.int r)) (MW β G N x')) 0 0 (AM β)) (hrc : rm.cells = 0) (hrs : rm.slots = 0) (hw : MW β G N x H) (hS : va_S (AM β) s.heap H locs) (hsz : ls.size = nL) (hW : (rest.map fun v => v.category).sum ≤ 8) (hR : rm.frames + 1 ≤ R.frames) (hR2 : 21 + rm.locals ≤ R.locals) (hcs : cells ≤ R.cells ∧ slots ≤ R.slots) (hd : decode cc pc = .ok (.invokevirtual 372, 3)) (kk : ∀ (H1 : Heap) (locs1 : List Loc), MW β G N x' H1 → va_S (AM β) s.heap H1 locs1 → W p l e R s m args below meth c H1 locs1 cells slots Q (F0 m (pc + 3) ls (.int r :: rest))) : W p l e R s m args below meth c H locs cells slots Q (F0 m pc ls (.ref β :: rest)) :=
  xcallV C (As := []) (rest := rest) (nA := 0) (ci := 9) hM (tg 1202 (by decide +kernel) rfl) (tg 1204 (by decide +kernel) rfl) (sg (List.mem_of_getElem? (i := 71) (by decide +kernel)) rfl) (tg 14 (by decide +kernel) rfl) (tg 1205 (by decide +kernel) rfl) ⟨rfl, by decide +kernel, by decide +kernel, by decide +kernel⟩ rfl hrc hrs ⟨hR, hR2⟩ (hw.2 0 (by decide)) hw hS (fun _ q => q) rfl rfl hsz hW hd hcs (fun H1 locs1 hw hz hk hS => kk H1 locs1 hw hS)
set_option maxHeartbeats 4000000 in
set_option maxRecDepth 100000 in
theorem lX9_added_5 {p : Program} {l : Launch} {e : Env} {R : Room} {s : State} {m : MethodId} {args : Array Value} {below : List Frame} {meth : Method} {c : Code} {cells slots : Nat} {Q : State → Prop} {G : xG} {β N : Nat} {gn : Nat} (C : Cx p s m args meth c RX9 cX9_added 4 (some .int) (KK G)) (hRf : (gn + 1 + 3) ≤ R.frames) (hRl : ((gn + 1) * 23 + 67) ≤ R.locals) (hcs : cells ≤ R.cells ∧ slots ≤ R.slots) (IH : GPGPar l G β N gn) : ∀ (n : Nat) (u1 : Int32) (x : MS) (J : Int32 × MS) (H : Heap) (locs : List Loc) (ls : Array Slot), LX9_added_5 (GPar gn) n u1 x = some J → MW β G N x H → va_S (AM β) s.heap H locs → lv_has ls 4 [(0, .ref β), (1, .int u1)] → (∀ (w1 : Int32) (x1 : MS), J = (w1, x1) → ∀ (H : Heap) (locs : List Loc) (ls : Array Slot), MW β G N x1 H → va_S (AM β) s.heap H locs → lv_has ls 4 [(1, .int w1)] → W p l e R s m args below meth c H locs cells slots Q (F0 m 66 ls [])) → W p l e R s m args below meth c H locs cells slots Q (F0 m 5 ls []) := by
  have hx := C.1
  have hb := C.2.1
  have ho := C.2.2.2.1
  have hts := C.2.2.2.2.1
  intro n
  induction n with
  | zero =>
    intro u1 x J H locs ls hm
    exact absurd hm (by simp [LX9_added_5])
  | succ n ih =>
    intro u1 x J H locs ls hm hw hS hl ke
    replace hm : BX9_added_5 (GPar gn) (LX9_added_5 (GPar gn) n) u1 x = some J := hm
    unfold BX9_added_5 at hm
    refine lv_aload_n hx hb dX9_added_5 rfl (lv_at hl 0 rfl) ?_
    refine lv_bipush (v := 43) hx hb dX9_added_6 (by decide) ?_
    obtain ⟨v4, h5, hm⟩ := bind_e hm
    refine sX9_356 C h5 hw hS hl.1 (Nat.le_of_ble_eq_true rfl) (by have := hRf; omega) (by have := hRl; omega) hcs dX9_added_8 (fun H locs hw hS => ?_)
    refine x_ifneB hx hb dX9_added_11 (tgt := 23) (by decide) (fun cc => ?_) (fun cc => ?_)
    · replace hm := ite_p cc hm
      refine lv_aload_n hx hb dX9_added_23 rfl (lv_at hl 0 rfl) ?_
      refine gX9_295 C hw dX9_added_24 ?_
      refine lv_ldc2 (v := 43) hx hb ho (hts (.constantLong RX9 375 43) (tg 1224 (by decide +kernel) rfl)) dX9_added_27 ?_
      refine W.lcmp hx hb dX9_added_30 ?_
      obtain ⟨v6, hj, hm⟩ := bind_e hm
      have kk : ∀ (H : Heap) (locs : List Loc) (ls : Array Slot), MW β G N x H → va_S (AM β) s.heap H locs → lv_has ls 4 [(0, .ref β), (1, .int u1)] → W p l e R s m args below meth c H locs cells slots Q (F0 m 39 ls [.int (bI v6)]) := by
        intro H locs ls hw hS hl
        refine lv_istore_n (lv' := [(2, .int (bI v6)), (0, .ref β), (1, .int u1)]) hx hb dX9_added_39 rfl hl (by decide) rfl (fun ls hl => ?_)
        refine lv_aload_n hx hb dX9_added_40 rfl (lv_at hl 1 rfl) ?_
        obtain ⟨x7, h8, hm⟩ := bind_e hm
        refine sX9_322 C h8 hw hS hl.1 (Nat.le_of_ble_eq_true rfl) (by have := hRf; omega) (by have := hRl; omega) hcs dX9_added_41 (fun H locs hw hS => ?_)
        refine lv_aload_n hx hb dX9_added_44 rfl (lv_at hl 1 rfl) ?_
        obtain ⟨v9, x10, h11, hm⟩ := bind2_e hm
        refine sgX9_372 C (IH.2.2.2.2.1 _ _ _ h11) rfl rfl hw hS hl.1 (Nat.le_of_ble_eq_true rfl) (by have := hRf; show gn + 3 + 1 ≤ _; omega) (by have := hRl; show 21 + (gn * 23 + 67) ≤ _; omega) hcs dX9_added_45 (fun H locs hw hS => ?_)
        refine lv_istore_n (lv' := [(3, .int v9), (2, .int (bI v6)), (0, .ref β), (1, .int u1)]) hx hb dX9_added_48 rfl hl (by decide) rfl (fun ls hl => ?_)
        refine lv_iload_n hx hb dX9_added_49 rfl (lv_at hl 1 rfl) ?_
        refine x_ifeqB hx hb dX9_added_50 (tgt := 59) (by decide) (fun cc => ?_) (fun cc => ?_)
        · replace hm := ite_n cc hm
          refine lv_iload_n hx hb dX9_added_59 rfl (lv_at hl 3 rfl) ?_
          refine lv_iload_n hx hb dX9_added_60 rfl (lv_at hl 0 rfl) ?_
          refine lv_isub hx hb dX9_added_61 ?_
          refine topI hm (fun v12 hm => ?_)
          refine lv_istore_n (lv' := [(1, .int v12), (3, .int v9), (2, .int (bI v6)), (0, .ref β)]) hx hb dX9_added_62 rfl hl (by decide) rfl (fun ls hl => ?_)
          refine lv_goto (tgt := 5) hx hb dX9_added_63 (by decide) ?_
          exact ih _ _ _ _ _ _ hm hw hS (lv_sub hl [3, 0] rfl) ke
        · replace hm := ite_p cc hm
          refine lv_iload_n hx hb dX9_added_53 rfl (lv_at hl 3 rfl) ?_
          refine lv_iload_n hx hb dX9_added_54 rfl (lv_at hl 0 rfl) ?_
          refine lv_iadd hx hb dX9_added_55 ?_
          refine lv_goto (tgt := 62) hx hb dX9_added_56 (by decide) ?_
          refine topI hm (fun v13 hm => ?_)
          refine lv_istore_n (lv' := [(1, .int v13), (3, .int v9), (2, .int (bI v6)), (0, .ref β)]) hx hb dX9_added_62 rfl hl (by decide) rfl (fun ls hl => ?_)
          refine lv_goto (tgt := 5) hx hb dX9_added_63 (by decide) ?_
          exact ih _ _ _ _ _ _ hm hw hS (lv_sub hl [3, 0] rfl) ke
      clear hm
      replace hm := hj
      clear hj
      refine lv_if_ne (tgt := 38) hx hb dX9_added_31 (by decide) (fun cc => ?_) (fun cc => ?_)
      · rw [lg_cmp_eq] at cc
        replace hm := ite_n cc hm
        refine lv_iconst (v := 0) hx hb dX9_added_38 (by decide) ?_
        obtain rfl := Option.some.inj hm
        exact kk _ _ _ hw hS (lv_sub hl [0, 1] rfl)
      · rw [lg_cmp_eq] at cc
        replace hm := ite_p cc hm
        refine lv_iconst (v := 1) hx hb dX9_added_34 (by decide) ?_
        refine lv_goto (tgt := 39) hx hb dX9_added_35 (by decide) ?_
        obtain rfl := Option.some.inj hm
        exact kk _ _ _ hw hS (lv_sub hl [0, 1] rfl)
    · replace hm := ite_n cc hm
      refine lv_aload_n hx hb dX9_added_14 rfl (lv_at hl 0 rfl) ?_
      refine lv_bipush (v := 45) hx hb dX9_added_15 (by decide) ?_
      obtain ⟨v14, h15, hm⟩ := bind_e hm
      refine sX9_356 C h15 hw hS hl.1 (Nat.le_of_ble_eq_true rfl) (by have := hRf; omega) (by have := hRl; omega) hcs dX9_added_17 (fun H locs hw hS => ?_)
      refine x_ifeqB hx hb dX9_added_20 (tgt := 66) (by decide) (fun cc => ?_) (fun cc => ?_)
      · replace hm := ite_n cc hm
        exact ke _ _ (Option.some.inj hm).symm _ _ _ hw hS (lv_sub hl [1] rfl)
      · replace hm := ite_p cc hm
        refine lv_aload_n hx hb dX9_added_23 rfl (lv_at hl 0 rfl) ?_
        refine gX9_295 C hw dX9_added_24 ?_
        refine lv_ldc2 (v := 43) hx hb ho (hts (.constantLong RX9 375 43) (tg 1224 (by decide +kernel) rfl)) dX9_added_27 ?_
        refine W.lcmp hx hb dX9_added_30 ?_
        obtain ⟨v16, hj, hm⟩ := bind_e hm
        have kk : ∀ (H : Heap) (locs : List Loc) (ls : Array Slot), MW β G N x H → va_S (AM β) s.heap H locs → lv_has ls 4 [(0, .ref β), (1, .int u1)] → W p l e R s m args below meth c H locs cells slots Q (F0 m 39 ls [.int (bI v16)]) := by
          intro H locs ls hw hS hl
          refine lv_istore_n (lv' := [(2, .int (bI v16)), (0, .ref β), (1, .int u1)]) hx hb dX9_added_39 rfl hl (by decide) rfl (fun ls hl => ?_)
          refine lv_aload_n hx hb dX9_added_40 rfl (lv_at hl 1 rfl) ?_
          obtain ⟨x17, h18, hm⟩ := bind_e hm
          refine sX9_322 C h18 hw hS hl.1 (Nat.le_of_ble_eq_true rfl) (by have := hRf; omega) (by have := hRl; omega) hcs dX9_added_41 (fun H locs hw hS => ?_)
          refine lv_aload_n hx hb dX9_added_44 rfl (lv_at hl 1 rfl) ?_
          obtain ⟨v19, x20, h21, hm⟩ := bind2_e hm
          refine sgX9_372 C (IH.2.2.2.2.1 _ _ _ h21) rfl rfl hw hS hl.1 (Nat.le_of_ble_eq_true rfl) (by have := hRf; show gn + 3 + 1 ≤ _; omega) (by have := hRl; show 21 + (gn * 23 + 67) ≤ _; omega) hcs dX9_added_45 (fun H locs hw hS => ?_)
          refine lv_istore_n (lv' := [(3, .int v19), (2, .int (bI v16)), (0, .ref β), (1, .int u1)]) hx hb dX9_added_48 rfl hl (by decide) rfl (fun ls hl => ?_)
          refine lv_iload_n hx hb dX9_added_49 rfl (lv_at hl 1 rfl) ?_
          refine x_ifeqB hx hb dX9_added_50 (tgt := 59) (by decide) (fun cc => ?_) (fun cc => ?_)
          · replace hm := ite_n cc hm
            refine lv_iload_n hx hb dX9_added_59 rfl (lv_at hl 3 rfl) ?_
            refine lv_iload_n hx hb dX9_added_60 rfl (lv_at hl 0 rfl) ?_
            refine lv_isub hx hb dX9_added_61 ?_
            refine topI hm (fun v22 hm => ?_)
            refine lv_istore_n (lv' := [(1, .int v22), (3, .int v19), (2, .int (bI v16)), (0, .ref β)]) hx hb dX9_added_62 rfl hl (by decide) rfl (fun ls hl => ?_)
            refine lv_goto (tgt := 5) hx hb dX9_added_63 (by decide) ?_
            exact ih _ _ _ _ _ _ hm hw hS (lv_sub hl [3, 0] rfl) ke
          · replace hm := ite_p cc hm
            refine lv_iload_n hx hb dX9_added_53 rfl (lv_at hl 3 rfl) ?_
            refine lv_iload_n hx hb dX9_added_54 rfl (lv_at hl 0 rfl) ?_
            refine lv_iadd hx hb dX9_added_55 ?_
            refine lv_goto (tgt := 62) hx hb dX9_added_56 (by decide) ?_
            refine topI hm (fun v23 hm => ?_)
            refine lv_istore_n (lv' := [(1, .int v23), (3, .int v19), (2, .int (bI v16)), (0, .ref β)]) hx hb dX9_added_62 rfl hl (by decide) rfl (fun ls hl => ?_)
            refine lv_goto (tgt := 5) hx hb dX9_added_63 (by decide) ?_
            exact ih _ _ _ _ _ _ hm hw hS (lv_sub hl [3, 0] rfl) ke
        clear hm
        replace hm := hj
        clear hj
        refine lv_if_ne (tgt := 38) hx hb dX9_added_31 (by decide) (fun cc => ?_) (fun cc => ?_)
        · rw [lg_cmp_eq] at cc
          replace hm := ite_n cc hm
          refine lv_iconst (v := 0) hx hb dX9_added_38 (by decide) ?_
          obtain rfl := Option.some.inj hm
          exact kk _ _ _ hw hS (lv_sub hl [0, 1] rfl)
        · rw [lg_cmp_eq] at cc
          replace hm := ite_p cc hm
          refine lv_iconst (v := 1) hx hb dX9_added_34 (by decide) ?_
          refine lv_goto (tgt := 39) hx hb dX9_added_35 (by decide) ?_
          obtain rfl := Option.some.inj hm
          exact kk _ _ _ hw hS (lv_sub hl [0, 1] rfl)
set_option maxHeartbeats 4000000 in
set_option maxRecDepth 100000 in
theorem kX9_added {l : Launch} {G : xG} {β N : Nat} {gn : Nat} (IH : GPGPar l G β N gn) {x x' : MS} {r : Int32} (hm : fX9_added (GPar gn) x = some (r, x')) : Met l yX9_added (.code yX9_added cX9_added 4 (some .int) :: GT) (rmGPar (gn + 1)) (PcW [.ref β] (MW β G N x) (KK G)) (QcW (AM β) (some (.int r)) (MW β G N x')) 0 0 (AM β) := by
  unfold fX9_added at hm
  refine xpro (own := RX9) (by decide +kernel) rfl (Nat.le_of_ble_eq_true rfl) ?_
  intro p e s m args below meth c C hw ls hl
  have hx := C.1
  have hb := C.2.1
  have ho := C.2.2.2.1
  have hts := C.2.2.2.2.1
  have hS : va_S (AM β) s.heap s.heap [] := va_S.rf
  have hl : lv_has ls 4 [(0, .ref β)] := hl
  have hRf : (gn + 1 + 3) ≤ (rmGPar (gn + 1)).frames := Nat.le_refl _
  have hRl : ((gn + 1) * 23 + 67) ≤ (rmGPar (gn + 1)).locals := Nat.le_refl _
  have hcs : 0 ≤ (rmGPar (gn + 1)).cells ∧ 0 ≤ (rmGPar (gn + 1)).slots := ⟨Nat.le_refl _, Nat.le_refl _⟩
  refine lv_aload_n hx hb dX9_added_0 rfl (lv_at hl 0 rfl) ?_
  obtain ⟨v1, x2, h3, hm⟩ := bind2_e hm
  refine sgX9_372 C (IH.2.2.2.2.1 _ _ _ h3) rfl rfl hw hS hl.1 (Nat.le_of_ble_eq_true rfl) (by have := hRf; show gn + 3 + 1 ≤ _; omega) (by have := hRl; show 21 + (gn * 23 + 67) ≤ _; omega) hcs dX9_added_1 (fun H locs hw hS => ?_)
  refine lv_istore_n (lv' := [(1, .int v1), (0, .ref β)]) hx hb dX9_added_4 rfl hl (by decide) rfl (fun ls hl => ?_)
  obtain ⟨v24, x25, hj, hm⟩ := bind2_e hm
  refine lX9_added_5 C hRf hRl hcs IH NF _ _ _ _ _ _ hj hw hS (lv_sub hl [1, 0] rfl) (fun v24_ x25_ e0 H locs ls hw hS hl => ?_)
  cases e0
  refine lv_iload_n hx hb dX9_added_66 rfl (lv_at hl 0 rfl) ?_
  obtain ⟨rfl, rfl⟩ := inj2 hm
  exact xret_i C hw hS dX9_added_67
theorem dX9_term_0 : decode cX9_term 0 = .ok (.aload_n 0, 1) := by decide +kernel
theorem dX9_term_1 : decode cX9_term 1 = .ok (.invokevirtual 363, 3) := by decide +kernel
theorem dX9_term_4 : decode cX9_term 4 = .ok (.istore_n 1, 1) := by decide +kernel
theorem dX9_term_5 : decode cX9_term 5 = .ok (.aload_n 0, 1) := by decide +kernel
theorem dX9_term_6 : decode cX9_term 6 = .ok (.bipush 42, 2) := by decide +kernel
theorem dX9_term_8 : decode cX9_term 8 = .ok (.invokevirtual 356, 3) := by decide +kernel
theorem dX9_term_11 : decode cX9_term 11 = .ok (.ifCond .eq 17, 3) := by decide +kernel
theorem dX9_term_14 : decode cX9_term 14 = .ok (.aload_n 0, 1) := by decide +kernel
theorem dX9_term_15 : decode cX9_term 15 = .ok (.invokevirtual 322, 3) := by decide +kernel
theorem dX9_term_18 : decode cX9_term 18 = .ok (.iload_n 1, 1) := by decide +kernel
theorem dX9_term_19 : decode cX9_term 19 = .ok (.aload_n 0, 1) := by decide +kernel
theorem dX9_term_20 : decode cX9_term 20 = .ok (.invokevirtual 363, 3) := by decide +kernel
theorem dX9_term_23 : decode cX9_term 23 = .ok (.imul, 1) := by decide +kernel
theorem dX9_term_24 : decode cX9_term 24 = .ok (.istore_n 1, 1) := by decide +kernel
theorem dX9_term_25 : decode cX9_term 25 = .ok (.goto (-20), 3) := by decide +kernel
theorem dX9_term_28 : decode cX9_term 28 = .ok (.iload_n 1, 1) := by decide +kernel
theorem dX9_term_29 : decode cX9_term 29 = .ok (.ireturn, 1) := by decide +kernel
theorem sgX9_363 {p : Program} {l : Launch} {e : Env} {R : Room} {s : State} {m : MethodId} {args : Array Value} {below : List Frame} {meth : Method} {c : Code} {H : Heap} {locs : List Loc} {cells slots : Nat} {Q : State → Prop} {cc : ByteArray} {pc nL : Nat} {ls : Array Slot} {rest : List Value} {ret : Option FieldType} {G : xG} {β N : Nat} {x x' : MS} {r : Int32} {rm : Room} (C : Cx p s m args meth c RX9 cc nL ret (KK G)) (hM : Met l yX9_one (.code yX9_one cX9_one 2 (some .int) :: GT) rm (PcW [.ref β] (MW β G N x) (KK G)) (QcW (AM β) (some (.int r)) (MW β G N x')) 0 0 (AM β)) (hrc : rm.cells = 0) (hrs : rm.slots = 0) (hw : MW β G N x H) (hS : va_S (AM β) s.heap H locs) (hsz : ls.size = nL) (hW : (rest.map fun v => v.category).sum ≤ 8) (hR : rm.frames + 1 ≤ R.frames) (hR2 : 21 + rm.locals ≤ R.locals) (hcs : cells ≤ R.cells ∧ slots ≤ R.slots) (hd : decode cc pc = .ok (.invokevirtual 363, 3)) (kk : ∀ (H1 : Heap) (locs1 : List Loc), MW β G N x' H1 → va_S (AM β) s.heap H1 locs1 → W p l e R s m args below meth c H1 locs1 cells slots Q (F0 m (pc + 3) ls (.int r :: rest))) : W p l e R s m args below meth c H locs cells slots Q (F0 m pc ls (.ref β :: rest)) :=
  xcallV C (As := []) (rest := rest) (nA := 0) (ci := 9) hM (tg 1206 (by decide +kernel) rfl) (tg 1208 (by decide +kernel) rfl) (sg (List.mem_of_getElem? (i := 72) (by decide +kernel)) rfl) (tg 14 (by decide +kernel) rfl) (tg 1209 (by decide +kernel) rfl) ⟨rfl, by decide +kernel, by decide +kernel, by decide +kernel⟩ rfl hrc hrs ⟨hR, hR2⟩ (hw.2 0 (by decide)) hw hS (fun _ q => q) rfl rfl hsz hW hd hcs (fun H1 locs1 hw hz hk hS => kk H1 locs1 hw hS)
set_option maxHeartbeats 4000000 in
set_option maxRecDepth 100000 in
theorem lX9_term_5 {p : Program} {l : Launch} {e : Env} {R : Room} {s : State} {m : MethodId} {args : Array Value} {below : List Frame} {meth : Method} {c : Code} {cells slots : Nat} {Q : State → Prop} {G : xG} {β N : Nat} {gn : Nat} (C : Cx p s m args meth c RX9 cX9_term 2 (some .int) (KK G)) (hRf : (gn + 1 + 3) ≤ R.frames) (hRl : ((gn + 1) * 23 + 67) ≤ R.locals) (hcs : cells ≤ R.cells ∧ slots ≤ R.slots) (IH : GPGPar l G β N gn) : ∀ (n : Nat) (u1 : Int32) (x : MS) (J : Int32 × MS) (H : Heap) (locs : List Loc) (ls : Array Slot), LX9_term_5 (GPar gn) n u1 x = some J → MW β G N x H → va_S (AM β) s.heap H locs → lv_has ls 2 [(0, .ref β), (1, .int u1)] → (∀ (w1 : Int32) (x1 : MS), J = (w1, x1) → ∀ (H : Heap) (locs : List Loc) (ls : Array Slot), MW β G N x1 H → va_S (AM β) s.heap H locs → lv_has ls 2 [(1, .int w1)] → W p l e R s m args below meth c H locs cells slots Q (F0 m 28 ls [])) → W p l e R s m args below meth c H locs cells slots Q (F0 m 5 ls []) := by
  have hx := C.1
  have hb := C.2.1
  have ho := C.2.2.2.1
  have hts := C.2.2.2.2.1
  intro n
  induction n with
  | zero =>
    intro u1 x J H locs ls hm
    exact absurd hm (by simp [LX9_term_5])
  | succ n ih =>
    intro u1 x J H locs ls hm hw hS hl ke
    replace hm : BX9_term_5 (GPar gn) (LX9_term_5 (GPar gn) n) u1 x = some J := hm
    unfold BX9_term_5 at hm
    refine lv_aload_n hx hb dX9_term_5 rfl (lv_at hl 0 rfl) ?_
    refine lv_bipush (v := 42) hx hb dX9_term_6 (by decide) ?_
    obtain ⟨v4, h5, hm⟩ := bind_e hm
    refine sX9_356 C h5 hw hS hl.1 (Nat.le_of_ble_eq_true rfl) (by have := hRf; omega) (by have := hRl; omega) hcs dX9_term_8 (fun H locs hw hS => ?_)
    refine x_ifeqB hx hb dX9_term_11 (tgt := 28) (by decide) (fun cc => ?_) (fun cc => ?_)
    · replace hm := ite_n cc hm
      exact ke _ _ (Option.some.inj hm).symm _ _ _ hw hS (lv_sub hl [1] rfl)
    · replace hm := ite_p cc hm
      refine lv_aload_n hx hb dX9_term_14 rfl (lv_at hl 0 rfl) ?_
      obtain ⟨x6, h7, hm⟩ := bind_e hm
      refine sX9_322 C h7 hw hS hl.1 (Nat.le_of_ble_eq_true rfl) (by have := hRf; omega) (by have := hRl; omega) hcs dX9_term_15 (fun H locs hw hS => ?_)
      refine lv_iload_n hx hb dX9_term_18 rfl (lv_at hl 1 rfl) ?_
      refine lv_aload_n hx hb dX9_term_19 rfl (lv_at hl 0 rfl) ?_
      obtain ⟨v8, x9, h10, hm⟩ := bind2_e hm
      refine sgX9_363 C (IH.2.2.2.2.2 _ _ _ h10) rfl rfl hw hS hl.1 (Nat.le_of_ble_eq_true rfl) (by have := hRf; show gn + 3 + 1 ≤ _; omega) (by have := hRl; show 21 + (gn * 23 + 67) ≤ _; omega) hcs dX9_term_20 (fun H locs hw hS => ?_)
      refine lv_imul hx hb dX9_term_23 ?_
      refine topI hm (fun v11 hm => ?_)
      refine lv_istore_n (lv' := [(1, .int v11), (0, .ref β)]) hx hb dX9_term_24 rfl hl (by decide) rfl (fun ls hl => ?_)
      refine lv_goto (tgt := 5) hx hb dX9_term_25 (by decide) ?_
      exact ih _ _ _ _ _ _ hm hw hS (lv_sub hl [1, 0] rfl) ke
set_option maxHeartbeats 4000000 in
set_option maxRecDepth 100000 in
theorem kX9_term {l : Launch} {G : xG} {β N : Nat} {gn : Nat} (IH : GPGPar l G β N gn) {x x' : MS} {r : Int32} (hm : fX9_term (GPar gn) x = some (r, x')) : Met l yX9_term (.code yX9_term cX9_term 2 (some .int) :: GT) (rmGPar (gn + 1)) (PcW [.ref β] (MW β G N x) (KK G)) (QcW (AM β) (some (.int r)) (MW β G N x')) 0 0 (AM β) := by
  unfold fX9_term at hm
  refine xpro (own := RX9) (by decide +kernel) rfl (Nat.le_of_ble_eq_true rfl) ?_
  intro p e s m args below meth c C hw ls hl
  have hx := C.1
  have hb := C.2.1
  have ho := C.2.2.2.1
  have hts := C.2.2.2.2.1
  have hS : va_S (AM β) s.heap s.heap [] := va_S.rf
  have hl : lv_has ls 2 [(0, .ref β)] := hl
  have hRf : (gn + 1 + 3) ≤ (rmGPar (gn + 1)).frames := Nat.le_refl _
  have hRl : ((gn + 1) * 23 + 67) ≤ (rmGPar (gn + 1)).locals := Nat.le_refl _
  have hcs : 0 ≤ (rmGPar (gn + 1)).cells ∧ 0 ≤ (rmGPar (gn + 1)).slots := ⟨Nat.le_refl _, Nat.le_refl _⟩
  refine lv_aload_n hx hb dX9_term_0 rfl (lv_at hl 0 rfl) ?_
  obtain ⟨v1, x2, h3, hm⟩ := bind2_e hm
  refine sgX9_363 C (IH.2.2.2.2.2 _ _ _ h3) rfl rfl hw hS hl.1 (Nat.le_of_ble_eq_true rfl) (by have := hRf; show gn + 3 + 1 ≤ _; omega) (by have := hRl; show 21 + (gn * 23 + 67) ≤ _; omega) hcs dX9_term_1 (fun H locs hw hS => ?_)
  refine lv_istore_n (lv' := [(1, .int v1), (0, .ref β)]) hx hb dX9_term_4 rfl hl (by decide) rfl (fun ls hl => ?_)
  obtain ⟨v12, x13, hj, hm⟩ := bind2_e hm
  refine lX9_term_5 C hRf hRl hcs IH NF _ _ _ _ _ _ hj hw hS (lv_sub hl [1, 0] rfl) (fun v12_ x13_ e0 H locs ls hw hS hl => ?_)
  cases e0
  refine lv_iload_n hx hb dX9_term_28 rfl (lv_at hl 0 rfl) ?_
  obtain ⟨rfl, rfl⟩ := inj2 hm
  exact xret_i C hw hS dX9_term_29
theorem dX9_one_0 : decode cX9_one 0 = .ok (.iconst 0, 1) := by decide +kernel
theorem dX9_one_1 : decode cX9_one 1 = .ok (.istore_n 1, 1) := by decide +kernel
theorem dX9_one_2 : decode cX9_one 2 = .ok (.aload_n 0, 1) := by decide +kernel
theorem dX9_one_3 : decode cX9_one 3 = .ok (.bipush 45, 2) := by decide +kernel
theorem dX9_one_5 : decode cX9_one 5 = .ok (.invokevirtual 356, 3) := by decide +kernel
theorem dX9_one_8 : decode cX9_one 8 = .ok (.ifCond .eq 29, 3) := by decide +kernel
theorem dX9_one_11 : decode cX9_one 11 = .ok (.aload_n 0, 1) := by decide +kernel
theorem dX9_one_12 : decode cX9_one 12 = .ok (.invokevirtual 359, 3) := by decide +kernel
theorem dX9_one_15 : decode cX9_one 15 = .ok (.ifCond .eq 146, 3) := by decide +kernel
theorem dX9_one_18 : decode cX9_one 18 = .ok (.aload_n 0, 1) := by decide +kernel
theorem dX9_one_19 : decode cX9_one 19 = .ok (.invokevirtual 363, 3) := by decide +kernel
theorem dX9_one_22 : decode cX9_one 22 = .ok (.ineg, 1) := by decide +kernel
theorem dX9_one_23 : decode cX9_one 23 = .ok (.istore_n 1, 1) := by decide +kernel
theorem dX9_one_24 : decode cX9_one 24 = .ok (.aload_n 0, 1) := by decide +kernel
theorem dX9_one_25 : decode cX9_one 25 = .ok (.dup, 1) := by decide +kernel
theorem dX9_one_26 : decode cX9_one 26 = .ok (.getfield 316, 3) := by decide +kernel
theorem dX9_one_29 : decode cX9_one 29 = .ok (.iconst 1, 1) := by decide +kernel
theorem dX9_one_30 : decode cX9_one 30 = .ok (.isub, 1) := by decide +kernel
theorem dX9_one_31 : decode cX9_one 31 = .ok (.putfield 316, 3) := by decide +kernel
theorem dX9_one_34 : decode cX9_one 34 = .ok (.goto 127, 3) := by decide +kernel
theorem dX9_one_37 : decode cX9_one 37 = .ok (.aload_n 0, 1) := by decide +kernel
theorem dX9_one_38 : decode cX9_one 38 = .ok (.bipush 40, 2) := by decide +kernel
theorem dX9_one_40 : decode cX9_one 40 = .ok (.invokevirtual 356, 3) := by decide +kernel
theorem dX9_one_43 : decode cX9_one 43 = .ok (.ifCond .eq 52, 3) := by decide +kernel
theorem dX9_one_46 : decode cX9_one 46 = .ok (.aload_n 0, 1) := by decide +kernel
theorem dX9_one_47 : decode cX9_one 47 = .ok (.invokevirtual 359, 3) := by decide +kernel
theorem dX9_one_50 : decode cX9_one 50 = .ok (.ifCond .eq 111, 3) := by decide +kernel
theorem dX9_one_53 : decode cX9_one 53 = .ok (.aload_n 0, 1) := by decide +kernel
theorem dX9_one_54 : decode cX9_one 54 = .ok (.invokevirtual 366, 3) := by decide +kernel
theorem dX9_one_57 : decode cX9_one 57 = .ok (.istore_n 1, 1) := by decide +kernel
theorem dX9_one_58 : decode cX9_one 58 = .ok (.aload_n 0, 1) := by decide +kernel
theorem dX9_one_59 : decode cX9_one 59 = .ok (.bipush 41, 2) := by decide +kernel
theorem dX9_one_61 : decode cX9_one 61 = .ok (.invokevirtual 356, 3) := by decide +kernel
theorem dX9_one_64 : decode cX9_one 64 = .ok (.ifCond .ne 7, 3) := by decide +kernel
theorem dX9_one_67 : decode cX9_one 67 = .ok (.aload_n 0, 1) := by decide +kernel
theorem dX9_one_68 : decode cX9_one 68 = .ok (.invokevirtual 319, 3) := by decide +kernel
theorem dX9_one_71 : decode cX9_one 71 = .ok (.aload_n 0, 1) := by decide +kernel
theorem dX9_one_72 : decode cX9_one 72 = .ok (.dup, 1) := by decide +kernel
theorem dX9_one_73 : decode cX9_one 73 = .ok (.getfield 316, 3) := by decide +kernel
theorem dX9_one_76 : decode cX9_one 76 = .ok (.iconst 1, 1) := by decide +kernel
theorem dX9_one_77 : decode cX9_one 77 = .ok (.isub, 1) := by decide +kernel
theorem dX9_one_78 : decode cX9_one 78 = .ok (.putfield 316, 3) := by decide +kernel
theorem dX9_one_81 : decode cX9_one 81 = .ok (.aload_n 0, 1) := by decide +kernel
theorem dX9_one_82 : decode cX9_one 82 = .ok (.getfield 309, 3) := by decide +kernel
theorem dX9_one_85 : decode cX9_one 85 = .ok (.ifCond .ne 76, 3) := by decide +kernel
theorem dX9_one_88 : decode cX9_one 88 = .ok (.aload_n 0, 1) := by decide +kernel
theorem dX9_one_89 : decode cX9_one 89 = .ok (.invokevirtual 322, 3) := by decide +kernel
theorem dX9_one_92 : decode cX9_one 92 = .ok (.goto 69, 3) := by decide +kernel
theorem dX9_one_95 : decode cX9_one 95 = .ok (.aload_n 0, 1) := by decide +kernel
theorem dX9_one_96 : decode cX9_one 96 = .ok (.getfield 309, 3) := by decide +kernel
theorem dX9_one_99 : decode cX9_one 99 = .ok (.ifCond .ne 24, 3) := by decide +kernel
theorem dX9_one_102 : decode cX9_one 102 = .ok (.aload_n 0, 1) := by decide +kernel
theorem dX9_one_103 : decode cX9_one 103 = .ok (.getfield 288, 3) := by decide +kernel
theorem dX9_one_106 : decode cX9_one 106 = .ok (.iconst 2, 1) := by decide +kernel
theorem dX9_one_107 : decode cX9_one 107 = .ok (.if_icmp .ne 16, 3) := by decide +kernel
theorem dX9_one_110 : decode cX9_one 110 = .ok (.aload_n 0, 1) := by decide +kernel
theorem dX9_one_111 : decode cX9_one 111 = .ok (.getfield 295, 3) := by decide +kernel
theorem dX9_one_114 : decode cX9_one 114 = .ok (.l2i, 1) := by decide +kernel
theorem dX9_one_115 : decode cX9_one 115 = .ok (.istore_n 1, 1) := by decide +kernel
theorem dX9_one_116 : decode cX9_one 116 = .ok (.aload_n 0, 1) := by decide +kernel
theorem dX9_one_117 : decode cX9_one 117 = .ok (.invokevirtual 322, 3) := by decide +kernel
theorem dX9_one_120 : decode cX9_one 120 = .ok (.goto 41, 3) := by decide +kernel
theorem dX9_one_123 : decode cX9_one 123 = .ok (.aload_n 0, 1) := by decide +kernel
theorem dX9_one_124 : decode cX9_one 124 = .ok (.getfield 309, 3) := by decide +kernel
theorem dX9_one_127 : decode cX9_one 127 = .ok (.ifCond .ne 30, 3) := by decide +kernel
theorem dX9_one_130 : decode cX9_one 130 = .ok (.aload_n 0, 1) := by decide +kernel
theorem dX9_one_131 : decode cX9_one 131 = .ok (.getfield 288, 3) := by decide +kernel
theorem dX9_one_134 : decode cX9_one 134 = .ok (.iconst 1, 1) := by decide +kernel
theorem dX9_one_135 : decode cX9_one 135 = .ok (.if_icmp .ne 22, 3) := by decide +kernel
theorem dX9_one_138 : decode cX9_one 138 = .ok (.aload_n 0, 1) := by decide +kernel
theorem dX9_one_139 : decode cX9_one 139 = .ok (.invokevirtual 369, 3) := by decide +kernel
theorem dX9_one_142 : decode cX9_one 142 = .ok (.istore_n 1, 1) := by decide +kernel
theorem dX9_one_143 : decode cX9_one 143 = .ok (.aload_n 0, 1) := by decide +kernel
theorem dX9_one_144 : decode cX9_one 144 = .ok (.getfield 309, 3) := by decide +kernel
theorem dX9_one_147 : decode cX9_one 147 = .ok (.ifCond .ne 14, 3) := by decide +kernel
theorem dX9_one_150 : decode cX9_one 150 = .ok (.aload_n 0, 1) := by decide +kernel
theorem dX9_one_151 : decode cX9_one 151 = .ok (.invokevirtual 322, 3) := by decide +kernel
theorem dX9_one_154 : decode cX9_one 154 = .ok (.goto 7, 3) := by decide +kernel
theorem dX9_one_157 : decode cX9_one 157 = .ok (.aload_n 0, 1) := by decide +kernel
theorem dX9_one_158 : decode cX9_one 158 = .ok (.invokevirtual 319, 3) := by decide +kernel
theorem dX9_one_161 : decode cX9_one 161 = .ok (.iload_n 1, 1) := by decide +kernel
theorem dX9_one_162 : decode cX9_one 162 = .ok (.ireturn, 1) := by decide +kernel
theorem sX9_369 {p : Program} {l : Launch} {e : Env} {R : Room} {s : State} {m : MethodId} {args : Array Value} {below : List Frame} {meth : Method} {c : Code} {H : Heap} {locs : List Loc} {cells slots : Nat} {Q : State → Prop} {cc : ByteArray} {pc nL : Nat} {ls : Array Slot} {rest : List Value} {ret : Option FieldType} {G : xG} {β N : Nat} {x x' : MS} {r : Int32} (C : Cx p s m args meth c RX9 cc nL ret (KK G)) (h : fX9_name x = some (r, x')) (hw : MW β G N x H) (hS : va_S (AM β) s.heap H locs) (hsz : ls.size = nL) (hW : (rest.map fun v => v.category).sum ≤ 8) (hR : 2 ≤ R.frames) (hR2 : 42 ≤ R.locals) (hcs : cells ≤ R.cells ∧ slots ≤ R.slots) (hd : decode cc pc = .ok (.invokevirtual 369, 3)) (kk : ∀ (H1 : Heap) (locs1 : List Loc), MW β G N x' H1 → va_S (AM β) s.heap H1 locs1 → W p l e R s m args below meth c H1 locs1 cells slots Q (F0 m (pc + 3) ls (.int r :: rest))) : W p l e R s m args below meth c H locs cells slots Q (F0 m pc ls (.ref β :: rest)) :=
  xcallV C (As := []) (rest := rest) (nA := 0) (ci := 9) (kX9_name h) (tg 1214 (by decide +kernel) rfl) (tg 1216 (by decide +kernel) rfl) (sg (List.mem_of_getElem? (i := 74) (by decide +kernel)) rfl) (tg 14 (by decide +kernel) rfl) (tg 1217 (by decide +kernel) rfl) ⟨rfl, by decide +kernel, by decide +kernel, by decide +kernel⟩ rfl rfl rfl ⟨hR, hR2⟩ (hw.2 0 (by decide)) hw hS (fun _ q => q) rfl rfl hsz hW hd hcs (fun H1 locs1 hw hz hk hS => kk H1 locs1 hw hS)
theorem sgX9_366 {p : Program} {l : Launch} {e : Env} {R : Room} {s : State} {m : MethodId} {args : Array Value} {below : List Frame} {meth : Method} {c : Code} {H : Heap} {locs : List Loc} {cells slots : Nat} {Q : State → Prop} {cc : ByteArray} {pc nL : Nat} {ls : Array Slot} {rest : List Value} {ret : Option FieldType} {G : xG} {β N : Nat} {x x' : MS} {r : Int32} {rm : Room} (C : Cx p s m args meth c RX9 cc nL ret (KK G)) (hM : Met l yX9_either (.code yX9_either cX9_either 3 (some .int) :: GT) rm (PcW [.ref β] (MW β G N x) (KK G)) (QcW (AM β) (some (.int r)) (MW β G N x')) 0 0 (AM β)) (hrc : rm.cells = 0) (hrs : rm.slots = 0) (hw : MW β G N x H) (hS : va_S (AM β) s.heap H locs) (hsz : ls.size = nL) (hW : (rest.map fun v => v.category).sum ≤ 8) (hR : rm.frames + 1 ≤ R.frames) (hR2 : 22 + rm.locals ≤ R.locals) (hcs : cells ≤ R.cells ∧ slots ≤ R.slots) (hd : decode cc pc = .ok (.invokevirtual 366, 3)) (kk : ∀ (H1 : Heap) (locs1 : List Loc), MW β G N x' H1 → va_S (AM β) s.heap H1 locs1 → W p l e R s m args below meth c H1 locs1 cells slots Q (F0 m (pc + 3) ls (.int r :: rest))) : W p l e R s m args below meth c H locs cells slots Q (F0 m pc ls (.ref β :: rest)) :=
  xcallV C (As := []) (rest := rest) (nA := 0) (ci := 9) hM (tg 1181 (by decide +kernel) rfl) (tg 1183 (by decide +kernel) rfl) (sg (List.mem_of_getElem? (i := 66) (by decide +kernel)) rfl) (tg 14 (by decide +kernel) rfl) (tg 1184 (by decide +kernel) rfl) ⟨rfl, by decide +kernel, by decide +kernel, by decide +kernel⟩ rfl hrc hrs ⟨hR, hR2⟩ (hw.2 0 (by decide)) hw hS (fun _ q => q) rfl rfl hsz hW hd hcs (fun H1 locs1 hw hz hk hS => kk H1 locs1 hw hS)
set_option maxHeartbeats 4000000 in
set_option maxRecDepth 100000 in
theorem kX9_one {l : Launch} {G : xG} {β N : Nat} {gn : Nat} (IH : GPGPar l G β N gn) {x x' : MS} {r : Int32} (hm : fX9_one (GPar gn) x = some (r, x')) : Met l yX9_one (.code yX9_one cX9_one 2 (some .int) :: GT) (rmGPar (gn + 1)) (PcW [.ref β] (MW β G N x) (KK G)) (QcW (AM β) (some (.int r)) (MW β G N x')) 0 0 (AM β) := by
  unfold fX9_one at hm
  refine xpro (own := RX9) (by decide +kernel) rfl (Nat.le_of_ble_eq_true rfl) ?_
  intro p e s m args below meth c C hw ls hl
  have hx := C.1
  have hb := C.2.1
  have ho := C.2.2.2.1
  have hts := C.2.2.2.2.1
  have hS : va_S (AM β) s.heap s.heap [] := va_S.rf
  have hl : lv_has ls 2 [(0, .ref β)] := hl
  have hRf : (gn + 1 + 3) ≤ (rmGPar (gn + 1)).frames := Nat.le_refl _
  have hRl : ((gn + 1) * 23 + 67) ≤ (rmGPar (gn + 1)).locals := Nat.le_refl _
  have hcs : 0 ≤ (rmGPar (gn + 1)).cells ∧ 0 ≤ (rmGPar (gn + 1)).slots := ⟨Nat.le_refl _, Nat.le_refl _⟩
  refine lv_iconst (v := 0) hx hb dX9_one_0 (by decide) ?_
  refine lv_istore_n (lv' := [(1, .int 0), (0, .ref β)]) hx hb dX9_one_1 rfl hl (by decide) rfl (fun ls hl => ?_)
  refine lv_aload_n hx hb dX9_one_2 rfl (lv_at hl 1 rfl) ?_
  refine lv_bipush (v := 45) hx hb dX9_one_3 (by decide) ?_
  obtain ⟨v1, h2, hm⟩ := bind_e hm
  refine sX9_356 C h2 hw hS hl.1 (Nat.le_of_ble_eq_true rfl) (by have := hRf; omega) (by have := hRl; omega) hcs dX9_one_5 (fun H locs hw hS => ?_)
  refine x_ifeqB hx hb dX9_one_8 (tgt := 37) (by decide) (fun cc => ?_) (fun cc => ?_)
  · replace hm := ite_n cc hm
    refine lv_aload_n hx hb dX9_one_37 rfl (lv_at hl 1 rfl) ?_
    refine lv_bipush (v := 40) hx hb dX9_one_38 (by decide) ?_
    obtain ⟨v3, h4, hm⟩ := bind_e hm
    refine sX9_356 C h4 hw hS hl.1 (Nat.le_of_ble_eq_true rfl) (by have := hRf; omega) (by have := hRl; omega) hcs dX9_one_40 (fun H locs hw hS => ?_)
    refine x_ifeqB hx hb dX9_one_43 (tgt := 95) (by decide) (fun cc => ?_) (fun cc => ?_)
    · replace hm := ite_n cc hm
      refine lv_aload_n hx hb dX9_one_95 rfl (lv_at hl 1 rfl) ?_
      refine gX9_309 C hw dX9_one_96 ?_
      refine lv_if_ne (tgt := 123) hx hb dX9_one_99 (by decide) (fun cc => ?_) (fun cc => ?_)
      · replace hm := ite_n cc hm
        refine lv_aload_n hx hb dX9_one_123 rfl (lv_at hl 1 rfl) ?_
        refine gX9_309 C hw dX9_one_124 ?_
        refine lv_if_ne (tgt := 157) hx hb dX9_one_127 (by decide) (fun cc => ?_) (fun cc => ?_)
        · replace hm := ite_n cc hm
          refine lv_aload_n hx hb dX9_one_157 rfl (lv_at hl 1 rfl) ?_
          obtain ⟨x5, h6, hm⟩ := bind_e hm
          refine sX9_319 C h6 hw hS hl.1 (Nat.le_of_ble_eq_true rfl) (by have := hRf; omega) (by have := hRl; omega) hcs dX9_one_158 (fun H locs hw hS => ?_)
          refine lv_iload_n hx hb dX9_one_161 rfl (lv_at hl 0 rfl) ?_
          obtain ⟨rfl, rfl⟩ := inj2 hm
          exact xret_i C hw hS dX9_one_162
        · replace hm := ite_p cc hm
          refine lv_aload_n hx hb dX9_one_130 rfl (lv_at hl 1 rfl) ?_
          refine gX9_288 C hw dX9_one_131 ?_
          refine lv_iconst (v := 1) hx hb dX9_one_134 (by decide) ?_
          refine lv_icmp_ne (tgt := 157) hx hb dX9_one_135 (by decide) (fun cc => ?_) (fun cc => ?_)
          · replace hm := ite_n cc hm
            refine lv_aload_n hx hb dX9_one_157 rfl (lv_at hl 1 rfl) ?_
            obtain ⟨x7, h8, hm⟩ := bind_e hm
            refine sX9_319 C h8 hw hS hl.1 (Nat.le_of_ble_eq_true rfl) (by have := hRf; omega) (by have := hRl; omega) hcs dX9_one_158 (fun H locs hw hS => ?_)
            refine lv_iload_n hx hb dX9_one_161 rfl (lv_at hl 0 rfl) ?_
            obtain ⟨rfl, rfl⟩ := inj2 hm
            exact xret_i C hw hS dX9_one_162
          · replace hm := ite_p cc hm
            refine lv_aload_n hx hb dX9_one_138 rfl (lv_at hl 1 rfl) ?_
            obtain ⟨v9, x10, h11, hm⟩ := bind2_e hm
            refine sX9_369 C h11 hw hS hl.1 (Nat.le_of_ble_eq_true rfl) (by have := hRf; omega) (by have := hRl; omega) hcs dX9_one_139 (fun H locs hw hS => ?_)
            refine lv_istore_n (lv' := [(1, .int v9), (0, .ref β)]) hx hb dX9_one_142 rfl hl (by decide) rfl (fun ls hl => ?_)
            refine lv_aload_n hx hb dX9_one_143 rfl (lv_at hl 1 rfl) ?_
            refine gX9_309 C hw dX9_one_144 ?_
            refine lv_if_ne (tgt := 161) hx hb dX9_one_147 (by decide) (fun cc => ?_) (fun cc => ?_)
            · replace hm := ite_n cc hm
              refine lv_iload_n hx hb dX9_one_161 rfl (lv_at hl 0 rfl) ?_
              obtain ⟨rfl, rfl⟩ := inj2 hm
              exact xret_i C hw hS dX9_one_162
            · replace hm := ite_p cc hm
              refine lv_aload_n hx hb dX9_one_150 rfl (lv_at hl 1 rfl) ?_
              obtain ⟨x12, h13, hm⟩ := bind_e hm
              refine sX9_322 C h13 hw hS hl.1 (Nat.le_of_ble_eq_true rfl) (by have := hRf; omega) (by have := hRl; omega) hcs dX9_one_151 (fun H locs hw hS => ?_)
              refine lv_goto (tgt := 161) hx hb dX9_one_154 (by decide) ?_
              refine lv_iload_n hx hb dX9_one_161 rfl (lv_at hl 0 rfl) ?_
              obtain ⟨rfl, rfl⟩ := inj2 hm
              exact xret_i C hw hS dX9_one_162
      · replace hm := ite_p cc hm
        refine lv_aload_n hx hb dX9_one_102 rfl (lv_at hl 1 rfl) ?_
        refine gX9_288 C hw dX9_one_103 ?_
        refine lv_iconst (v := 2) hx hb dX9_one_106 (by decide) ?_
        refine lv_icmp_ne (tgt := 123) hx hb dX9_one_107 (by decide) (fun cc => ?_) (fun cc => ?_)
        · replace hm := ite_n cc hm
          refine lv_aload_n hx hb dX9_one_123 rfl (lv_at hl 1 rfl) ?_
          refine gX9_309 C hw dX9_one_124 ?_
          refine lv_if_ne (tgt := 157) hx hb dX9_one_127 (by decide) (fun cc => ?_) (fun cc => ?_)
          · replace hm := ite_n cc hm
            refine lv_aload_n hx hb dX9_one_157 rfl (lv_at hl 1 rfl) ?_
            obtain ⟨x14, h15, hm⟩ := bind_e hm
            refine sX9_319 C h15 hw hS hl.1 (Nat.le_of_ble_eq_true rfl) (by have := hRf; omega) (by have := hRl; omega) hcs dX9_one_158 (fun H locs hw hS => ?_)
            refine lv_iload_n hx hb dX9_one_161 rfl (lv_at hl 0 rfl) ?_
            obtain ⟨rfl, rfl⟩ := inj2 hm
            exact xret_i C hw hS dX9_one_162
          · replace hm := ite_p cc hm
            refine lv_aload_n hx hb dX9_one_130 rfl (lv_at hl 1 rfl) ?_
            refine gX9_288 C hw dX9_one_131 ?_
            refine lv_iconst (v := 1) hx hb dX9_one_134 (by decide) ?_
            refine lv_icmp_ne (tgt := 157) hx hb dX9_one_135 (by decide) (fun cc => ?_) (fun cc => ?_)
            · replace hm := ite_n cc hm
              refine lv_aload_n hx hb dX9_one_157 rfl (lv_at hl 1 rfl) ?_
              obtain ⟨x16, h17, hm⟩ := bind_e hm
              refine sX9_319 C h17 hw hS hl.1 (Nat.le_of_ble_eq_true rfl) (by have := hRf; omega) (by have := hRl; omega) hcs dX9_one_158 (fun H locs hw hS => ?_)
              refine lv_iload_n hx hb dX9_one_161 rfl (lv_at hl 0 rfl) ?_
              obtain ⟨rfl, rfl⟩ := inj2 hm
              exact xret_i C hw hS dX9_one_162
            · replace hm := ite_p cc hm
              refine lv_aload_n hx hb dX9_one_138 rfl (lv_at hl 1 rfl) ?_
              obtain ⟨v18, x19, h20, hm⟩ := bind2_e hm
              refine sX9_369 C h20 hw hS hl.1 (Nat.le_of_ble_eq_true rfl) (by have := hRf; omega) (by have := hRl; omega) hcs dX9_one_139 (fun H locs hw hS => ?_)
              refine lv_istore_n (lv' := [(1, .int v18), (0, .ref β)]) hx hb dX9_one_142 rfl hl (by decide) rfl (fun ls hl => ?_)
              refine lv_aload_n hx hb dX9_one_143 rfl (lv_at hl 1 rfl) ?_
              refine gX9_309 C hw dX9_one_144 ?_
              refine lv_if_ne (tgt := 161) hx hb dX9_one_147 (by decide) (fun cc => ?_) (fun cc => ?_)
              · replace hm := ite_n cc hm
                refine lv_iload_n hx hb dX9_one_161 rfl (lv_at hl 0 rfl) ?_
                obtain ⟨rfl, rfl⟩ := inj2 hm
                exact xret_i C hw hS dX9_one_162
              · replace hm := ite_p cc hm
                refine lv_aload_n hx hb dX9_one_150 rfl (lv_at hl 1 rfl) ?_
                obtain ⟨x21, h22, hm⟩ := bind_e hm
                refine sX9_322 C h22 hw hS hl.1 (Nat.le_of_ble_eq_true rfl) (by have := hRf; omega) (by have := hRl; omega) hcs dX9_one_151 (fun H locs hw hS => ?_)
                refine lv_goto (tgt := 161) hx hb dX9_one_154 (by decide) ?_
                refine lv_iload_n hx hb dX9_one_161 rfl (lv_at hl 0 rfl) ?_
                obtain ⟨rfl, rfl⟩ := inj2 hm
                exact xret_i C hw hS dX9_one_162
        · replace hm := ite_p cc hm
          refine lv_aload_n hx hb dX9_one_110 rfl (lv_at hl 1 rfl) ?_
          refine gX9_295 C hw dX9_one_111 ?_
          refine lv_l2i hx hb dX9_one_114 rfl ?_
          refine topI hm (fun v23 hm => ?_)
          refine lv_istore_n (lv' := [(1, .int v23), (0, .ref β)]) hx hb dX9_one_115 rfl hl (by decide) rfl (fun ls hl => ?_)
          refine lv_aload_n hx hb dX9_one_116 rfl (lv_at hl 1 rfl) ?_
          obtain ⟨x24, h25, hm⟩ := bind_e hm
          refine sX9_322 C h25 hw hS hl.1 (Nat.le_of_ble_eq_true rfl) (by have := hRf; omega) (by have := hRl; omega) hcs dX9_one_117 (fun H locs hw hS => ?_)
          refine lv_goto (tgt := 161) hx hb dX9_one_120 (by decide) ?_
          refine lv_iload_n hx hb dX9_one_161 rfl (lv_at hl 0 rfl) ?_
          obtain ⟨rfl, rfl⟩ := inj2 hm
          exact xret_i C hw hS dX9_one_162
    · replace hm := ite_p cc hm
      refine lv_aload_n hx hb dX9_one_46 rfl (lv_at hl 1 rfl) ?_
      obtain ⟨v26, x27, h28, hm⟩ := bind2_e hm
      refine sX9_359 C h28 hw hS hl.1 (Nat.le_of_ble_eq_true rfl) (by have := hRf; omega) (by have := hRl; omega) hcs dX9_one_47 (fun H locs hw hS => ?_)
      refine x_ifeqB hx hb dX9_one_50 (tgt := 161) (by decide) (fun cc => ?_) (fun cc => ?_)
      · replace hm := ite_n cc hm
        refine lv_iload_n hx hb dX9_one_161 rfl (lv_at hl 0 rfl) ?_
        obtain ⟨rfl, rfl⟩ := inj2 hm
        exact xret_i C hw hS dX9_one_162
      · replace hm := ite_p cc hm
        refine lv_aload_n hx hb dX9_one_53 rfl (lv_at hl 1 rfl) ?_
        obtain ⟨v29, x30, h31, hm⟩ := bind2_e hm
        refine sgX9_366 C (IH.1 _ _ _ h31) rfl rfl hw hS hl.1 (Nat.le_of_ble_eq_true rfl) (by have := hRf; show gn + 3 + 1 ≤ _; omega) (by have := hRl; show 22 + (gn * 23 + 67) ≤ _; omega) hcs dX9_one_54 (fun H locs hw hS => ?_)
        refine lv_istore_n (lv' := [(1, .int v29), (0, .ref β)]) hx hb dX9_one_57 rfl hl (by decide) rfl (fun ls hl => ?_)
        refine lv_aload_n hx hb dX9_one_58 rfl (lv_at hl 1 rfl) ?_
        refine lv_bipush (v := 41) hx hb dX9_one_59 (by decide) ?_
        obtain ⟨v32, h33, hm⟩ := bind_e hm
        refine sX9_356 C h33 hw hS hl.1 (Nat.le_of_ble_eq_true rfl) (by have := hRf; omega) (by have := hRl; omega) hcs dX9_one_61 (fun H locs hw hS => ?_)
        obtain ⟨x36, hj, hm⟩ := bind_e hm
        have kk : ∀ (H : Heap) (locs : List Loc) (ls : Array Slot), MW β G N x36 H → va_S (AM β) s.heap H locs → lv_has ls 2 [(0, .ref β), (1, .int v29)] → W p l e (rmGPar (gn + 1)) s m args below meth c H locs 0 0 (MQ below (QcW (AM β) (some (.int r)) (MW β G N x')) args s 0 0 (AM β)) (F0 m 71 ls []) := by
          intro H locs ls hw hS hl
          refine lv_aload_n hx hb dX9_one_71 rfl (lv_at hl 0 rfl) ?_
          refine lv_dup hx hb dX9_one_72 rfl ?_
          refine gX9_316 C hw dX9_one_73 ?_
          refine lv_iconst (v := 1) hx hb dX9_one_76 (by decide) ?_
          refine lv_isub hx hb dX9_one_77 ?_
          refine pX9_316 C hw hS dX9_one_78 (fun H locs hw hS => ?_)
          obtain ⟨x37, ev, hm⟩ := lt_e hm
          rw [← ev] at hw
          clear ev
          refine lv_aload_n hx hb dX9_one_81 rfl (lv_at hl 0 rfl) ?_
          refine gX9_309 C hw dX9_one_82 ?_
          refine lv_if_ne (tgt := 161) hx hb dX9_one_85 (by decide) (fun cc => ?_) (fun cc => ?_)
          · replace hm := ite_n cc hm
            refine lv_iload_n hx hb dX9_one_161 rfl (lv_at hl 1 rfl) ?_
            obtain ⟨rfl, rfl⟩ := inj2 hm
            exact xret_i C hw hS dX9_one_162
          · replace hm := ite_p cc hm
            refine lv_aload_n hx hb dX9_one_88 rfl (lv_at hl 0 rfl) ?_
            obtain ⟨x38, h39, hm⟩ := bind_e hm
            refine sX9_322 C h39 hw hS hl.1 (Nat.le_of_ble_eq_true rfl) (by have := hRf; omega) (by have := hRl; omega) hcs dX9_one_89 (fun H locs hw hS => ?_)
            refine lv_goto (tgt := 161) hx hb dX9_one_92 (by decide) ?_
            refine lv_iload_n hx hb dX9_one_161 rfl (lv_at hl 1 rfl) ?_
            obtain ⟨rfl, rfl⟩ := inj2 hm
            exact xret_i C hw hS dX9_one_162
        clear hm
        replace hm := hj
        clear hj
        refine x_ifneB hx hb dX9_one_64 (tgt := 71) (by decide) (fun cc => ?_) (fun cc => ?_)
        · replace hm := ite_p cc hm
          obtain rfl := Option.some.inj hm
          exact kk _ _ _ hw hS (lv_sub hl [1, 0] rfl)
        · replace hm := ite_n cc hm
          refine lv_aload_n hx hb dX9_one_67 rfl (lv_at hl 1 rfl) ?_
          obtain ⟨x34, h35, hm⟩ := bind_e hm
          refine sX9_319 C h35 hw hS hl.1 (Nat.le_of_ble_eq_true rfl) (by have := hRf; omega) (by have := hRl; omega) hcs dX9_one_68 (fun H locs hw hS => ?_)
          obtain rfl := Option.some.inj hm
          exact kk _ _ _ hw hS (lv_sub hl [1, 0] rfl)
  · replace hm := ite_p cc hm
    refine lv_aload_n hx hb dX9_one_11 rfl (lv_at hl 1 rfl) ?_
    obtain ⟨v40, x41, h42, hm⟩ := bind2_e hm
    refine sX9_359 C h42 hw hS hl.1 (Nat.le_of_ble_eq_true rfl) (by have := hRf; omega) (by have := hRl; omega) hcs dX9_one_12 (fun H locs hw hS => ?_)
    refine x_ifeqB hx hb dX9_one_15 (tgt := 161) (by decide) (fun cc => ?_) (fun cc => ?_)
    · replace hm := ite_n cc hm
      refine lv_iload_n hx hb dX9_one_161 rfl (lv_at hl 0 rfl) ?_
      obtain ⟨rfl, rfl⟩ := inj2 hm
      exact xret_i C hw hS dX9_one_162
    · replace hm := ite_p cc hm
      refine lv_aload_n hx hb dX9_one_18 rfl (lv_at hl 1 rfl) ?_
      obtain ⟨v43, x44, h45, hm⟩ := bind2_e hm
      refine sgX9_363 C (IH.2.2.2.2.2 _ _ _ h45) rfl rfl hw hS hl.1 (Nat.le_of_ble_eq_true rfl) (by have := hRf; show gn + 3 + 1 ≤ _; omega) (by have := hRl; show 21 + (gn * 23 + 67) ≤ _; omega) hcs dX9_one_19 (fun H locs hw hS => ?_)
      refine lv_ineg hx hb dX9_one_22 ?_
      refine topI hm (fun v46 hm => ?_)
      refine lv_istore_n (lv' := [(1, .int v46), (0, .ref β)]) hx hb dX9_one_23 rfl hl (by decide) rfl (fun ls hl => ?_)
      refine lv_aload_n hx hb dX9_one_24 rfl (lv_at hl 1 rfl) ?_
      refine lv_dup hx hb dX9_one_25 rfl ?_
      refine gX9_316 C hw dX9_one_26 ?_
      refine lv_iconst (v := 1) hx hb dX9_one_29 (by decide) ?_
      refine lv_isub hx hb dX9_one_30 ?_
      refine pX9_316 C hw hS dX9_one_31 (fun H locs hw hS => ?_)
      obtain ⟨x47, ev, hm⟩ := lt_e hm
      rw [← ev] at hw
      clear ev
      refine lv_goto (tgt := 161) hx hb dX9_one_34 (by decide) ?_
      refine lv_iload_n hx hb dX9_one_161 rfl (lv_at hl 0 rfl) ?_
      obtain ⟨rfl, rfl⟩ := inj2 hm
      exact xret_i C hw hS dX9_one_162
theorem okGPar (l : Launch) (G : xG) (β N : Nat) : ∀ n, GPGPar l G β N n
  | 0 => by unfold GPGPar; exact ⟨(fun _ _ _ h => (by cases h)), (fun _ _ _ h => (by cases h)), (fun _ _ _ h => (by cases h)), (fun _ _ _ h => (by cases h)), (fun _ _ _ h => (by cases h)), (fun _ _ _ h => (by cases h))⟩
  | n + 1 => by
    have IH := okGPar l G β N n
    unfold GPGPar
    exact ⟨(fun _ _ _ h => kX9_either IH h), (fun _ _ _ h => kX9_both IH h), (fun _ _ _ h => kX9_not IH h), (fun _ _ _ h => kX9_added IH h), (fun _ _ _ h => kX9_term IH h), (fun _ _ _ h => kX9_one IH h)⟩
theorem kgX9_either {l : Launch} {G : xG} {β N : Nat} {x x' : MS} {r : Int32} (hm : GPar MF 0 x = some (r, x')) : Met l yX9_either (.code yX9_either cX9_either 3 (some .int) :: GT) (rmGPar MF) (PcW [.ref β] (MW β G N x) (KK G)) (QcW (AM β) (some (.int r)) (MW β G N x')) 0 0 (AM β) := (okGPar l G β N MF).1 _ _ _ hm
theorem kgX9_both {l : Launch} {G : xG} {β N : Nat} {x x' : MS} {r : Int32} (hm : GPar MF 1 x = some (r, x')) : Met l yX9_both (.code yX9_both cX9_both 3 (some .int) :: GT) (rmGPar MF) (PcW [.ref β] (MW β G N x) (KK G)) (QcW (AM β) (some (.int r)) (MW β G N x')) 0 0 (AM β) := (okGPar l G β N MF).2.1 _ _ _ hm
theorem kgX9_not {l : Launch} {G : xG} {β N : Nat} {x x' : MS} {r : Int32} (hm : GPar MF 2 x = some (r, x')) : Met l yX9_not (.code yX9_not cX9_not 4 (some .int) :: GT) (rmGPar MF) (PcW [.ref β] (MW β G N x) (KK G)) (QcW (AM β) (some (.int r)) (MW β G N x')) 0 0 (AM β) := (okGPar l G β N MF).2.2.1 _ _ _ hm
theorem kgX9_added {l : Launch} {G : xG} {β N : Nat} {x x' : MS} {r : Int32} (hm : GPar MF 3 x = some (r, x')) : Met l yX9_added (.code yX9_added cX9_added 4 (some .int) :: GT) (rmGPar MF) (PcW [.ref β] (MW β G N x) (KK G)) (QcW (AM β) (some (.int r)) (MW β G N x')) 0 0 (AM β) := (okGPar l G β N MF).2.2.2.1 _ _ _ hm
theorem kgX9_term {l : Launch} {G : xG} {β N : Nat} {x x' : MS} {r : Int32} (hm : GPar MF 4 x = some (r, x')) : Met l yX9_term (.code yX9_term cX9_term 2 (some .int) :: GT) (rmGPar MF) (PcW [.ref β] (MW β G N x) (KK G)) (QcW (AM β) (some (.int r)) (MW β G N x')) 0 0 (AM β) := (okGPar l G β N MF).2.2.2.2.1 _ _ _ hm
theorem kgX9_one {l : Launch} {G : xG} {β N : Nat} {x x' : MS} {r : Int32} (hm : GPar MF 5 x = some (r, x')) : Met l yX9_one (.code yX9_one cX9_one 2 (some .int) :: GT) (rmGPar MF) (PcW [.ref β] (MW β G N x) (KK G)) (QcW (AM β) (some (.int r)) (MW β G N x')) 0 0 (AM β) := (okGPar l G β N MF).2.2.2.2.2 _ _ _ hm
