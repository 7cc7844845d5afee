section XR4
variable {p : Program} {l : Launch} {e : Env} {R : Room} {s : State} {m : MethodId} {args : Array Value} {below : List Frame} {meth : Method} {c : Code} {H : Heap} {locs : List Loc} {cells slots : Nat} {Q : State → Prop}
variable {cc : ByteArray} {pc nL : Nat} {ls : Array Slot} {rest : List Value} {D : va_G} {cl : List vw_C} {A : Nat → Prop} {a : Nat} {tys : List (ClassId × FieldType)} {H0 : Heap}
theorem x_new (hexec : p.tables.exec = Jvm.exec) (hb : c.code = cc) {own C : String} {T : u_T} {N ci index : Nat} (hts : ∀ w ∈ GT, w.before args s = true) (hin : ∀ w ∈ u_ws C T N, w ∈ GT) (ty : Nat → FieldType) (hty : ∀ k, k < N → parseFieldDescriptor (T k).2.2.1 = some (ty k)) (hown : s.vm.findClass own = some m.cls) (hcl : (Cond.classLink own index C).before args s = true) (hinst : (Cond.instantiable C N).before args s = true) (hini : (Cond.initialized C).before args s = true)
    (hK : va_K D cl tys s) (hS : va_S A H0 H locs) (hc : cl[ci]? = some (C, T, N)) {fs : List Value} (hfs : ∀ j, j < N → defaultValue (ty j) = vp_V fs j) (hcells : cells + 1 ≤ R.cells) (hslots : slots + N ≤ R.slots) (hdg : decode cc pc = .ok (.new index, 3))
    (kk : ∀ (H1 : Heap), va_at D cl (H.size, .inr (ci, fs)) H1 → xNew H H1 → va_S A H0 H1 locs →
      W p l e R s m args below meth c H1 locs (cells + 1) (slots + N) Q (F0 m (pc + 3) ls (.ref H.size :: rest))) : W p l e R s m args below meth c H locs cells slots Q (F0 m pc ls rest) := by
  have hKn := hK.1 ci _ hc
  refine W.newcK hexec hb hown hcl hinst hini rfl hdg hcells hslots hKn.2.1 rfl fun H1 kC hkC e1 z1 o1 => ?_
  exact kk H1 ⟨_, hc, (u_born ty hts hin hKn hkC e1 hty).to hfs⟩ ⟨z1, o1⟩ ⟨Nat.le_trans hS.1 (by omega), fun x h1 h2 => (o1 x (Nat.lt_of_lt_of_le h1 hS.1)).trans (hS.2.1 x h1 h2), hS.2.2⟩
theorem x_newa {G : xG} (hexec : p.tables.exec = Jvm.exec) (hb : c.code = cc) (harr : (Cond.arrayClass .int).before args s = true) (hK : KK G s) (hS : va_S A H0 H locs) {n : Int32} {N : Nat} (hn : ¬ n < 0) (hN : n.toNatClampNeg = N) (hbytes : N * componentBytes .int ≤ 536870912) (hcells : cells + 1 ≤ R.cells) (hslots : slots + N ≤ R.slots) (hdg : decode cc pc = .ok (.newarray .int, 2))
    (kk : ∀ (H1 : Heap), va_at G.1 cl (H.size, .inl (G.2.1 0, N, .inl (fun _ => 0))) H1 → xNew H H1 → va_S A H0 H1 locs → W p l e R s m args below meth c H1 locs (cells + 1) (slots + N) Q (F0 m (pc + 2) ls (.ref H.size :: rest))) : W p l e R s m args below meth c H locs cells slots Q (F0 m pc ls (.int n :: rest)) := by
  refine va_newaK (atype := .int) hexec hb harr rfl hdg rfl hn hN hbytes hcells hslots rfl (fun H1 cA e1 z1 o1 hAr hNm => ?_)
  have h0 : cA = G.2.1 0 := by
    have h1 := (hK.1.2 0 _ rfl).2
    exact Option.some.inj (hNm.symm.trans h1)
  subst h0
  exact kk H1 e1 ⟨z1, o1⟩ ⟨Nat.le_trans hS.1 (by omega), fun x h1 h2 => (o1 x (Nat.lt_of_lt_of_le h1 hS.1)).trans (hS.2.1 x h1 h2), hS.2.2⟩
end XR4
theorem hnx {β : Nat} {D : Nat → Prop} {G : xG} {x : XS} {H H0 : Heap} {locs : List Loc} (hw : CW β D G x H) (hS : va_S D H0 H locs) (hn : ∀ q, H0.size ≤ q → D q) : ∀ q, x.2.2.2.2 ≤ q → D q := fun q h => hn q (Nat.le_trans hS.1 (by rw [hw.1]; exact h))
abbrev rmGRd (n : Nat) : Room := { frames := n + 8, cells := 0, slots := 0, locals := n * 24 + 168 }
def BX4_readOr_8 (rc : Nat → XS → Int32 → Option (Bool × XS)) (q1 : Int32) (lp : Bool → Int32 → XS → Option (Bool × XS)) (u2 : Bool) (u3 : Int32) (x : XS) : Option (Bool × XS) := if 160 ≤ u3 then some (u2, x) else if u2 = true then if (x.1 4 4) = (-14) then Option.bind (fX6_advance x) fun x4 => bind2 (rc 1 x4 q1) fun v6 x7 => Option.bind (fX4_write x7 (-14)) fun x9 => lt (u3 + 1) fun v11 => lp v6 v11 x9 else some (u2, x) else some (u2, x)
def LX4_readOr_8 (rc : Nat → XS → Int32 → Option (Bool × XS)) (q1 : Int32) : Nat → Bool → Int32 → XS → Option (Bool × XS)
  | 0, _, _, _ => none
  | n + 1, u2, u3, x => BX4_readOr_8 rc q1 (LX4_readOr_8 rc q1 n) u2 u3 x
def fX4_readOr (rc : Nat → XS → Int32 → Option (Bool × XS)) (x : XS) (a1 : Int32) : Option (Bool × XS) := bind2 (rc 1 x a1) fun v1 x2 => bind2 (LX4_readOr_8 rc a1 NF v1 0 x2) fun v12 x13 => some (v12, x13)
def BX4_readAnd_8 (rc : Nat → XS → Int32 → Option (Bool × XS)) (q1 : Int32) (lp : Bool → Int32 → XS → Option (Bool × XS)) (u2 : Bool) (u3 : Int32) (x : XS) : Option (Bool × XS) := if 160 ≤ u3 then some (u2, x) else if u2 = true then if (x.1 4 4) = (-15) then Option.bind (fX6_advance x) fun x4 => bind2 (rc 2 x4 q1) fun v6 x7 => Option.bind (fX4_write x7 (-15)) fun x9 => lt (u3 + 1) fun v11 => lp v6 v11 x9 else some (u2, x) else some (u2, x)
def LX4_readAnd_8 (rc : Nat → XS → Int32 → Option (Bool × XS)) (q1 : Int32) : Nat → Bool → Int32 → XS → Option (Bool × XS)
  | 0, _, _, _ => none
  | n + 1, u2, u3, x => BX4_readAnd_8 rc q1 (LX4_readAnd_8 rc q1 n) u2 u3 x
def fX4_readAnd (rc : Nat → XS → Int32 → Option (Bool × XS)) (x : XS) (a1 : Int32) : Option (Bool × XS) := bind2 (rc 2 x a1) fun v1 x2 => bind2 (LX4_readAnd_8 rc a1 NF v1 0 x2) fun v12 x13 => some (v12, x13)
def fX4_readNot (rc : Nat → XS → Int32 → Option (Bool × XS)) (x : XS) (a1 : Int32) : Option (Bool × XS) := if (x.1 4 4) = (-16) then if a1 < 5 then Option.bind (fX6_advance x) fun x1 => bind2 (rc 2 x1 (a1 + 1)) fun v3 x4 => Option.bind (fX4_write x4 (-16)) fun x6 => some (v3, x6) else some (false, x) else bind2 (rc 3 x a1) fun v8 x9 => some (v8, x9)
def fX4_readCompared (rc : Nat → XS → Int32 → Option (Bool × XS)) (x : XS) (a1 : Int32) : Option (Bool × XS) := bind2 (rc 4 x a1) fun v1 x2 => if v1 = true then lt (x2.1 4 4) fun v4 => if v4 = (-24) then Option.bind (fX6_advance x2) fun x5 => bind2 (rc 4 x5 a1) fun v7 x8 => Option.bind (fX4_write x8 v4) fun x10 => some (v7, x10) else if v4 = (-25) then Option.bind (fX6_advance x2) fun x12 => bind2 (rc 4 x12 a1) fun v14 x15 => Option.bind (fX4_write x15 v4) fun x17 => some (v14, x17) else some (true, x2) else some (false, x2)
def BX4_readSum_8 (rc : Nat → XS → Int32 → Option (Bool × XS)) (q1 : Int32) (lp : Bool → Int32 → XS → Option (Bool × XS)) (u2 : Bool) (u3 : Int32) (x : XS) : Option (Bool × XS) := if 160 ≤ u3 then some (u2, x) else if u2 = true then if (x.1 4 4) = (-21) then lt (x.1 4 4) fun v4 => Option.bind (fX6_advance x) fun x5 => bind2 (rc 5 x5 q1) fun v7 x8 => Option.bind (fX4_write x8 v4) fun x10 => lt (u3 + 1) fun v12 => lp v7 v12 x10 else if (x.1 4 4) = (-22) then lt (x.1 4 4) fun v13 => Option.bind (fX6_advance x) fun x14 => bind2 (rc 5 x14 q1) fun v16 x17 => Option.bind (fX4_write x17 v13) fun x19 => lt (u3 + 1) fun v21 => lp v16 v21 x19 else some (u2, x) else some (u2, x)
def LX4_readSum_8 (rc : Nat → XS → Int32 → Option (Bool × XS)) (q1 : Int32) : Nat → Bool → Int32 → XS → Option (Bool × XS)
  | 0, _, _, _ => none
  | n + 1, u2, u3, x => BX4_readSum_8 rc q1 (LX4_readSum_8 rc q1 n) u2 u3 x
def fX4_readSum (rc : Nat → XS → Int32 → Option (Bool × XS)) (x : XS) (a1 : Int32) : Option (Bool × XS) := bind2 (rc 5 x a1) fun v1 x2 => bind2 (LX4_readSum_8 rc a1 NF v1 0 x2) fun v22 x23 => some (v22, x23)
def BX4_readTerm_8 (rc : Nat → XS → Int32 → Option (Bool × XS)) (q1 : Int32) (lp : Bool → Int32 → XS → Option (Bool × XS)) (u2 : Bool) (u3 : Int32) (x : XS) : Option (Bool × XS) := if 160 ≤ u3 then some (u2, x) else if u2 = true then if (x.1 4 4) = (-23) then Option.bind (fX6_advance x) fun x4 => bind2 (rc 6 x4 q1) fun v6 x7 => Option.bind (fX4_write x7 (-23)) fun x9 => lt (u3 + 1) fun v11 => lp v6 v11 x9 else some (u2, x) else some (u2, x)
def LX4_readTerm_8 (rc : Nat → XS → Int32 → Option (Bool × XS)) (q1 : Int32) : Nat → Bool → Int32 → XS → Option (Bool × XS)
  | 0, _, _, _ => none
  | n + 1, u2, u3, x => BX4_readTerm_8 rc q1 (LX4_readTerm_8 rc q1 n) u2 u3 x
def fX4_readTerm (rc : Nat → XS → Int32 → Option (Bool × XS)) (x : XS) (a1 : Int32) : Option (Bool × XS) := bind2 (rc 6 x a1) fun v1 x2 => bind2 (LX4_readTerm_8 rc a1 NF v1 0 x2) fun v12 x13 => some (v12, x13)
def fX4_readOne (rc : Nat → XS → Int32 → Option (Bool × XS)) (x : XS) (a1 : Int32) : Option (Bool × XS) := if (x.1 4 4) = (-34) then if (x.1 4 4) = (-34) then Option.bind (fX4_write x (x.1 4 5)) fun x5 => Option.bind (fX6_advance x5) fun x7 => some (true, x7) else Option.bind (fX4_write x (x.1 4 4)) fun x1 => Option.bind (fX6_advance x1) fun x3 => some (true, x3) else Option.bind (fX7_isName (x.1 4 4)) fun v9 => if v9 = true then if (x.1 4 4) = (-34) then Option.bind (fX4_write x (x.1 4 5)) fun x43 => Option.bind (fX6_advance x43) fun x45 => some (true, x45) else Option.bind (fX4_write x (x.1 4 4)) fun x39 => Option.bind (fX6_advance x39) fun x41 => some (true, x41) else if (x.1 4 4) = (-22) then if a1 < 5 then Option.bind (if (x.1 4 4) = (-31) then some true else some false) fun v11 => Option.bind (fX6_advance x) fun x12 => if v11 = true then bind2 (rc 0 x12 (a1 + 1)) fun v19 x20 => if v19 = true then bind2 (fX4_passes x20 (-32)) fun v22 x23 => if v22 = true then some (true, x23) else some (false, x23) else some (false, x20) else bind2 (rc 6 x12 (a1 + 1)) fun v14 x15 => Option.bind (fX4_write x15 (-26)) fun x17 => some (v14, x17) else some (false, x) else if (x.1 4 4) = (-31) then if a1 < 5 then Option.bind (if (x.1 4 4) = (-31) then some true else some false) fun v25 => Option.bind (fX6_advance x) fun x26 => if v25 = true then bind2 (rc 0 x26 (a1 + 1)) fun v33 x34 => if v33 = true then bind2 (fX4_passes x34 (-32)) fun v36 x37 => if v36 = true then some (true, x37) else some (false, x37) else some (false, x34) else bind2 (rc 6 x26 (a1 + 1)) fun v28 x29 => Option.bind (fX4_write x29 (-26)) fun x31 => some (v28, x31) else some (false, x) else some (false, x)
def GRd : Nat → Nat → XS → Int32 → Option (Bool × XS)
  | 0, _, _, _ => none
  | n + 1, t, x, a1 => match t with
    | 0 => fX4_readOr (GRd n) x a1
    | 1 => fX4_readAnd (GRd n) x a1
    | 2 => fX4_readNot (GRd n) x a1
    | 3 => fX4_readCompared (GRd n) x a1
    | 4 => fX4_readSum (GRd n) x a1
    | 5 => fX4_readTerm (GRd n) x a1
    | 6 => fX4_readOne (GRd n) x a1
    | _ => none
def GPGRd (l : Launch) (G : xG) (β : Nat) (D : Nat → Prop) (n : Nat) : Prop :=
  (∀ (x : XS) (a1 : Int32) (r : Bool) (x' : XS), GRd n 0 x a1 = some (r, x') → Met l yX4_readOr (.code yX4_readOr cX4_readOr 4 (some .boolean) :: GT) (rmGRd n) (PcW [.ref (β + 6), .int a1] (CW β D G x) (KK G)) (QcW D (some (.int (bI r))) (CW β D G x')) 0 0 D) ∧
  (∀ (x : XS) (a1 : Int32) (r : Bool) (x' : XS), GRd n 1 x a1 = some (r, x') → Met l yX4_readAnd (.code yX4_readAnd cX4_readAnd 4 (some .boolean) :: GT) (rmGRd n) (PcW [.ref (β + 6), .int a1] (CW β D G x) (KK G)) (QcW D (some (.int (bI r))) (CW β D G x')) 0 0 D) ∧
  (∀ (x : XS) (a1 : Int32) (r : Bool) (x' : XS), GRd n 2 x a1 = some (r, x') → Met l yX4_readNot (.code yX4_readNot cX4_readNot 3 (some .boolean) :: GT) (rmGRd n) (PcW [.ref (β + 6), .int a1] (CW β D G x) (KK G)) (QcW D (some (.int (bI r))) (CW β D G x')) 0 0 D) ∧
  (∀ (x : XS) (a1 : Int32) (r : Bool) (x' : XS), GRd n 3 x a1 = some (r, x') → Met l yX4_readCompared (.code yX4_readCompared cX4_readCompared 4 (some .boolean) :: GT) (rmGRd n) (PcW [.ref (β + 6), .int a1] (CW β D G x) (KK G)) (QcW D (some (.int (bI r))) (CW β D G x')) 0 0 D) ∧
  (∀ (x : XS) (a1 : Int32) (r : Bool) (x' : XS), GRd n 4 x a1 = some (r, x') → Met l yX4_readSum (.code yX4_readSum cX4_readSum 5 (some .boolean) :: GT) (rmGRd n) (PcW [.ref (β + 6), .int a1] (CW β D G x) (KK G)) (QcW D (some (.int (bI r))) (CW β D G x')) 0 0 D) ∧
  (∀ (x : XS) (a1 : Int32) (r : Bool) (x' : XS), GRd n 5 x a1 = some (r, x') → Met l yX4_readTerm (.code yX4_readTerm cX4_readTerm 4 (some .boolean) :: GT) (rmGRd n) (PcW [.ref (β + 6), .int a1] (CW β D G x) (KK G)) (QcW D (some (.int (bI r))) (CW β D G x')) 0 0 D) ∧
  (∀ (x : XS) (a1 : Int32) (r : Bool) (x' : XS), GRd n 6 x a1 = some (r, x') → Met l yX4_readOne (.code yX4_readOne cX4_readOne 4 (some .boolean) :: GT) (rmGRd n) (PcW [.ref (β + 6), .int a1] (CW β D G x) (KK G)) (QcW D (some (.int (bI r))) (CW β D G x')) 0 0 D)
theorem dX4_readOr_0 : decode cX4_readOr 0 = .ok (.aload_n 0, 1) := by decide +kernel
theorem dX4_readOr_1 : decode cX4_readOr 1 = .ok (.iload_n 1, 1) := by decide +kernel
theorem dX4_readOr_2 : decode cX4_readOr 2 = .ok (.invokevirtual 56, 3) := by decide +kernel
theorem dX4_readOr_5 : decode cX4_readOr 5 = .ok (.istore_n 2, 1) := by decide +kernel
theorem dX4_readOr_6 : decode cX4_readOr 6 = .ok (.iconst 0, 1) := by decide +kernel
theorem dX4_readOr_7 : decode cX4_readOr 7 = .ok (.istore_n 3, 1) := by decide +kernel
theorem dX4_readOr_8 : decode cX4_readOr 8 = .ok (.iload_n 3, 1) := by decide +kernel
theorem dX4_readOr_9 : decode cX4_readOr 9 = .ok (.sipush 160, 3) := by decide +kernel
theorem dX4_readOr_12 : decode cX4_readOr 12 = .ok (.if_icmp .ge 44, 3) := by decide +kernel
theorem dX4_readOr_15 : decode cX4_readOr 15 = .ok (.iload_n 2, 1) := by decide +kernel
theorem dX4_readOr_16 : decode cX4_readOr 16 = .ok (.ifCond .eq 40, 3) := by decide +kernel
theorem dX4_readOr_19 : decode cX4_readOr 19 = .ok (.aload_n 0, 1) := by decide +kernel
theorem dX4_readOr_20 : decode cX4_readOr 20 = .ok (.getfield 22, 3) := by decide +kernel
theorem dX4_readOr_23 : decode cX4_readOr 23 = .ok (.getfield 35, 3) := by decide +kernel
theorem dX4_readOr_26 : decode cX4_readOr 26 = .ok (.bipush (-14), 2) := by decide +kernel
theorem dX4_readOr_28 : decode cX4_readOr 28 = .ok (.if_icmp .ne 28, 3) := by decide +kernel
theorem dX4_readOr_31 : decode cX4_readOr 31 = .ok (.aload_n 0, 1) := by decide +kernel
theorem dX4_readOr_32 : decode cX4_readOr 32 = .ok (.getfield 22, 3) := by decide +kernel
theorem dX4_readOr_35 : decode cX4_readOr 35 = .ok (.invokevirtual 59, 3) := by decide +kernel
theorem dX4_readOr_38 : decode cX4_readOr 38 = .ok (.aload_n 0, 1) := by decide +kernel
theorem dX4_readOr_39 : decode cX4_readOr 39 = .ok (.iload_n 1, 1) := by decide +kernel
theorem dX4_readOr_40 : decode cX4_readOr 40 = .ok (.invokevirtual 56, 3) := by decide +kernel
theorem dX4_readOr_43 : decode cX4_readOr 43 = .ok (.istore_n 2, 1) := by decide +kernel
theorem dX4_readOr_44 : decode cX4_readOr 44 = .ok (.aload_n 0, 1) := by decide +kernel
theorem dX4_readOr_45 : decode cX4_readOr 45 = .ok (.bipush (-14), 2) := by decide +kernel
theorem dX4_readOr_47 : decode cX4_readOr 47 = .ok (.invokevirtual 62, 3) := by decide +kernel
theorem dX4_readOr_50 : decode cX4_readOr 50 = .ok (.iinc 3 1, 3) := by decide +kernel
theorem dX4_readOr_53 : decode cX4_readOr 53 = .ok (.goto (-45), 3) := by decide +kernel
theorem dX4_readOr_56 : decode cX4_readOr 56 = .ok (.iload_n 2, 1) := by decide +kernel
theorem dX4_readOr_57 : decode cX4_readOr 57 = .ok (.ireturn, 1) := by decide +kernel
theorem sgX4_56 {p : Program} {l : Launch} {e : Env} {R : Room} {s : State} {m : MethodId} {args : Array Value} {below : List Frame} {meth : Method} {c : Code} {H : Heap} {locs : List Loc} {cells slots : Nat} {Q : State → Prop} {cc : ByteArray} {pc nL : Nat} {ls : Array Slot} {rest : List Value} {ret : Option FieldType} {G : xG} {β : Nat} {D : Nat → Prop} {x x' : XS} {a1 : Int32} {r : Bool} {rm : Room} (C : Cx p s m args meth c RX4 cc nL ret (KK G)) (hM : Met l yX4_readAnd (.code yX4_readAnd cX4_readAnd 4 (some .boolean) :: GT) rm (PcW [.ref (β + 6), .int a1] (CW β D G x) (KK G)) (QcW D (some (.int (bI r))) (CW β D G x')) 0 0 D) (hrc : rm.cells = 0) (hrs : rm.slots = 0) (hw : CW β D G x H) (hS : va_S D s.heap H locs) (hsz : ls.size = nL) (hW : (rest.map fun v => v.category).sum ≤ 8) (hR : rm.frames + 1 ≤ R.frames) (hR2 : 23 + rm.locals ≤ R.locals) (hcs : cells ≤ R.cells ∧ slots ≤ R.slots) (hd : decode cc pc = .ok (.invokevirtual 56, 3)) (kk : ∀ (H1 : Heap) (locs1 : List Loc), CW β D G x' H1 → va_S D s.heap H1 locs1 → W p l e R s m args below meth c H1 locs1 cells slots Q (F0 m (pc + 3) ls (.int (bI r) :: rest))) : W p l e R s m args below meth c H locs cells slots Q (F0 m pc ls (.int a1 :: .ref (β + 6) :: rest)) :=
  xcallV C (As := [.int a1]) (rest := rest) (nA := 1) (ci := 4) hM (tg 275 (by decide +kernel) rfl) (tg 277 (by decide +kernel) rfl) (sg (List.mem_of_getElem? (i := 6) (by decide +kernel)) rfl) (tg 3 (by decide +kernel) rfl) (tg 278 (by decide +kernel) rfl) ⟨rfl, by decide +kernel, by decide +kernel, by decide +kernel⟩ rfl hrc hrs ⟨hR, hR2⟩ (hw.2.2.1 6 (by decide)) hw hS (fun _ q => q) rfl rfl hsz hW hd hcs (fun H1 locs1 hw hz hk hS => kk H1 locs1 hw hS)
theorem sX4_62 {p : Program} {l : Launch} {e : Env} {R : Room} {s : State} {m : MethodId} {args : Array Value} {below : List Frame} {meth : Method} {c : Code} {H : Heap} {locs : List Loc} {cells slots : Nat} {Q : State → Prop} {cc : ByteArray} {pc nL : Nat} {ls : Array Slot} {rest : List Value} {ret : Option FieldType}  {G : xG} {β : Nat} {D : Nat → Prop} {x x' : XS} {a1 : Int32} (C : Cx p s m args meth c RX4 cc nL ret (KK G)) (h : fX4_write x a1 = some x') (hw : CW β D G x H) (hS : va_S D s.heap H locs) (hsz : ls.size = nL) (hW : (rest.map fun v => v.category).sum ≤ 8) (hR : 1 ≤ R.frames) (hR2 : 21 ≤ R.locals) (hcs : cells ≤ R.cells ∧ slots ≤ R.slots) (hd : decode cc pc = .ok (.invokevirtual 62, 3)) (kk : ∀ (H1 : Heap) (locs1 : List Loc), CW β D G x' H1 → va_S D s.heap H1 locs1 → W p l e R s m args below meth c H1 locs1 cells slots Q (F0 m (pc + 3) ls (rest))) : W p l e R s m args below meth c H locs cells slots Q (F0 m pc ls (.int a1 :: .ref (β + 6) :: rest)) := by
  exact xcallV C (As := [.int a1]) (rest := rest) (nA := 1) (ci := 4) (kX4_write h) (tg 302 (by decide +kernel) rfl) (tg 304 (by decide +kernel) rfl) (sg (List.mem_of_getElem? (i := 12) (by decide +kernel)) rfl) (tg 3 (by decide +kernel) rfl) (tg 305 (by decide +kernel) rfl) ⟨rfl, by decide +kernel, by decide +kernel, by decide +kernel⟩ rfl rfl rfl ⟨hR, hR2⟩ (hw.2.2.1 6 (by decide)) hw hS (fun _ q => q) rfl rfl hsz hW hd hcs (fun H1 locs1 hw hz hk hS => kk H1 locs1 hw hS)
set_option maxHeartbeats 4000000 in
set_option maxRecDepth 100000 in
theorem lX4_readOr_8 {p : Program} {l : Launch} {e : Env} {R : Room} {s : State} {m : MethodId} {args : Array Value} {below : List Frame} {meth : Method} {c : Code} {cells slots : Nat} {Q : State → Prop} {G : xG} {β : Nat} {D : Nat → Prop} {gn : Nat} (C : Cx p s m args meth c RX4 cX4_readOr 4 (some .boolean) (KK G)) (hRf : (gn + 1 + 8) ≤ R.frames) (hRl : ((gn + 1) * 24 + 168) ≤ R.locals) (hcs : cells ≤ R.cells ∧ slots ≤ R.slots) (hf : Fz D G s.heap) (IH : GPGRd l G β D gn) (q1 : Int32) : ∀ (n : Nat) (u2 : Bool) (u3 : Int32) (x : XS) (J : Bool × XS) (H : Heap) (locs : List Loc) (ls : Array Slot), LX4_readOr_8 (GRd gn) q1 n u2 u3 x = some J → CW β D G x H → va_S D s.heap H locs → lv_has ls 4 [(0, .ref (β + 6)), (1, .int q1), (2, .int (bI u2)), (3, .int u3)] → (∀ (w2 : Bool) (x1 : XS), J = (w2, x1) → ∀ (H : Heap) (locs : List Loc) (ls : Array Slot), CW β D G x1 H → va_S D s.heap H locs → lv_has ls 4 [(2, .int (bI w2))] → W p l e R s m args below meth c H locs cells slots Q (F0 m 56 ls [])) → W p l e R s m args below meth c H locs cells slots Q (F0 m 8 ls []) := by
  have hx := C.1
  have hb := C.2.1
  have ho := C.2.2.2.1
  have hts := C.2.2.2.2.1
  intro n
  induction n with
  | zero =>
    intro u2 u3 x J H locs ls hm
    exact absurd hm (by simp [LX4_readOr_8])
  | succ n ih =>
    intro u2 u3 x J H locs ls hm hw hS hl ke
    replace hm : BX4_readOr_8 (GRd gn) q1 (LX4_readOr_8 (GRd gn) q1 n) u2 u3 x = some J := hm
    unfold BX4_readOr_8 at hm
    refine lv_iload_n hx hb dX4_readOr_8 rfl (lv_at hl 3 rfl) ?_
    refine lv_sipush (v := 160) hx hb dX4_readOr_9 (by decide) ?_
    refine lv_icmp_ge (tgt := 56) hx hb dX4_readOr_12 (by decide) (fun cc => ?_) (fun cc => ?_)
    · replace hm := ite_p cc hm
      exact ke _ _ (Option.some.inj hm).symm _ _ _ hw hS (lv_sub hl [2] rfl)
    · replace hm := ite_n cc hm
      refine lv_iload_n hx hb dX4_readOr_15 rfl (lv_at hl 2 rfl) ?_
      refine x_ifeqB hx hb dX4_readOr_16 (tgt := 56) (by decide) (fun cc => ?_) (fun cc => ?_)
      · replace hm := ite_n cc hm
        exact ke _ _ (Option.some.inj hm).symm _ _ _ hw hS (lv_sub hl [2] rfl)
      · replace hm := ite_p cc hm
        refine lv_aload_n hx hb dX4_readOr_19 rfl (lv_at hl 0 rfl) ?_
        refine gX4_22 C hw dX4_readOr_20 ?_
        refine gX4_35 C hw dX4_readOr_23 ?_
        refine lv_bipush (v := (-14)) hx hb dX4_readOr_26 (by decide) ?_
        refine lv_icmp_ne (tgt := 56) hx hb dX4_readOr_28 (by decide) (fun cc => ?_) (fun cc => ?_)
        · replace hm := ite_n cc hm
          exact ke _ _ (Option.some.inj hm).symm _ _ _ hw hS (lv_sub hl [2] rfl)
        · replace hm := ite_p cc hm
          refine lv_aload_n hx hb dX4_readOr_31 rfl (lv_at hl 0 rfl) ?_
          refine gX4_22 C hw dX4_readOr_32 ?_
          obtain ⟨x4, h5, hm⟩ := bind_e hm
          refine sX4_59 C h5 hw hS hl.1 (Nat.le_of_ble_eq_true rfl) (by have := hRf; omega) (by have := hRl; omega) hcs dX4_readOr_35 (fun H locs hw hS => ?_)
          refine lv_aload_n hx hb dX4_readOr_38 rfl (lv_at hl 0 rfl) ?_
          refine lv_iload_n hx hb dX4_readOr_39 rfl (lv_at hl 1 rfl) ?_
          obtain ⟨v6, x7, h8, hm⟩ := bind2_e hm
          refine sgX4_56 C (IH.2.1 _ _ _ _ h8) rfl rfl hw hS hl.1 (Nat.le_of_ble_eq_true rfl) (by have := hRf; show gn + 8 + 1 ≤ _; omega) (by have := hRl; show 23 + (gn * 24 + 168) ≤ _; omega) hcs dX4_readOr_40 (fun H locs hw hS => ?_)
          refine lv_istore_n (lv' := [(2, .int (bI v6)), (0, .ref (β + 6)), (1, .int q1), (3, .int u3)]) hx hb dX4_readOr_43 rfl hl (by decide) rfl (fun ls hl => ?_)
          refine lv_aload_n hx hb dX4_readOr_44 rfl (lv_at hl 1 rfl) ?_
          refine lv_bipush (v := (-14)) hx hb dX4_readOr_45 (by decide) ?_
          obtain ⟨x9, h10, hm⟩ := bind_e hm
          refine sX4_62 C h10 hw hS hl.1 (Nat.le_of_ble_eq_true rfl) (by have := hRf; omega) (by have := hRl; omega) hcs dX4_readOr_47 (fun H locs hw hS => ?_)
          obtain ⟨v11, ev, hm⟩ := lt_e hm
          refine lv_iinc (v := v11) (lv' := [(3, .int v11), (2, .int (bI v6)), (0, .ref (β + 6)), (1, .int q1)]) hx hb dX4_readOr_50 hl (k := 3) rfl (by rw [ev]; rfl) (by decide) rfl (fun ls hl => ?_)
          clear ev
          refine lv_goto (tgt := 8) hx hb dX4_readOr_53 (by decide) ?_
          exact ih _ _ _ _ _ _ _ hm hw hS (lv_sub hl [2, 3, 1, 0] rfl) ke
set_option maxHeartbeats 4000000 in
set_option maxRecDepth 100000 in
theorem kX4_readOr {l : Launch} {G : xG} {β : Nat} {D : Nat → Prop} {gn : Nat} (IH : GPGRd l G β D gn) {x x' : XS} {a1 : Int32} {r : Bool} (hm : fX4_readOr (GRd gn) x a1 = some (r, x')) : Met l yX4_readOr (.code yX4_readOr cX4_readOr 4 (some .boolean) :: GT) (rmGRd (gn + 1)) (PcW [.ref (β + 6), .int a1] (CW β D G x) (KK G)) (QcW D (some (.int (bI r))) (CW β D G x')) 0 0 D := by
  unfold fX4_readOr at hm
  refine xpro (own := RX4) (by decide +kernel) rfl (Nat.le_of_ble_eq_true rfl) ?_
  intro p e s m args below meth c C hw ls hl
  have hx := C.1
  have hb := C.2.1
  have ho := C.2.2.2.1
  have hts := C.2.2.2.2.1
  have hf : Fz D G s.heap := hw.2.2.2.2
  have hS : va_S D s.heap s.heap [] := va_S.rf
  have hl : lv_has ls 4 [(0, .ref (β + 6)), (1, .int a1)] := hl
  have hRf : (gn + 1 + 8) ≤ (rmGRd (gn + 1)).frames := Nat.le_refl _
  have hRl : ((gn + 1) * 24 + 168) ≤ (rmGRd (gn + 1)).locals := Nat.le_refl _
  have hcs : 0 ≤ (rmGRd (gn + 1)).cells ∧ 0 ≤ (rmGRd (gn + 1)).slots := ⟨Nat.le_refl _, Nat.le_refl _⟩
  refine lv_aload_n hx hb dX4_readOr_0 rfl (lv_at hl 0 rfl) ?_
  refine lv_iload_n hx hb dX4_readOr_1 rfl (lv_at hl 1 rfl) ?_
  obtain ⟨v1, x2, h3, hm⟩ := bind2_e hm
  refine sgX4_56 C (IH.2.1 _ _ _ _ h3) rfl rfl hw hS hl.1 (Nat.le_of_ble_eq_true rfl) (by have := hRf; show gn + 8 + 1 ≤ _; omega) (by have := hRl; show 23 + (gn * 24 + 168) ≤ _; omega) hcs dX4_readOr_2 (fun H locs hw hS => ?_)
  refine lv_istore_n (lv' := [(2, .int (bI v1)), (0, .ref (β + 6)), (1, .int a1)]) hx hb dX4_readOr_5 rfl hl (by decide) rfl (fun ls hl => ?_)
  refine lv_iconst (v := 0) hx hb dX4_readOr_6 (by decide) ?_
  refine lv_istore_n (lv' := [(3, .int 0), (2, .int (bI v1)), (0, .ref (β + 6)), (1, .int a1)]) hx hb dX4_readOr_7 rfl hl (by decide) rfl (fun ls hl => ?_)
  obtain ⟨v12, x13, hj, hm⟩ := bind2_e hm
  refine lX4_readOr_8 C hRf hRl hcs hf IH a1 NF _ _ _ _ _ _ _ hj hw hS (lv_sub hl [2, 3, 1, 0] rfl) (fun v12_ x13_ e0 H locs ls hw hS hl => ?_)
  cases e0
  refine lv_iload_n hx hb dX4_readOr_56 rfl (lv_at hl 0 rfl) ?_
  obtain ⟨rfl, rfl⟩ := inj2 hm
  exact xret_z C (bI_nar _) hw hS dX4_readOr_57
theorem dX4_readAnd_0 : decode cX4_readAnd 0 = .ok (.aload_n 0, 1) := by decide +kernel
theorem dX4_readAnd_1 : decode cX4_readAnd 1 = .ok (.iload_n 1, 1) := by decide +kernel
theorem dX4_readAnd_2 : decode cX4_readAnd 2 = .ok (.invokevirtual 66, 3) := by decide +kernel
theorem dX4_readAnd_5 : decode cX4_readAnd 5 = .ok (.istore_n 2, 1) := by decide +kernel
theorem dX4_readAnd_6 : decode cX4_readAnd 6 = .ok (.iconst 0, 1) := by decide +kernel
theorem dX4_readAnd_7 : decode cX4_readAnd 7 = .ok (.istore_n 3, 1) := by decide +kernel
theorem dX4_readAnd_8 : decode cX4_readAnd 8 = .ok (.iload_n 3, 1) := by decide +kernel
theorem dX4_readAnd_9 : decode cX4_readAnd 9 = .ok (.sipush 160, 3) := by decide +kernel
theorem dX4_readAnd_12 : decode cX4_readAnd 12 = .ok (.if_icmp .ge 44, 3) := by decide +kernel
theorem dX4_readAnd_15 : decode cX4_readAnd 15 = .ok (.iload_n 2, 1) := by decide +kernel
theorem dX4_readAnd_16 : decode cX4_readAnd 16 = .ok (.ifCond .eq 40, 3) := by decide +kernel
theorem dX4_readAnd_19 : decode cX4_readAnd 19 = .ok (.aload_n 0, 1) := by decide +kernel
theorem dX4_readAnd_20 : decode cX4_readAnd 20 = .ok (.getfield 22, 3) := by decide +kernel
theorem dX4_readAnd_23 : decode cX4_readAnd 23 = .ok (.getfield 35, 3) := by decide +kernel
theorem dX4_readAnd_26 : decode cX4_readAnd 26 = .ok (.bipush (-15), 2) := by decide +kernel
theorem dX4_readAnd_28 : decode cX4_readAnd 28 = .ok (.if_icmp .ne 28, 3) := by decide +kernel
theorem dX4_readAnd_31 : decode cX4_readAnd 31 = .ok (.aload_n 0, 1) := by decide +kernel
theorem dX4_readAnd_32 : decode cX4_readAnd 32 = .ok (.getfield 22, 3) := by decide +kernel
theorem dX4_readAnd_35 : decode cX4_readAnd 35 = .ok (.invokevirtual 59, 3) := by decide +kernel
theorem dX4_readAnd_38 : decode cX4_readAnd 38 = .ok (.aload_n 0, 1) := by decide +kernel
theorem dX4_readAnd_39 : decode cX4_readAnd 39 = .ok (.iload_n 1, 1) := by decide +kernel
theorem dX4_readAnd_40 : decode cX4_readAnd 40 = .ok (.invokevirtual 66, 3) := by decide +kernel
theorem dX4_readAnd_43 : decode cX4_readAnd 43 = .ok (.istore_n 2, 1) := by decide +kernel
theorem dX4_readAnd_44 : decode cX4_readAnd 44 = .ok (.aload_n 0, 1) := by decide +kernel
theorem dX4_readAnd_45 : decode cX4_readAnd 45 = .ok (.bipush (-15), 2) := by decide +kernel
theorem dX4_readAnd_47 : decode cX4_readAnd 47 = .ok (.invokevirtual 62, 3) := by decide +kernel
theorem dX4_readAnd_50 : decode cX4_readAnd 50 = .ok (.iinc 3 1, 3) := by decide +kernel
theorem dX4_readAnd_53 : decode cX4_readAnd 53 = .ok (.goto (-45), 3) := by decide +kernel
theorem dX4_readAnd_56 : decode cX4_readAnd 56 = .ok (.iload_n 2, 1) := by decide +kernel
theorem dX4_readAnd_57 : decode cX4_readAnd 57 = .ok (.ireturn, 1) := by decide +kernel
theorem sgX4_66 {p : Program} {l : Launch} {e : Env} {R : Room} {s : State} {m : MethodId} {args : Array Value} {below : List Frame} {meth : Method} {c : Code} {H : Heap} {locs : List Loc} {cells slots : Nat} {Q : State → Prop} {cc : ByteArray} {pc nL : Nat} {ls : Array Slot} {rest : List Value} {ret : Option FieldType} {G : xG} {β : Nat} {D : Nat → Prop} {x x' : XS} {a1 : Int32} {r : Bool} {rm : Room} (C : Cx p s m args meth c RX4 cc nL ret (KK G)) (hM : Met l yX4_readNot (.code yX4_readNot cX4_readNot 3 (some .boolean) :: GT) rm (PcW [.ref (β + 6), .int a1] (CW β D G x) (KK G)) (QcW D (some (.int (bI r))) (CW β D G x')) 0 0 D) (hrc : rm.cells = 0) (hrs : rm.slots = 0) (hw : CW β D G x H) (hS : va_S D s.heap H locs) (hsz : ls.size = nL) (hW : (rest.map fun v => v.category).sum ≤ 8) (hR : rm.frames + 1 ≤ R.frames) (hR2 : 22 + rm.locals ≤ R.locals) (hcs : cells ≤ R.cells ∧ slots ≤ R.slots) (hd : decode cc pc = .ok (.invokevirtual 66, 3)) (kk : ∀ (H1 : Heap) (locs1 : List Loc), CW β D G x' H1 → va_S D s.heap H1 locs1 → W p l e R s m args below meth c H1 locs1 cells slots Q (F0 m (pc + 3) ls (.int (bI r) :: rest))) : W p l e R s m args below meth c H locs cells slots Q (F0 m pc ls (.int a1 :: .ref (β + 6) :: rest)) :=
  xcallV C (As := [.int a1]) (rest := rest) (nA := 1) (ci := 4) hM (tg 279 (by decide +kernel) rfl) (tg 281 (by decide +kernel) rfl) (sg (List.mem_of_getElem? (i := 7) (by decide +kernel)) rfl) (tg 3 (by decide +kernel) rfl) (tg 282 (by decide +kernel) rfl) ⟨rfl, by decide +kernel, by decide +kernel, by decide +kernel⟩ rfl hrc hrs ⟨hR, hR2⟩ (hw.2.2.1 6 (by decide)) hw hS (fun _ q => q) rfl rfl hsz hW hd hcs (fun H1 locs1 hw hz hk hS => kk H1 locs1 hw hS)
set_option maxHeartbeats 4000000 in
set_option maxRecDepth 100000 in
theorem lX4_readAnd_8 {p : Program} {l : Launch} {e : Env} {R : Room} {s : State} {m : MethodId} {args : Array Value} {below : List Frame} {meth : Method} {c : Code} {cells slots : Nat} {Q : State → Prop} {G : xG} {β : Nat} {D : Nat → Prop} {gn : Nat} (C : Cx p s m args meth c RX4 cX4_readAnd 4 (some .boolean) (KK G)) (hRf : (gn + 1 + 8) ≤ R.frames) (hRl : ((gn + 1) * 24 + 168) ≤ R.locals) (hcs : cells ≤ R.cells ∧ slots ≤ R.slots) (hf : Fz D G s.heap) (IH : GPGRd l G β D gn) (q1 : Int32) : ∀ (n : Nat) (u2 : Bool) (u3 : Int32) (x : XS) (J : Bool × XS) (H : Heap) (locs : List Loc) (ls : Array Slot), LX4_readAnd_8 (GRd gn) q1 n u2 u3 x = some J → CW β D G x H → va_S D s.heap H locs → lv_has ls 4 [(0, .ref (β + 6)), (1, .int q1), (2, .int (bI u2)), (3, .int u3)] → (∀ (w2 : Bool) (x1 : XS), J = (w2, x1) → ∀ (H : Heap) (locs : List Loc) (ls : Array Slot), CW β D G x1 H → va_S D s.heap H locs → lv_has ls 4 [(2, .int (bI w2))] → W p l e R s m args below meth c H locs cells slots Q (F0 m 56 ls [])) → W p l e R s m args below meth c H locs cells slots Q (F0 m 8 ls []) := by
  have hx := C.1
  have hb := C.2.1
  have ho := C.2.2.2.1
  have hts := C.2.2.2.2.1
  intro n
  induction n with
  | zero =>
    intro u2 u3 x J H locs ls hm
    exact absurd hm (by simp [LX4_readAnd_8])
  | succ n ih =>
    intro u2 u3 x J H locs ls hm hw hS hl ke
    replace hm : BX4_readAnd_8 (GRd gn) q1 (LX4_readAnd_8 (GRd gn) q1 n) u2 u3 x = some J := hm
    unfold BX4_readAnd_8 at hm
    refine lv_iload_n hx hb dX4_readAnd_8 rfl (lv_at hl 3 rfl) ?_
    refine lv_sipush (v := 160) hx hb dX4_readAnd_9 (by decide) ?_
    refine lv_icmp_ge (tgt := 56) hx hb dX4_readAnd_12 (by decide) (fun cc => ?_) (fun cc => ?_)
    · replace hm := ite_p cc hm
      exact ke _ _ (Option.some.inj hm).symm _ _ _ hw hS (lv_sub hl [2] rfl)
    · replace hm := ite_n cc hm
      refine lv_iload_n hx hb dX4_readAnd_15 rfl (lv_at hl 2 rfl) ?_
      refine x_ifeqB hx hb dX4_readAnd_16 (tgt := 56) (by decide) (fun cc => ?_) (fun cc => ?_)
      · replace hm := ite_n cc hm
        exact ke _ _ (Option.some.inj hm).symm _ _ _ hw hS (lv_sub hl [2] rfl)
      · replace hm := ite_p cc hm
        refine lv_aload_n hx hb dX4_readAnd_19 rfl (lv_at hl 0 rfl) ?_
        refine gX4_22 C hw dX4_readAnd_20 ?_
        refine gX4_35 C hw dX4_readAnd_23 ?_
        refine lv_bipush (v := (-15)) hx hb dX4_readAnd_26 (by decide) ?_
        refine lv_icmp_ne (tgt := 56) hx hb dX4_readAnd_28 (by decide) (fun cc => ?_) (fun cc => ?_)
        · replace hm := ite_n cc hm
          exact ke _ _ (Option.some.inj hm).symm _ _ _ hw hS (lv_sub hl [2] rfl)
        · replace hm := ite_p cc hm
          refine lv_aload_n hx hb dX4_readAnd_31 rfl (lv_at hl 0 rfl) ?_
          refine gX4_22 C hw dX4_readAnd_32 ?_
          obtain ⟨x4, h5, hm⟩ := bind_e hm
          refine sX4_59 C h5 hw hS hl.1 (Nat.le_of_ble_eq_true rfl) (by have := hRf; omega) (by have := hRl; omega) hcs dX4_readAnd_35 (fun H locs hw hS => ?_)
          refine lv_aload_n hx hb dX4_readAnd_38 rfl (lv_at hl 0 rfl) ?_
          refine lv_iload_n hx hb dX4_readAnd_39 rfl (lv_at hl 1 rfl) ?_
          obtain ⟨v6, x7, h8, hm⟩ := bind2_e hm
          refine sgX4_66 C (IH.2.2.1 _ _ _ _ h8) rfl rfl hw hS hl.1 (Nat.le_of_ble_eq_true rfl) (by have := hRf; show gn + 8 + 1 ≤ _; omega) (by have := hRl; show 22 + (gn * 24 + 168) ≤ _; omega) hcs dX4_readAnd_40 (fun H locs hw hS => ?_)
          refine lv_istore_n (lv' := [(2, .int (bI v6)), (0, .ref (β + 6)), (1, .int q1), (3, .int u3)]) hx hb dX4_readAnd_43 rfl hl (by decide) rfl (fun ls hl => ?_)
          refine lv_aload_n hx hb dX4_readAnd_44 rfl (lv_at hl 1 rfl) ?_
          refine lv_bipush (v := (-15)) hx hb dX4_readAnd_45 (by decide) ?_
          obtain ⟨x9, h10, hm⟩ := bind_e hm
          refine sX4_62 C h10 hw hS hl.1 (Nat.le_of_ble_eq_true rfl) (by have := hRf; omega) (by have := hRl; omega) hcs dX4_readAnd_47 (fun H locs hw hS => ?_)
          obtain ⟨v11, ev, hm⟩ := lt_e hm
          refine lv_iinc (v := v11) (lv' := [(3, .int v11), (2, .int (bI v6)), (0, .ref (β + 6)), (1, .int q1)]) hx hb dX4_readAnd_50 hl (k := 3) rfl (by rw [ev]; rfl) (by decide) rfl (fun ls hl => ?_)
          clear ev
          refine lv_goto (tgt := 8) hx hb dX4_readAnd_53 (by decide) ?_
          exact ih _ _ _ _ _ _ _ hm hw hS (lv_sub hl [2, 3, 1, 0] rfl) ke
set_option maxHeartbeats 4000000 in
set_option maxRecDepth 100000 in
theorem kX4_readAnd {l : Launch} {G : xG} {β : Nat} {D : Nat → Prop} {gn : Nat} (IH : GPGRd l G β D gn) {x x' : XS} {a1 : Int32} {r : Bool} (hm : fX4_readAnd (GRd gn) x a1 = some (r, x')) : Met l yX4_readAnd (.code yX4_readAnd cX4_readAnd 4 (some .boolean) :: GT) (rmGRd (gn + 1)) (PcW [.ref (β + 6), .int a1] (CW β D G x) (KK G)) (QcW D (some (.int (bI r))) (CW β D G x')) 0 0 D := by
  unfold fX4_readAnd at hm
  refine xpro (own := RX4) (by decide +kernel) rfl (Nat.le_of_ble_eq_true rfl) ?_
  intro p e s m args below meth c C hw ls hl
  have hx := C.1
  have hb := C.2.1
  have ho := C.2.2.2.1
  have hts := C.2.2.2.2.1
  have hf : Fz D G s.heap := hw.2.2.2.2
  have hS : va_S D s.heap s.heap [] := va_S.rf
  have hl : lv_has ls 4 [(0, .ref (β + 6)), (1, .int a1)] := hl
  have hRf : (gn + 1 + 8) ≤ (rmGRd (gn + 1)).frames := Nat.le_refl _
  have hRl : ((gn + 1) * 24 + 168) ≤ (rmGRd (gn + 1)).locals := Nat.le_refl _
  have hcs : 0 ≤ (rmGRd (gn + 1)).cells ∧ 0 ≤ (rmGRd (gn + 1)).slots := ⟨Nat.le_refl _, Nat.le_refl _⟩
  refine lv_aload_n hx hb dX4_readAnd_0 rfl (lv_at hl 0 rfl) ?_
  refine lv_iload_n hx hb dX4_readAnd_1 rfl (lv_at hl 1 rfl) ?_
  obtain ⟨v1, x2, h3, hm⟩ := bind2_e hm
  refine sgX4_66 C (IH.2.2.1 _ _ _ _ h3) rfl rfl hw hS hl.1 (Nat.le_of_ble_eq_true rfl) (by have := hRf; show gn + 8 + 1 ≤ _; omega) (by have := hRl; show 22 + (gn * 24 + 168) ≤ _; omega) hcs dX4_readAnd_2 (fun H locs hw hS => ?_)
  refine lv_istore_n (lv' := [(2, .int (bI v1)), (0, .ref (β + 6)), (1, .int a1)]) hx hb dX4_readAnd_5 rfl hl (by decide) rfl (fun ls hl => ?_)
  refine lv_iconst (v := 0) hx hb dX4_readAnd_6 (by decide) ?_
  refine lv_istore_n (lv' := [(3, .int 0), (2, .int (bI v1)), (0, .ref (β + 6)), (1, .int a1)]) hx hb dX4_readAnd_7 rfl hl (by decide) rfl (fun ls hl => ?_)
  obtain ⟨v12, x13, hj, hm⟩ := bind2_e hm
  refine lX4_readAnd_8 C hRf hRl hcs hf IH a1 NF _ _ _ _ _ _ _ hj hw hS (lv_sub hl [2, 3, 1, 0] rfl) (fun v12_ x13_ e0 H locs ls hw hS hl => ?_)
  cases e0
  refine lv_iload_n hx hb dX4_readAnd_56 rfl (lv_at hl 0 rfl) ?_
  obtain ⟨rfl, rfl⟩ := inj2 hm
  exact xret_z C (bI_nar _) hw hS dX4_readAnd_57
theorem dX4_readNot_0 : decode cX4_readNot 0 = .ok (.aload_n 0, 1) := by decide +kernel
theorem dX4_readNot_1 : decode cX4_readNot 1 = .ok (.getfield 22, 3) := by decide +kernel
theorem dX4_readNot_4 : decode cX4_readNot 4 = .ok (.getfield 35, 3) := by decide +kernel
theorem dX4_readNot_7 : decode cX4_readNot 7 = .ok (.bipush (-16), 2) := by decide +kernel
theorem dX4_readNot_9 : decode cX4_readNot 9 = .ok (.if_icmp .eq 9, 3) := by decide +kernel
theorem dX4_readNot_12 : decode cX4_readNot 12 = .ok (.aload_n 0, 1) := by decide +kernel
theorem dX4_readNot_13 : decode cX4_readNot 13 = .ok (.iload_n 1, 1) := by decide +kernel
theorem dX4_readNot_14 : decode cX4_readNot 14 = .ok (.invokevirtual 69, 3) := by decide +kernel
theorem dX4_readNot_17 : decode cX4_readNot 17 = .ok (.ireturn, 1) := by decide +kernel
theorem dX4_readNot_18 : decode cX4_readNot 18 = .ok (.iload_n 1, 1) := by decide +kernel
theorem dX4_readNot_19 : decode cX4_readNot 19 = .ok (.iconst 5, 1) := by decide +kernel
theorem dX4_readNot_20 : decode cX4_readNot 20 = .ok (.if_icmp .lt 5, 3) := by decide +kernel
theorem dX4_readNot_23 : decode cX4_readNot 23 = .ok (.iconst 0, 1) := by decide +kernel
theorem dX4_readNot_24 : decode cX4_readNot 24 = .ok (.ireturn, 1) := by decide +kernel
theorem dX4_readNot_25 : decode cX4_readNot 25 = .ok (.aload_n 0, 1) := by decide +kernel
theorem dX4_readNot_26 : decode cX4_readNot 26 = .ok (.getfield 22, 3) := by decide +kernel
theorem dX4_readNot_29 : decode cX4_readNot 29 = .ok (.invokevirtual 59, 3) := by decide +kernel
theorem dX4_readNot_32 : decode cX4_readNot 32 = .ok (.aload_n 0, 1) := by decide +kernel
theorem dX4_readNot_33 : decode cX4_readNot 33 = .ok (.iload_n 1, 1) := by decide +kernel
theorem dX4_readNot_34 : decode cX4_readNot 34 = .ok (.iconst 1, 1) := by decide +kernel
theorem dX4_readNot_35 : decode cX4_readNot 35 = .ok (.iadd, 1) := by decide +kernel
theorem dX4_readNot_36 : decode cX4_readNot 36 = .ok (.invokevirtual 66, 3) := by decide +kernel
theorem dX4_readNot_39 : decode cX4_readNot 39 = .ok (.istore_n 2, 1) := by decide +kernel
theorem dX4_readNot_40 : decode cX4_readNot 40 = .ok (.aload_n 0, 1) := by decide +kernel
theorem dX4_readNot_41 : decode cX4_readNot 41 = .ok (.bipush (-16), 2) := by decide +kernel
theorem dX4_readNot_43 : decode cX4_readNot 43 = .ok (.invokevirtual 62, 3) := by decide +kernel
theorem dX4_readNot_46 : decode cX4_readNot 46 = .ok (.iload_n 2, 1) := by decide +kernel
theorem dX4_readNot_47 : decode cX4_readNot 47 = .ok (.ireturn, 1) := by decide +kernel
theorem sgX4_69 {p : Program} {l : Launch} {e : Env} {R : Room} {s : State} {m : MethodId} {args : Array Value} {below : List Frame} {meth : Method} {c : Code} {H : Heap} {locs : List Loc} {cells slots : Nat} {Q : State → Prop} {cc : ByteArray} {pc nL : Nat} {ls : Array Slot} {rest : List Value} {ret : Option FieldType} {G : xG} {β : Nat} {D : Nat → Prop} {x x' : XS} {a1 : Int32} {r : Bool} {rm : Room} (C : Cx p s m args meth c RX4 cc nL ret (KK G)) (hM : Met l yX4_readCompared (.code yX4_readCompared cX4_readCompared 4 (some .boolean) :: GT) rm (PcW [.ref (β + 6), .int a1] (CW β D G x) (KK G)) (QcW D (some (.int (bI r))) (CW β D G x')) 0 0 D) (hrc : rm.cells = 0) (hrs : rm.slots = 0) (hw : CW β D G x H) (hS : va_S D s.heap H locs) (hsz : ls.size = nL) (hW : (rest.map fun v => v.category).sum ≤ 8) (hR : rm.frames + 1 ≤ R.frames) (hR2 : 23 + rm.locals ≤ R.locals) (hcs : cells ≤ R.cells ∧ slots ≤ R.slots) (hd : decode cc pc = .ok (.invokevirtual 69, 3)) (kk : ∀ (H1 : Heap) (locs1 : List Loc), CW β D G x' H1 → va_S D s.heap H1 locs1 → W p l e R s m args below meth c H1 locs1 cells slots Q (F0 m (pc + 3) ls (.int (bI r) :: rest))) : W p l e R s m args below meth c H locs cells slots Q (F0 m pc ls (.int a1 :: .ref (β + 6) :: rest)) :=
  xcallV C (As := [.int a1]) (rest := rest) (nA := 1) (ci := 4) hM (tg 283 (by decide +kernel) rfl) (tg 285 (by decide +kernel) rfl) (sg (List.mem_of_getElem? (i := 8) (by decide +kernel)) rfl) (tg 3 (by decide +kernel) rfl) (tg 286 (by decide +kernel) rfl) ⟨rfl, by decide +kernel, by decide +kernel, by decide +kernel⟩ rfl hrc hrs ⟨hR, hR2⟩ (hw.2.2.1 6 (by decide)) hw hS (fun _ q => q) rfl rfl hsz hW hd hcs (fun H1 locs1 hw hz hk hS => kk H1 locs1 hw hS)
set_option maxHeartbeats 4000000 in
set_option maxRecDepth 100000 in
theorem kX4_readNot {l : Launch} {G : xG} {β : Nat} {D : Nat → Prop} {gn : Nat} (IH : GPGRd l G β D gn) {x x' : XS} {a1 : Int32} {r : Bool} (hm : fX4_readNot (GRd gn) x a1 = some (r, x')) : Met l yX4_readNot (.code yX4_readNot cX4_readNot 3 (some .boolean) :: GT) (rmGRd (gn + 1)) (PcW [.ref (β + 6), .int a1] (CW β D G x) (KK G)) (QcW D (some (.int (bI r))) (CW β D G x')) 0 0 D := by
  unfold fX4_readNot at hm
  refine xpro (own := RX4) (by decide +kernel) rfl (Nat.le_of_ble_eq_true rfl) ?_
  intro p e s m args below meth c C hw ls hl
  have hx := C.1
  have hb := C.2.1
  have ho := C.2.2.2.1
  have hts := C.2.2.2.2.1
  have hf : Fz D G s.heap := hw.2.2.2.2
  have hS : va_S D s.heap s.heap [] := va_S.rf
  have hl : lv_has ls 3 [(0, .ref (β + 6)), (1, .int a1)] := hl
  have hRf : (gn + 1 + 8) ≤ (rmGRd (gn + 1)).frames := Nat.le_refl _
  have hRl : ((gn + 1) * 24 + 168) ≤ (rmGRd (gn + 1)).locals := Nat.le_refl _
  have hcs : 0 ≤ (rmGRd (gn + 1)).cells ∧ 0 ≤ (rmGRd (gn + 1)).slots := ⟨Nat.le_refl _, Nat.le_refl _⟩
  refine lv_aload_n hx hb dX4_readNot_0 rfl (lv_at hl 0 rfl) ?_
  refine gX4_22 C hw dX4_readNot_1 ?_
  refine gX4_35 C hw dX4_readNot_4 ?_
  refine lv_bipush (v := (-16)) hx hb dX4_readNot_7 (by decide) ?_
  refine lv_icmp_eq (tgt := 18) hx hb dX4_readNot_9 (by decide) (fun cc => ?_) (fun cc => ?_)
  · replace hm := ite_p cc hm
    refine lv_iload_n hx hb dX4_readNot_18 rfl (lv_at hl 1 rfl) ?_
    refine lv_iconst (v := 5) hx hb dX4_readNot_19 (by decide) ?_
    refine lv_icmp_lt (tgt := 25) hx hb dX4_readNot_20 (by decide) (fun cc => ?_) (fun cc => ?_)
    · replace hm := ite_p cc hm
      refine lv_aload_n hx hb dX4_readNot_25 rfl (lv_at hl 0 rfl) ?_
      refine gX4_22 C hw dX4_readNot_26 ?_
      obtain ⟨x1, h2, hm⟩ := bind_e hm
      refine sX4_59 C h2 hw hS hl.1 (Nat.le_of_ble_eq_true rfl) (by have := hRf; omega) (by have := hRl; omega) hcs dX4_readNot_29 (fun H locs hw hS => ?_)
      refine lv_aload_n hx hb dX4_readNot_32 rfl (lv_at hl 0 rfl) ?_
      refine lv_iload_n hx hb dX4_readNot_33 rfl (lv_at hl 1 rfl) ?_
      refine lv_iconst (v := 1) hx hb dX4_readNot_34 (by decide) ?_
      refine lv_iadd hx hb dX4_readNot_35 ?_
      obtain ⟨v3, x4, h5, hm⟩ := bind2_e hm
      refine sgX4_66 C (IH.2.2.1 _ _ _ _ h5) rfl rfl hw hS hl.1 (Nat.le_of_ble_eq_true rfl) (by have := hRf; show gn + 8 + 1 ≤ _; omega) (by have := hRl; show 22 + (gn * 24 + 168) ≤ _; omega) hcs dX4_readNot_36 (fun H locs hw hS => ?_)
      refine lv_istore_n (lv' := [(2, .int (bI v3)), (0, .ref (β + 6)), (1, .int a1)]) hx hb dX4_readNot_39 rfl hl (by decide) rfl (fun ls hl => ?_)
      refine lv_aload_n hx hb dX4_readNot_40 rfl (lv_at hl 1 rfl) ?_
      refine lv_bipush (v := (-16)) hx hb dX4_readNot_41 (by decide) ?_
      obtain ⟨x6, h7, hm⟩ := bind_e hm
      refine sX4_62 C h7 hw hS hl.1 (Nat.le_of_ble_eq_true rfl) (by have := hRf; omega) (by have := hRl; omega) hcs dX4_readNot_43 (fun H locs hw hS => ?_)
      refine lv_iload_n hx hb dX4_readNot_46 rfl (lv_at hl 0 rfl) ?_
      obtain ⟨rfl, rfl⟩ := inj2 hm
      exact xret_z C (bI_nar _) hw hS dX4_readNot_47
    · replace hm := ite_n cc hm
      refine lv_iconst (v := 0) hx hb dX4_readNot_23 (by decide) ?_
      obtain ⟨rfl, rfl⟩ := inj2 hm
      exact xret_z (v := bI false) C (bI_nar _) hw hS dX4_readNot_24
  · replace hm := ite_n cc hm
    refine lv_aload_n hx hb dX4_readNot_12 rfl (lv_at hl 0 rfl) ?_
    refine lv_iload_n hx hb dX4_readNot_13 rfl (lv_at hl 1 rfl) ?_
    obtain ⟨v8, x9, h10, hm⟩ := bind2_e hm
    refine sgX4_69 C (IH.2.2.2.1 _ _ _ _ h10) rfl rfl hw hS hl.1 (Nat.le_of_ble_eq_true rfl) (by have := hRf; show gn + 8 + 1 ≤ _; omega) (by have := hRl; show 23 + (gn * 24 + 168) ≤ _; omega) hcs dX4_readNot_14 (fun H locs hw hS => ?_)
    obtain ⟨rfl, rfl⟩ := inj2 hm
    exact xret_z C (bI_nar _) hw hS dX4_readNot_17
theorem dX4_readCompared_0 : decode cX4_readCompared 0 = .ok (.aload_n 0, 1) := by decide +kernel
theorem dX4_readCompared_1 : decode cX4_readCompared 1 = .ok (.iload_n 1, 1) := by decide +kernel
theorem dX4_readCompared_2 : decode cX4_readCompared 2 = .ok (.invokevirtual 72, 3) := by decide +kernel
theorem dX4_readCompared_5 : decode cX4_readCompared 5 = .ok (.ifCond .ne 5, 3) := by decide +kernel
theorem dX4_readCompared_8 : decode cX4_readCompared 8 = .ok (.iconst 0, 1) := by decide +kernel
theorem dX4_readCompared_9 : decode cX4_readCompared 9 = .ok (.ireturn, 1) := by decide +kernel
theorem dX4_readCompared_10 : decode cX4_readCompared 10 = .ok (.aload_n 0, 1) := by decide +kernel
theorem dX4_readCompared_11 : decode cX4_readCompared 11 = .ok (.getfield 22, 3) := by decide +kernel
theorem dX4_readCompared_14 : decode cX4_readCompared 14 = .ok (.getfield 35, 3) := by decide +kernel
theorem dX4_readCompared_17 : decode cX4_readCompared 17 = .ok (.istore_n 2, 1) := by decide +kernel
theorem dX4_readCompared_18 : decode cX4_readCompared 18 = .ok (.iload_n 2, 1) := by decide +kernel
theorem dX4_readCompared_19 : decode cX4_readCompared 19 = .ok (.bipush (-24), 2) := by decide +kernel
theorem dX4_readCompared_21 : decode cX4_readCompared 21 = .ok (.if_icmp .eq 11, 3) := by decide +kernel
theorem dX4_readCompared_24 : decode cX4_readCompared 24 = .ok (.iload_n 2, 1) := by decide +kernel
theorem dX4_readCompared_25 : decode cX4_readCompared 25 = .ok (.bipush (-25), 2) := by decide +kernel
theorem dX4_readCompared_27 : decode cX4_readCompared 27 = .ok (.if_icmp .eq 5, 3) := by decide +kernel
theorem dX4_readCompared_30 : decode cX4_readCompared 30 = .ok (.iconst 1, 1) := by decide +kernel
theorem dX4_readCompared_31 : decode cX4_readCompared 31 = .ok (.ireturn, 1) := by decide +kernel
theorem dX4_readCompared_32 : decode cX4_readCompared 32 = .ok (.aload_n 0, 1) := by decide +kernel
theorem dX4_readCompared_33 : decode cX4_readCompared 33 = .ok (.getfield 22, 3) := by decide +kernel
theorem dX4_readCompared_36 : decode cX4_readCompared 36 = .ok (.invokevirtual 59, 3) := by decide +kernel
theorem dX4_readCompared_39 : decode cX4_readCompared 39 = .ok (.aload_n 0, 1) := by decide +kernel
theorem dX4_readCompared_40 : decode cX4_readCompared 40 = .ok (.iload_n 1, 1) := by decide +kernel
theorem dX4_readCompared_41 : decode cX4_readCompared 41 = .ok (.invokevirtual 72, 3) := by decide +kernel
theorem dX4_readCompared_44 : decode cX4_readCompared 44 = .ok (.istore_n 3, 1) := by decide +kernel
theorem dX4_readCompared_45 : decode cX4_readCompared 45 = .ok (.aload_n 0, 1) := by decide +kernel
theorem dX4_readCompared_46 : decode cX4_readCompared 46 = .ok (.iload_n 2, 1) := by decide +kernel
theorem dX4_readCompared_47 : decode cX4_readCompared 47 = .ok (.invokevirtual 62, 3) := by decide +kernel
theorem dX4_readCompared_50 : decode cX4_readCompared 50 = .ok (.iload_n 3, 1) := by decide +kernel
theorem dX4_readCompared_51 : decode cX4_readCompared 51 = .ok (.ireturn, 1) := by decide +kernel
theorem sgX4_72 {p : Program} {l : Launch} {e : Env} {R : Room} {s : State} {m : MethodId} {args : Array Value} {below : List Frame} {meth : Method} {c : Code} {H : Heap} {locs : List Loc} {cells slots : Nat} {Q : State → Prop} {cc : ByteArray} {pc nL : Nat} {ls : Array Slot} {rest : List Value} {ret : Option FieldType} {G : xG} {β : Nat} {D : Nat → Prop} {x x' : XS} {a1 : Int32} {r : Bool} {rm : Room} (C : Cx p s m args meth c RX4 cc nL ret (KK G)) (hM : Met l yX4_readSum (.code yX4_readSum cX4_readSum 5 (some .boolean) :: GT) rm (PcW [.ref (β + 6), .int a1] (CW β D G x) (KK G)) (QcW D (some (.int (bI r))) (CW β D G x')) 0 0 D) (hrc : rm.cells = 0) (hrs : rm.slots = 0) (hw : CW β D G x H) (hS : va_S D s.heap H locs) (hsz : ls.size = nL) (hW : (rest.map fun v => v.category).sum ≤ 8) (hR : rm.frames + 1 ≤ R.frames) (hR2 : 24 + rm.locals ≤ R.locals) (hcs : cells ≤ R.cells ∧ slots ≤ R.slots) (hd : decode cc pc = .ok (.invokevirtual 72, 3)) (kk : ∀ (H1 : Heap) (locs1 : List Loc), CW β D G x' H1 → va_S D s.heap H1 locs1 → W p l e R s m args below meth c H1 locs1 cells slots Q (F0 m (pc + 3) ls (.int (bI r) :: rest))) : W p l e R s m args below meth c H locs cells slots Q (F0 m pc ls (.int a1 :: .ref (β + 6) :: rest)) :=
  xcallV C (As := [.int a1]) (rest := rest) (nA := 1) (ci := 4) hM (tg 287 (by decide +kernel) rfl) (tg 289 (by decide +kernel) rfl) (sg (List.mem_of_getElem? (i := 9) (by decide +kernel)) rfl) (tg 3 (by decide +kernel) rfl) (tg 290 (by decide +kernel) rfl) ⟨rfl, by decide +kernel, by decide +kernel, by decide +kernel⟩ rfl hrc hrs ⟨hR, hR2⟩ (hw.2.2.1 6 (by decide)) hw hS (fun _ q => q) rfl rfl hsz hW hd hcs (fun H1 locs1 hw hz hk hS => kk H1 locs1 hw hS)
set_option maxHeartbeats 4000000 in
set_option maxRecDepth 100000 in
theorem kX4_readCompared {l : Launch} {G : xG} {β : Nat} {D : Nat → Prop} {gn : Nat} (IH : GPGRd l G β D gn) {x x' : XS} {a1 : Int32} {r : Bool} (hm : fX4_readCompared (GRd gn) x a1 = some (r, x')) : Met l yX4_readCompared (.code yX4_readCompared cX4_readCompared 4 (some .boolean) :: GT) (rmGRd (gn + 1)) (PcW [.ref (β + 6), .int a1] (CW β D G x) (KK G)) (QcW D (some (.int (bI r))) (CW β D G x')) 0 0 D := by
  unfold fX4_readCompared at hm
  refine xpro (own := RX4) (by decide +kernel) rfl (Nat.le_of_ble_eq_true rfl) ?_
  intro p e s m args below meth c C hw ls hl
  have hx := C.1
  have hb := C.2.1
  have ho := C.2.2.2.1
  have hts := C.2.2.2.2.1
  have hf : Fz D G s.heap := hw.2.2.2.2
  have hS : va_S D s.heap s.heap [] := va_S.rf
  have hl : lv_has ls 4 [(0, .ref (β + 6)), (1, .int a1)] := hl
  have hRf : (gn + 1 + 8) ≤ (rmGRd (gn + 1)).frames := Nat.le_refl _
  have hRl : ((gn + 1) * 24 + 168) ≤ (rmGRd (gn + 1)).locals := Nat.le_refl _
  have hcs : 0 ≤ (rmGRd (gn + 1)).cells ∧ 0 ≤ (rmGRd (gn + 1)).slots := ⟨Nat.le_refl _, Nat.le_refl _⟩
  refine lv_aload_n hx hb dX4_readCompared_0 rfl (lv_at hl 0 rfl) ?_
  refine lv_iload_n hx hb dX4_readCompared_1 rfl (lv_at hl 1 rfl) ?_
  obtain ⟨v1, x2, h3, hm⟩ := bind2_e hm
  refine sgX4_72 C (IH.2.2.2.2.1 _ _ _ _ h3) rfl rfl hw hS hl.1 (Nat.le_of_ble_eq_true rfl) (by have := hRf; show gn + 8 + 1 ≤ _; omega) (by have := hRl; show 24 + (gn * 24 + 168) ≤ _; omega) hcs dX4_readCompared_2 (fun H locs hw hS => ?_)
  refine x_ifneB hx hb dX4_readCompared_5 (tgt := 10) (by decide) (fun cc => ?_) (fun cc => ?_)
  · replace hm := ite_p cc hm
    refine lv_aload_n hx hb dX4_readCompared_10 rfl (lv_at hl 0 rfl) ?_
    refine gX4_22 C hw dX4_readCompared_11 ?_
    refine gX4_35 C hw dX4_readCompared_14 ?_
    refine topI hm (fun v4 hm => ?_)
    refine lv_istore_n (lv' := [(2, .int v4), (0, .ref (β + 6)), (1, .int a1)]) hx hb dX4_readCompared_17 rfl hl (by decide) rfl (fun ls hl => ?_)
    refine lv_iload_n hx hb dX4_readCompared_18 rfl (lv_at hl 0 rfl) ?_
    refine lv_bipush (v := (-24)) hx hb dX4_readCompared_19 (by decide) ?_
    refine lv_icmp_eq (tgt := 32) hx hb dX4_readCompared_21 (by decide) (fun cc => ?_) (fun cc => ?_)
    · replace hm := ite_p cc hm
      refine lv_aload_n hx hb dX4_readCompared_32 rfl (lv_at hl 1 rfl) ?_
      refine gX4_22 C hw dX4_readCompared_33 ?_
      obtain ⟨x5, h6, hm⟩ := bind_e hm
      refine sX4_59 C h6 hw hS hl.1 (Nat.le_of_ble_eq_true rfl) (by have := hRf; omega) (by have := hRl; omega) hcs dX4_readCompared_36 (fun H locs hw hS => ?_)
      refine lv_aload_n hx hb dX4_readCompared_39 rfl (lv_at hl 1 rfl) ?_
      refine lv_iload_n hx hb dX4_readCompared_40 rfl (lv_at hl 2 rfl) ?_
      obtain ⟨v7, x8, h9, hm⟩ := bind2_e hm
      refine sgX4_72 C (IH.2.2.2.2.1 _ _ _ _ h9) rfl rfl hw hS hl.1 (Nat.le_of_ble_eq_true rfl) (by have := hRf; show gn + 8 + 1 ≤ _; omega) (by have := hRl; show 24 + (gn * 24 + 168) ≤ _; omega) hcs dX4_readCompared_41 (fun H locs hw hS => ?_)
      refine lv_istore_n (lv' := [(3, .int (bI v7)), (2, .int v4), (0, .ref (β + 6)), (1, .int a1)]) hx hb dX4_readCompared_44 rfl hl (by decide) rfl (fun ls hl => ?_)
      refine lv_aload_n hx hb dX4_readCompared_45 rfl (lv_at hl 2 rfl) ?_
      refine lv_iload_n hx hb dX4_readCompared_46 rfl (lv_at hl 1 rfl) ?_
      obtain ⟨x10, h11, hm⟩ := bind_e hm
      refine sX4_62 C h11 hw hS hl.1 (Nat.le_of_ble_eq_true rfl) (by have := hRf; omega) (by have := hRl; omega) hcs dX4_readCompared_47 (fun H locs hw hS => ?_)
      refine lv_iload_n hx hb dX4_readCompared_50 rfl (lv_at hl 0 rfl) ?_
      obtain ⟨rfl, rfl⟩ := inj2 hm
      exact xret_z C (bI_nar _) hw hS dX4_readCompared_51
    · replace hm := ite_n cc hm
      refine lv_iload_n hx hb dX4_readCompared_24 rfl (lv_at hl 0 rfl) ?_
      refine lv_bipush (v := (-25)) hx hb dX4_readCompared_25 (by decide) ?_
      refine lv_icmp_eq (tgt := 32) hx hb dX4_readCompared_27 (by decide) (fun cc => ?_) (fun cc => ?_)
      · replace hm := ite_p cc hm
        refine lv_aload_n hx hb dX4_readCompared_32 rfl (lv_at hl 1 rfl) ?_
        refine gX4_22 C hw dX4_readCompared_33 ?_
        obtain ⟨x12, h13, hm⟩ := bind_e hm
        refine sX4_59 C h13 hw hS hl.1 (Nat.le_of_ble_eq_true rfl) (by have := hRf; omega) (by have := hRl; omega) hcs dX4_readCompared_36 (fun H locs hw hS => ?_)
        refine lv_aload_n hx hb dX4_readCompared_39 rfl (lv_at hl 1 rfl) ?_
        refine lv_iload_n hx hb dX4_readCompared_40 rfl (lv_at hl 2 rfl) ?_
        obtain ⟨v14, x15, h16, hm⟩ := bind2_e hm
        refine sgX4_72 C (IH.2.2.2.2.1 _ _ _ _ h16) rfl rfl hw hS hl.1 (Nat.le_of_ble_eq_true rfl) (by have := hRf; show gn + 8 + 1 ≤ _; omega) (by have := hRl; show 24 + (gn * 24 + 168) ≤ _; omega) hcs dX4_readCompared_41 (fun H locs hw hS => ?_)
        refine lv_istore_n (lv' := [(3, .int (bI v14)), (2, .int v4), (0, .ref (β + 6)), (1, .int a1)]) hx hb dX4_readCompared_44 rfl hl (by decide) rfl (fun ls hl => ?_)
        refine lv_aload_n hx hb dX4_readCompared_45 rfl (lv_at hl 2 rfl) ?_
        refine lv_iload_n hx hb dX4_readCompared_46 rfl (lv_at hl 1 rfl) ?_
        obtain ⟨x17, h18, hm⟩ := bind_e hm
        refine sX4_62 C h18 hw hS hl.1 (Nat.le_of_ble_eq_true rfl) (by have := hRf; omega) (by have := hRl; omega) hcs dX4_readCompared_47 (fun H locs hw hS => ?_)
        refine lv_iload_n hx hb dX4_readCompared_50 rfl (lv_at hl 0 rfl) ?_
        obtain ⟨rfl, rfl⟩ := inj2 hm
        exact xret_z C (bI_nar _) hw hS dX4_readCompared_51
      · replace hm := ite_n cc hm
        refine lv_iconst (v := 1) hx hb dX4_readCompared_30 (by decide) ?_
        obtain ⟨rfl, rfl⟩ := inj2 hm
        exact xret_z (v := bI true) C (bI_nar _) hw hS dX4_readCompared_31
  · replace hm := ite_n cc hm
    refine lv_iconst (v := 0) hx hb dX4_readCompared_8 (by decide) ?_
    obtain ⟨rfl, rfl⟩ := inj2 hm
    exact xret_z (v := bI false) C (bI_nar _) hw hS dX4_readCompared_9
theorem dX4_readSum_0 : decode cX4_readSum 0 = .ok (.aload_n 0, 1) := by decide +kernel
theorem dX4_readSum_1 : decode cX4_readSum 1 = .ok (.iload_n 1, 1) := by decide +kernel
theorem dX4_readSum_2 : decode cX4_readSum 2 = .ok (.invokevirtual 75, 3) := by decide +kernel
theorem dX4_readSum_5 : decode cX4_readSum 5 = .ok (.istore_n 2, 1) := by decide +kernel
theorem dX4_readSum_6 : decode cX4_readSum 6 = .ok (.iconst 0, 1) := by decide +kernel
theorem dX4_readSum_7 : decode cX4_readSum 7 = .ok (.istore_n 3, 1) := by decide +kernel
theorem dX4_readSum_8 : decode cX4_readSum 8 = .ok (.iload_n 3, 1) := by decide +kernel
theorem dX4_readSum_9 : decode cX4_readSum 9 = .ok (.sipush 160, 3) := by decide +kernel
theorem dX4_readSum_12 : decode cX4_readSum 12 = .ok (.if_icmp .ge 65, 3) := by decide +kernel
theorem dX4_readSum_15 : decode cX4_readSum 15 = .ok (.iload_n 2, 1) := by decide +kernel
theorem dX4_readSum_16 : decode cX4_readSum 16 = .ok (.ifCond .eq 61, 3) := by decide +kernel
theorem dX4_readSum_19 : decode cX4_readSum 19 = .ok (.aload_n 0, 1) := by decide +kernel
theorem dX4_readSum_20 : decode cX4_readSum 20 = .ok (.getfield 22, 3) := by decide +kernel
theorem dX4_readSum_23 : decode cX4_readSum 23 = .ok (.getfield 35, 3) := by decide +kernel
theorem dX4_readSum_26 : decode cX4_readSum 26 = .ok (.bipush (-21), 2) := by decide +kernel
theorem dX4_readSum_28 : decode cX4_readSum 28 = .ok (.if_icmp .eq 15, 3) := by decide +kernel
theorem dX4_readSum_31 : decode cX4_readSum 31 = .ok (.aload_n 0, 1) := by decide +kernel
theorem dX4_readSum_32 : decode cX4_readSum 32 = .ok (.getfield 22, 3) := by decide +kernel
theorem dX4_readSum_35 : decode cX4_readSum 35 = .ok (.getfield 35, 3) := by decide +kernel
theorem dX4_readSum_38 : decode cX4_readSum 38 = .ok (.bipush (-22), 2) := by decide +kernel
theorem dX4_readSum_40 : decode cX4_readSum 40 = .ok (.if_icmp .ne 37, 3) := by decide +kernel
theorem dX4_readSum_43 : decode cX4_readSum 43 = .ok (.aload_n 0, 1) := by decide +kernel
theorem dX4_readSum_44 : decode cX4_readSum 44 = .ok (.getfield 22, 3) := by decide +kernel
theorem dX4_readSum_47 : decode cX4_readSum 47 = .ok (.getfield 35, 3) := by decide +kernel
theorem dX4_readSum_50 : decode cX4_readSum 50 = .ok (.istore 4, 2) := by decide +kernel
theorem dX4_readSum_52 : decode cX4_readSum 52 = .ok (.aload_n 0, 1) := by decide +kernel
theorem dX4_readSum_53 : decode cX4_readSum 53 = .ok (.getfield 22, 3) := by decide +kernel
theorem dX4_readSum_56 : decode cX4_readSum 56 = .ok (.invokevirtual 59, 3) := by decide +kernel
theorem dX4_readSum_59 : decode cX4_readSum 59 = .ok (.aload_n 0, 1) := by decide +kernel
theorem dX4_readSum_60 : decode cX4_readSum 60 = .ok (.iload_n 1, 1) := by decide +kernel
theorem dX4_readSum_61 : decode cX4_readSum 61 = .ok (.invokevirtual 75, 3) := by decide +kernel
theorem dX4_readSum_64 : decode cX4_readSum 64 = .ok (.istore_n 2, 1) := by decide +kernel
theorem dX4_readSum_65 : decode cX4_readSum 65 = .ok (.aload_n 0, 1) := by decide +kernel
theorem dX4_readSum_66 : decode cX4_readSum 66 = .ok (.iload 4, 2) := by decide +kernel
theorem dX4_readSum_68 : decode cX4_readSum 68 = .ok (.invokevirtual 62, 3) := by decide +kernel
theorem dX4_readSum_71 : decode cX4_readSum 71 = .ok (.iinc 3 1, 3) := by decide +kernel
theorem dX4_readSum_74 : decode cX4_readSum 74 = .ok (.goto (-66), 3) := by decide +kernel
theorem dX4_readSum_77 : decode cX4_readSum 77 = .ok (.iload_n 2, 1) := by decide +kernel
theorem dX4_readSum_78 : decode cX4_readSum 78 = .ok (.ireturn, 1) := by decide +kernel
theorem sgX4_75 {p : Program} {l : Launch} {e : Env} {R : Room} {s : State} {m : MethodId} {args : Array Value} {below : List Frame} {meth : Method} {c : Code} {H : Heap} {locs : List Loc} {cells slots : Nat} {Q : State → Prop} {cc : ByteArray} {pc nL : Nat} {ls : Array Slot} {rest : List Value} {ret : Option FieldType} {G : xG} {β : Nat} {D : Nat → Prop} {x x' : XS} {a1 : Int32} {r : Bool} {rm : Room} (C : Cx p s m args meth c RX4 cc nL ret (KK G)) (hM : Met l yX4_readTerm (.code yX4_readTerm cX4_readTerm 4 (some .boolean) :: GT) rm (PcW [.ref (β + 6), .int a1] (CW β D G x) (KK G)) (QcW D (some (.int (bI r))) (CW β D G x')) 0 0 D) (hrc : rm.cells = 0) (hrs : rm.slots = 0) (hw : CW β D G x H) (hS : va_S D s.heap H locs) (hsz : ls.size = nL) (hW : (rest.map fun v => v.category).sum ≤ 8) (hR : rm.frames + 1 ≤ R.frames) (hR2 : 23 + rm.locals ≤ R.locals) (hcs : cells ≤ R.cells ∧ slots ≤ R.slots) (hd : decode cc pc = .ok (.invokevirtual 75, 3)) (kk : ∀ (H1 : Heap) (locs1 : List Loc), CW β D G x' H1 → va_S D s.heap H1 locs1 → W p l e R s m args below meth c H1 locs1 cells slots Q (F0 m (pc + 3) ls (.int (bI r) :: rest))) : W p l e R s m args below meth c H locs cells slots Q (F0 m pc ls (.int a1 :: .ref (β + 6) :: rest)) :=
  xcallV C (As := [.int a1]) (rest := rest) (nA := 1) (ci := 4) hM (tg 291 (by decide +kernel) rfl) (tg 293 (by decide +kernel) rfl) (sg (List.mem_of_getElem? (i := 10) (by decide +kernel)) rfl) (tg 3 (by decide +kernel) rfl) (tg 294 (by decide +kernel) rfl) ⟨rfl, by decide +kernel, by decide +kernel, by decide +kernel⟩ rfl hrc hrs ⟨hR, hR2⟩ (hw.2.2.1 6 (by decide)) hw hS (fun _ q => q) rfl rfl hsz hW hd hcs (fun H1 locs1 hw hz hk hS => kk H1 locs1 hw hS)
set_option maxHeartbeats 4000000 in
set_option maxRecDepth 100000 in
theorem lX4_readSum_8 {p : Program} {l : Launch} {e : Env} {R : Room} {s : State} {m : MethodId} {args : Array Value} {below : List Frame} {meth : Method} {c : Code} {cells slots : Nat} {Q : State → Prop} {G : xG} {β : Nat} {D : Nat → Prop} {gn : Nat} (C : Cx p s m args meth c RX4 cX4_readSum 5 (some .boolean) (KK G)) (hRf : (gn + 1 + 8) ≤ R.frames) (hRl : ((gn + 1) * 24 + 168) ≤ R.locals) (hcs : cells ≤ R.cells ∧ slots ≤ R.slots) (hf : Fz D G s.heap) (IH : GPGRd l G β D gn) (q1 : Int32) : ∀ (n : Nat) (u2 : Bool) (u3 : Int32) (x : XS) (J : Bool × XS) (H : Heap) (locs : List Loc) (ls : Array Slot), LX4_readSum_8 (GRd gn) q1 n u2 u3 x = some J → CW β D G x H → va_S D s.heap H locs → lv_has ls 5 [(0, .ref (β + 6)), (1, .int q1), (2, .int (bI u2)), (3, .int u3)] → (∀ (w2 : Bool) (x1 : XS), J = (w2, x1) → ∀ (H : Heap) (locs : List Loc) (ls : Array Slot), CW β D G x1 H → va_S D s.heap H locs → lv_has ls 5 [(2, .int (bI w2))] → W p l e R s m args below meth c H locs cells slots Q (F0 m 77 ls [])) → W p l e R s m args below meth c H locs cells slots Q (F0 m 8 ls []) := by
  have hx := C.1
  have hb := C.2.1
  have ho := C.2.2.2.1
  have hts := C.2.2.2.2.1
  intro n
  induction n with
  | zero =>
    intro u2 u3 x J H locs ls hm
    exact absurd hm (by simp [LX4_readSum_8])
  | succ n ih =>
    intro u2 u3 x J H locs ls hm hw hS hl ke
    replace hm : BX4_readSum_8 (GRd gn) q1 (LX4_readSum_8 (GRd gn) q1 n) u2 u3 x = some J := hm
    unfold BX4_readSum_8 at hm
    refine lv_iload_n hx hb dX4_readSum_8 rfl (lv_at hl 3 rfl) ?_
    refine lv_sipush (v := 160) hx hb dX4_readSum_9 (by decide) ?_
    refine lv_icmp_ge (tgt := 77) hx hb dX4_readSum_12 (by decide) (fun cc => ?_) (fun cc => ?_)
    · replace hm := ite_p cc hm
      exact ke _ _ (Option.some.inj hm).symm _ _ _ hw hS (lv_sub hl [2] rfl)
    · replace hm := ite_n cc hm
      refine lv_iload_n hx hb dX4_readSum_15 rfl (lv_at hl 2 rfl) ?_
      refine x_ifeqB hx hb dX4_readSum_16 (tgt := 77) (by decide) (fun cc => ?_) (fun cc => ?_)
      · replace hm := ite_n cc hm
        exact ke _ _ (Option.some.inj hm).symm _ _ _ hw hS (lv_sub hl [2] rfl)
      · replace hm := ite_p cc hm
        refine lv_aload_n hx hb dX4_readSum_19 rfl (lv_at hl 0 rfl) ?_
        refine gX4_22 C hw dX4_readSum_20 ?_
        refine gX4_35 C hw dX4_readSum_23 ?_
        refine lv_bipush (v := (-21)) hx hb dX4_readSum_26 (by decide) ?_
        refine lv_icmp_eq (tgt := 43) hx hb dX4_readSum_28 (by decide) (fun cc => ?_) (fun cc => ?_)
        · replace hm := ite_p cc hm
          refine lv_aload_n hx hb dX4_readSum_43 rfl (lv_at hl 0 rfl) ?_
          refine gX4_22 C hw dX4_readSum_44 ?_
          refine gX4_35 C hw dX4_readSum_47 ?_
          refine topI hm (fun v4 hm => ?_)
          refine lv_istore (lv' := [(4, .int v4), (0, .ref (β + 6)), (1, .int q1), (2, .int (bI u2)), (3, .int u3)]) hx hb dX4_readSum_50 hl (by decide) rfl (fun ls hl => ?_)
          refine lv_aload_n hx hb dX4_readSum_52 rfl (lv_at hl 1 rfl) ?_
          refine gX4_22 C hw dX4_readSum_53 ?_
          obtain ⟨x5, h6, hm⟩ := bind_e hm
          refine sX4_59 C h6 hw hS hl.1 (Nat.le_of_ble_eq_true rfl) (by have := hRf; omega) (by have := hRl; omega) hcs dX4_readSum_56 (fun H locs hw hS => ?_)
          refine lv_aload_n hx hb dX4_readSum_59 rfl (lv_at hl 1 rfl) ?_
          refine lv_iload_n hx hb dX4_readSum_60 rfl (lv_at hl 2 rfl) ?_
          obtain ⟨v7, x8, h9, hm⟩ := bind2_e hm
          refine sgX4_75 C (IH.2.2.2.2.2.1 _ _ _ _ h9) rfl rfl hw hS hl.1 (Nat.le_of_ble_eq_true rfl) (by have := hRf; show gn + 8 + 1 ≤ _; omega) (by have := hRl; show 23 + (gn * 24 + 168) ≤ _; omega) hcs dX4_readSum_61 (fun H locs hw hS => ?_)
          refine lv_istore_n (lv' := [(2, .int (bI v7)), (4, .int v4), (0, .ref (β + 6)), (1, .int q1), (3, .int u3)]) hx hb dX4_readSum_64 rfl hl (by decide) rfl (fun ls hl => ?_)
          refine lv_aload_n hx hb dX4_readSum_65 rfl (lv_at hl 2 rfl) ?_
          refine lv_iload hx hb dX4_readSum_66 (lv_at hl 1 rfl) ?_
          obtain ⟨x10, h11, hm⟩ := bind_e hm
          refine sX4_62 C h11 hw hS hl.1 (Nat.le_of_ble_eq_true rfl) (by have := hRf; omega) (by have := hRl; omega) hcs dX4_readSum_68 (fun H locs hw hS => ?_)
          obtain ⟨v12, ev, hm⟩ := lt_e hm
          refine lv_iinc (v := v12) (lv' := [(3, .int v12), (2, .int (bI v7)), (4, .int v4), (0, .ref (β + 6)), (1, .int q1)]) hx hb dX4_readSum_71 hl (k := 4) rfl (by rw [ev]; rfl) (by decide) rfl (fun ls hl => ?_)
          clear ev
          refine lv_goto (tgt := 8) hx hb dX4_readSum_74 (by decide) ?_
          exact ih _ _ _ _ _ _ _ hm hw hS (lv_sub hl [3, 4, 1, 0] rfl) ke
        · replace hm := ite_n cc hm
          refine lv_aload_n hx hb dX4_readSum_31 rfl (lv_at hl 0 rfl) ?_
          refine gX4_22 C hw dX4_readSum_32 ?_
          refine gX4_35 C hw dX4_readSum_35 ?_
          refine lv_bipush (v := (-22)) hx hb dX4_readSum_38 (by decide) ?_
          refine lv_icmp_ne (tgt := 77) hx hb dX4_readSum_40 (by decide) (fun cc => ?_) (fun cc => ?_)
          · replace hm := ite_n cc hm
            exact ke _ _ (Option.some.inj hm).symm _ _ _ hw hS (lv_sub hl [2] rfl)
          · replace hm := ite_p cc hm
            refine lv_aload_n hx hb dX4_readSum_43 rfl (lv_at hl 0 rfl) ?_
            refine gX4_22 C hw dX4_readSum_44 ?_
            refine gX4_35 C hw dX4_readSum_47 ?_
            refine topI hm (fun v13 hm => ?_)
            refine lv_istore (lv' := [(4, .int v13), (0, .ref (β + 6)), (1, .int q1), (2, .int (bI u2)), (3, .int u3)]) hx hb dX4_readSum_50 hl (by decide) rfl (fun ls hl => ?_)
            refine lv_aload_n hx hb dX4_readSum_52 rfl (lv_at hl 1 rfl) ?_
            refine gX4_22 C hw dX4_readSum_53 ?_
            obtain ⟨x14, h15, hm⟩ := bind_e hm
            refine sX4_59 C h15 hw hS hl.1 (Nat.le_of_ble_eq_true rfl) (by have := hRf; omega) (by have := hRl; omega) hcs dX4_readSum_56 (fun H locs hw hS => ?_)
            refine lv_aload_n hx hb dX4_readSum_59 rfl (lv_at hl 1 rfl) ?_
            refine lv_iload_n hx hb dX4_readSum_60 rfl (lv_at hl 2 rfl) ?_
            obtain ⟨v16, x17, h18, hm⟩ := bind2_e hm
            refine sgX4_75 C (IH.2.2.2.2.2.1 _ _ _ _ h18) rfl rfl hw hS hl.1 (Nat.le_of_ble_eq_true rfl) (by have := hRf; show gn + 8 + 1 ≤ _; omega) (by have := hRl; show 23 + (gn * 24 + 168) ≤ _; omega) hcs dX4_readSum_61 (fun H locs hw hS => ?_)
            refine lv_istore_n (lv' := [(2, .int (bI v16)), (4, .int v13), (0, .ref (β + 6)), (1, .int q1), (3, .int u3)]) hx hb dX4_readSum_64 rfl hl (by decide) rfl (fun ls hl => ?_)
            refine lv_aload_n hx hb dX4_readSum_65 rfl (lv_at hl 2 rfl) ?_
            refine lv_iload hx hb dX4_readSum_66 (lv_at hl 1 rfl) ?_
            obtain ⟨x19, h20, hm⟩ := bind_e hm
            refine sX4_62 C h20 hw hS hl.1 (Nat.le_of_ble_eq_true rfl) (by have := hRf; omega) (by have := hRl; omega) hcs dX4_readSum_68 (fun H locs hw hS => ?_)
            obtain ⟨v21, ev, hm⟩ := lt_e hm
            refine lv_iinc (v := v21) (lv' := [(3, .int v21), (2, .int (bI v16)), (4, .int v13), (0, .ref (β + 6)), (1, .int q1)]) hx hb dX4_readSum_71 hl (k := 4) rfl (by rw [ev]; rfl) (by decide) rfl (fun ls hl => ?_)
            clear ev
            refine lv_goto (tgt := 8) hx hb dX4_readSum_74 (by decide) ?_
            exact ih _ _ _ _ _ _ _ hm hw hS (lv_sub hl [3, 4, 1, 0] rfl) ke
set_option maxHeartbeats 4000000 in
set_option maxRecDepth 100000 in
theorem kX4_readSum {l : Launch} {G : xG} {β : Nat} {D : Nat → Prop} {gn : Nat} (IH : GPGRd l G β D gn) {x x' : XS} {a1 : Int32} {r : Bool} (hm : fX4_readSum (GRd gn) x a1 = some (r, x')) : Met l yX4_readSum (.code yX4_readSum cX4_readSum 5 (some .boolean) :: GT) (rmGRd (gn + 1)) (PcW [.ref (β + 6), .int a1] (CW β D G x) (KK G)) (QcW D (some (.int (bI r))) (CW β D G x')) 0 0 D := by
  unfold fX4_readSum at hm
  refine xpro (own := RX4) (by decide +kernel) rfl (Nat.le_of_ble_eq_true rfl) ?_
  intro p e s m args below meth c C hw ls hl
  have hx := C.1
  have hb := C.2.1
  have ho := C.2.2.2.1
  have hts := C.2.2.2.2.1
  have hf : Fz D G s.heap := hw.2.2.2.2
  have hS : va_S D s.heap s.heap [] := va_S.rf
  have hl : lv_has ls 5 [(0, .ref (β + 6)), (1, .int a1)] := hl
  have hRf : (gn + 1 + 8) ≤ (rmGRd (gn + 1)).frames := Nat.le_refl _
  have hRl : ((gn + 1) * 24 + 168) ≤ (rmGRd (gn + 1)).locals := Nat.le_refl _
  have hcs : 0 ≤ (rmGRd (gn + 1)).cells ∧ 0 ≤ (rmGRd (gn + 1)).slots := ⟨Nat.le_refl _, Nat.le_refl _⟩
  refine lv_aload_n hx hb dX4_readSum_0 rfl (lv_at hl 0 rfl) ?_
  refine lv_iload_n hx hb dX4_readSum_1 rfl (lv_at hl 1 rfl) ?_
  obtain ⟨v1, x2, h3, hm⟩ := bind2_e hm
  refine sgX4_75 C (IH.2.2.2.2.2.1 _ _ _ _ h3) rfl rfl hw hS hl.1 (Nat.le_of_ble_eq_true rfl) (by have := hRf; show gn + 8 + 1 ≤ _; omega) (by have := hRl; show 23 + (gn * 24 + 168) ≤ _; omega) hcs dX4_readSum_2 (fun H locs hw hS => ?_)
  refine lv_istore_n (lv' := [(2, .int (bI v1)), (0, .ref (β + 6)), (1, .int a1)]) hx hb dX4_readSum_5 rfl hl (by decide) rfl (fun ls hl => ?_)
  refine lv_iconst (v := 0) hx hb dX4_readSum_6 (by decide) ?_
  refine lv_istore_n (lv' := [(3, .int 0), (2, .int (bI v1)), (0, .ref (β + 6)), (1, .int a1)]) hx hb dX4_readSum_7 rfl hl (by decide) rfl (fun ls hl => ?_)
  obtain ⟨v22, x23, hj, hm⟩ := bind2_e hm
  refine lX4_readSum_8 C hRf hRl hcs hf IH a1 NF _ _ _ _ _ _ _ hj hw hS (lv_sub hl [2, 3, 1, 0] rfl) (fun v22_ x23_ e0 H locs ls hw hS hl => ?_)
  cases e0
  refine lv_iload_n hx hb dX4_readSum_77 rfl (lv_at hl 0 rfl) ?_
  obtain ⟨rfl, rfl⟩ := inj2 hm
  exact xret_z C (bI_nar _) hw hS dX4_readSum_78
theorem dX4_readTerm_0 : decode cX4_readTerm 0 = .ok (.aload_n 0, 1) := by decide +kernel
theorem dX4_readTerm_1 : decode cX4_readTerm 1 = .ok (.iload_n 1, 1) := by decide +kernel
theorem dX4_readTerm_2 : decode cX4_readTerm 2 = .ok (.invokevirtual 78, 3) := by decide +kernel
theorem dX4_readTerm_5 : decode cX4_readTerm 5 = .ok (.istore_n 2, 1) := by decide +kernel
theorem dX4_readTerm_6 : decode cX4_readTerm 6 = .ok (.iconst 0, 1) := by decide +kernel
theorem dX4_readTerm_7 : decode cX4_readTerm 7 = .ok (.istore_n 3, 1) := by decide +kernel
theorem dX4_readTerm_8 : decode cX4_readTerm 8 = .ok (.iload_n 3, 1) := by decide +kernel
theorem dX4_readTerm_9 : decode cX4_readTerm 9 = .ok (.sipush 160, 3) := by decide +kernel
theorem dX4_readTerm_12 : decode cX4_readTerm 12 = .ok (.if_icmp .ge 44, 3) := by decide +kernel
theorem dX4_readTerm_15 : decode cX4_readTerm 15 = .ok (.iload_n 2, 1) := by decide +kernel
theorem dX4_readTerm_16 : decode cX4_readTerm 16 = .ok (.ifCond .eq 40, 3) := by decide +kernel
theorem dX4_readTerm_19 : decode cX4_readTerm 19 = .ok (.aload_n 0, 1) := by decide +kernel
theorem dX4_readTerm_20 : decode cX4_readTerm 20 = .ok (.getfield 22, 3) := by decide +kernel
theorem dX4_readTerm_23 : decode cX4_readTerm 23 = .ok (.getfield 35, 3) := by decide +kernel
theorem dX4_readTerm_26 : decode cX4_readTerm 26 = .ok (.bipush (-23), 2) := by decide +kernel
theorem dX4_readTerm_28 : decode cX4_readTerm 28 = .ok (.if_icmp .ne 28, 3) := by decide +kernel
theorem dX4_readTerm_31 : decode cX4_readTerm 31 = .ok (.aload_n 0, 1) := by decide +kernel
theorem dX4_readTerm_32 : decode cX4_readTerm 32 = .ok (.getfield 22, 3) := by decide +kernel
theorem dX4_readTerm_35 : decode cX4_readTerm 35 = .ok (.invokevirtual 59, 3) := by decide +kernel
theorem dX4_readTerm_38 : decode cX4_readTerm 38 = .ok (.aload_n 0, 1) := by decide +kernel
theorem dX4_readTerm_39 : decode cX4_readTerm 39 = .ok (.iload_n 1, 1) := by decide +kernel
theorem dX4_readTerm_40 : decode cX4_readTerm 40 = .ok (.invokevirtual 78, 3) := by decide +kernel
theorem dX4_readTerm_43 : decode cX4_readTerm 43 = .ok (.istore_n 2, 1) := by decide +kernel
theorem dX4_readTerm_44 : decode cX4_readTerm 44 = .ok (.aload_n 0, 1) := by decide +kernel
theorem dX4_readTerm_45 : decode cX4_readTerm 45 = .ok (.bipush (-23), 2) := by decide +kernel
theorem dX4_readTerm_47 : decode cX4_readTerm 47 = .ok (.invokevirtual 62, 3) := by decide +kernel
theorem dX4_readTerm_50 : decode cX4_readTerm 50 = .ok (.iinc 3 1, 3) := by decide +kernel
theorem dX4_readTerm_53 : decode cX4_readTerm 53 = .ok (.goto (-45), 3) := by decide +kernel
theorem dX4_readTerm_56 : decode cX4_readTerm 56 = .ok (.iload_n 2, 1) := by decide +kernel
theorem dX4_readTerm_57 : decode cX4_readTerm 57 = .ok (.ireturn, 1) := by decide +kernel
theorem sgX4_78 {p : Program} {l : Launch} {e : Env} {R : Room} {s : State} {m : MethodId} {args : Array Value} {below : List Frame} {meth : Method} {c : Code} {H : Heap} {locs : List Loc} {cells slots : Nat} {Q : State → Prop} {cc : ByteArray} {pc nL : Nat} {ls : Array Slot} {rest : List Value} {ret : Option FieldType} {G : xG} {β : Nat} {D : Nat → Prop} {x x' : XS} {a1 : Int32} {r : Bool} {rm : Room} (C : Cx p s m args meth c RX4 cc nL ret (KK G)) (hM : Met l yX4_readOne (.code yX4_readOne cX4_readOne 4 (some .boolean) :: GT) rm (PcW [.ref (β + 6), .int a1] (CW β D G x) (KK G)) (QcW D (some (.int (bI r))) (CW β D G x')) 0 0 D) (hrc : rm.cells = 0) (hrs : rm.slots = 0) (hw : CW β D G x H) (hS : va_S D s.heap H locs) (hsz : ls.size = nL) (hW : (rest.map fun v => v.category).sum ≤ 8) (hR : rm.frames + 1 ≤ R.frames) (hR2 : 23 + rm.locals ≤ R.locals) (hcs : cells ≤ R.cells ∧ slots ≤ R.slots) (hd : decode cc pc = .ok (.invokevirtual 78, 3)) (kk : ∀ (H1 : Heap) (locs1 : List Loc), CW β D G x' H1 → va_S D s.heap H1 locs1 → W p l e R s m args below meth c H1 locs1 cells slots Q (F0 m (pc + 3) ls (.int (bI r) :: rest))) : W p l e R s m args below meth c H locs cells slots Q (F0 m pc ls (.int a1 :: .ref (β + 6) :: rest)) :=
  xcallV C (As := [.int a1]) (rest := rest) (nA := 1) (ci := 4) hM (tg 295 (by decide +kernel) rfl) (tg 297 (by decide +kernel) rfl) (sg (List.mem_of_getElem? (i := 11) (by decide +kernel)) rfl) (tg 3 (by decide +kernel) rfl) (tg 298 (by decide +kernel) rfl) ⟨rfl, by decide +kernel, by decide +kernel, by decide +kernel⟩ rfl hrc hrs ⟨hR, hR2⟩ (hw.2.2.1 6 (by decide)) hw hS (fun _ q => q) rfl rfl hsz hW hd hcs (fun H1 locs1 hw hz hk hS => kk H1 locs1 hw hS)
set_option maxHeartbeats 4000000 in
set_option maxRecDepth 100000 in
theorem lX4_readTerm_8 {p : Program} {l : Launch} {e : Env} {R : Room} {s : State} {m : MethodId} {args : Array Value} {below : List Frame} {meth : Method} {c : Code} {cells slots : Nat} {Q : State → Prop} {G : xG} {β : Nat} {D : Nat → Prop} {gn : Nat} (C : Cx p s m args meth c RX4 cX4_readTerm 4 (some .boolean) (KK G)) (hRf : (gn + 1 + 8) ≤ R.frames) (hRl : ((gn + 1) * 24 + 168) ≤ R.locals) (hcs : cells ≤ R.cells ∧ slots ≤ R.slots) (hf : Fz D G s.heap) (IH : GPGRd l G β D gn) (q1 : Int32) : ∀ (n : Nat) (u2 : Bool) (u3 : Int32) (x : XS) (J : Bool × XS) (H : Heap) (locs : List Loc) (ls : Array Slot), LX4_readTerm_8 (GRd gn) q1 n u2 u3 x = some J → CW β D G x H → va_S D s.heap H locs → lv_has ls 4 [(0, .ref (β + 6)), (1, .int q1), (2, .int (bI u2)), (3, .int u3)] → (∀ (w2 : Bool) (x1 : XS), J = (w2, x1) → ∀ (H : Heap) (locs : List Loc) (ls : Array Slot), CW β D G x1 H → va_S D s.heap H locs → lv_has ls 4 [(2, .int (bI w2))] → W p l e R s m args below meth c H locs cells slots Q (F0 m 56 ls [])) → W p l e R s m args below meth c H locs cells slots Q (F0 m 8 ls []) := by
  have hx := C.1
  have hb := C.2.1
  have ho := C.2.2.2.1
  have hts := C.2.2.2.2.1
  intro n
  induction n with
  | zero =>
    intro u2 u3 x J H locs ls hm
    exact absurd hm (by simp [LX4_readTerm_8])
  | succ n ih =>
    intro u2 u3 x J H locs ls hm hw hS hl ke
    replace hm : BX4_readTerm_8 (GRd gn) q1 (LX4_readTerm_8 (GRd gn) q1 n) u2 u3 x = some J := hm
    unfold BX4_readTerm_8 at hm
    refine lv_iload_n hx hb dX4_readTerm_8 rfl (lv_at hl 3 rfl) ?_
    refine lv_sipush (v := 160) hx hb dX4_readTerm_9 (by decide) ?_
    refine lv_icmp_ge (tgt := 56) hx hb dX4_readTerm_12 (by decide) (fun cc => ?_) (fun cc => ?_)
    · replace hm := ite_p cc hm
      exact ke _ _ (Option.some.inj hm).symm _ _ _ hw hS (lv_sub hl [2] rfl)
    · replace hm := ite_n cc hm
      refine lv_iload_n hx hb dX4_readTerm_15 rfl (lv_at hl 2 rfl) ?_
      refine x_ifeqB hx hb dX4_readTerm_16 (tgt := 56) (by decide) (fun cc => ?_) (fun cc => ?_)
      · replace hm := ite_n cc hm
        exact ke _ _ (Option.some.inj hm).symm _ _ _ hw hS (lv_sub hl [2] rfl)
      · replace hm := ite_p cc hm
        refine lv_aload_n hx hb dX4_readTerm_19 rfl (lv_at hl 0 rfl) ?_
        refine gX4_22 C hw dX4_readTerm_20 ?_
        refine gX4_35 C hw dX4_readTerm_23 ?_
        refine lv_bipush (v := (-23)) hx hb dX4_readTerm_26 (by decide) ?_
        refine lv_icmp_ne (tgt := 56) hx hb dX4_readTerm_28 (by decide) (fun cc => ?_) (fun cc => ?_)
        · replace hm := ite_n cc hm
          exact ke _ _ (Option.some.inj hm).symm _ _ _ hw hS (lv_sub hl [2] rfl)
        · replace hm := ite_p cc hm
          refine lv_aload_n hx hb dX4_readTerm_31 rfl (lv_at hl 0 rfl) ?_
          refine gX4_22 C hw dX4_readTerm_32 ?_
          obtain ⟨x4, h5, hm⟩ := bind_e hm
          refine sX4_59 C h5 hw hS hl.1 (Nat.le_of_ble_eq_true rfl) (by have := hRf; omega) (by have := hRl; omega) hcs dX4_readTerm_35 (fun H locs hw hS => ?_)
          refine lv_aload_n hx hb dX4_readTerm_38 rfl (lv_at hl 0 rfl) ?_
          refine lv_iload_n hx hb dX4_readTerm_39 rfl (lv_at hl 1 rfl) ?_
          obtain ⟨v6, x7, h8, hm⟩ := bind2_e hm
          refine sgX4_78 C (IH.2.2.2.2.2.2 _ _ _ _ h8) rfl rfl hw hS hl.1 (Nat.le_of_ble_eq_true rfl) (by have := hRf; show gn + 8 + 1 ≤ _; omega) (by have := hRl; show 23 + (gn * 24 + 168) ≤ _; omega) hcs dX4_readTerm_40 (fun H locs hw hS => ?_)
          refine lv_istore_n (lv' := [(2, .int (bI v6)), (0, .ref (β + 6)), (1, .int q1), (3, .int u3)]) hx hb dX4_readTerm_43 rfl hl (by decide) rfl (fun ls hl => ?_)
          refine lv_aload_n hx hb dX4_readTerm_44 rfl (lv_at hl 1 rfl) ?_
          refine lv_bipush (v := (-23)) hx hb dX4_readTerm_45 (by decide) ?_
          obtain ⟨x9, h10, hm⟩ := bind_e hm
          refine sX4_62 C h10 hw hS hl.1 (Nat.le_of_ble_eq_true rfl) (by have := hRf; omega) (by have := hRl; omega) hcs dX4_readTerm_47 (fun H locs hw hS => ?_)
          obtain ⟨v11, ev, hm⟩ := lt_e hm
          refine lv_iinc (v := v11) (lv' := [(3, .int v11), (2, .int (bI v6)), (0, .ref (β + 6)), (1, .int q1)]) hx hb dX4_readTerm_50 hl (k := 3) rfl (by rw [ev]; rfl) (by decide) rfl (fun ls hl => ?_)
          clear ev
          refine lv_goto (tgt := 8) hx hb dX4_readTerm_53 (by decide) ?_
          exact ih _ _ _ _ _ _ _ hm hw hS (lv_sub hl [2, 3, 1, 0] rfl) ke
set_option maxHeartbeats 4000000 in
set_option maxRecDepth 100000 in
theorem kX4_readTerm {l : Launch} {G : xG} {β : Nat} {D : Nat → Prop} {gn : Nat} (IH : GPGRd l G β D gn) {x x' : XS} {a1 : Int32} {r : Bool} (hm : fX4_readTerm (GRd gn) x a1 = some (r, x')) : Met l yX4_readTerm (.code yX4_readTerm cX4_readTerm 4 (some .boolean) :: GT) (rmGRd (gn + 1)) (PcW [.ref (β + 6), .int a1] (CW β D G x) (KK G)) (QcW D (some (.int (bI r))) (CW β D G x')) 0 0 D := by
  unfold fX4_readTerm at hm
  refine xpro (own := RX4) (by decide +kernel) rfl (Nat.le_of_ble_eq_true rfl) ?_
  intro p e s m args below meth c C hw ls hl
  have hx := C.1
  have hb := C.2.1
  have ho := C.2.2.2.1
  have hts := C.2.2.2.2.1
  have hf : Fz D G s.heap := hw.2.2.2.2
  have hS : va_S D s.heap s.heap [] := va_S.rf
  have hl : lv_has ls 4 [(0, .ref (β + 6)), (1, .int a1)] := hl
  have hRf : (gn + 1 + 8) ≤ (rmGRd (gn + 1)).frames := Nat.le_refl _
  have hRl : ((gn + 1) * 24 + 168) ≤ (rmGRd (gn + 1)).locals := Nat.le_refl _
  have hcs : 0 ≤ (rmGRd (gn + 1)).cells ∧ 0 ≤ (rmGRd (gn + 1)).slots := ⟨Nat.le_refl _, Nat.le_refl _⟩
  refine lv_aload_n hx hb dX4_readTerm_0 rfl (lv_at hl 0 rfl) ?_
  refine lv_iload_n hx hb dX4_readTerm_1 rfl (lv_at hl 1 rfl) ?_
  obtain ⟨v1, x2, h3, hm⟩ := bind2_e hm
  refine sgX4_78 C (IH.2.2.2.2.2.2 _ _ _ _ h3) rfl rfl hw hS hl.1 (Nat.le_of_ble_eq_true rfl) (by have := hRf; show gn + 8 + 1 ≤ _; omega) (by have := hRl; show 23 + (gn * 24 + 168) ≤ _; omega) hcs dX4_readTerm_2 (fun H locs hw hS => ?_)
  refine lv_istore_n (lv' := [(2, .int (bI v1)), (0, .ref (β + 6)), (1, .int a1)]) hx hb dX4_readTerm_5 rfl hl (by decide) rfl (fun ls hl => ?_)
  refine lv_iconst (v := 0) hx hb dX4_readTerm_6 (by decide) ?_
  refine lv_istore_n (lv' := [(3, .int 0), (2, .int (bI v1)), (0, .ref (β + 6)), (1, .int a1)]) hx hb dX4_readTerm_7 rfl hl (by decide) rfl (fun ls hl => ?_)
  obtain ⟨v12, x13, hj, hm⟩ := bind2_e hm
  refine lX4_readTerm_8 C hRf hRl hcs hf IH a1 NF _ _ _ _ _ _ _ hj hw hS (lv_sub hl [2, 3, 1, 0] rfl) (fun v12_ x13_ e0 H locs ls hw hS hl => ?_)
  cases e0
  refine lv_iload_n hx hb dX4_readTerm_56 rfl (lv_at hl 0 rfl) ?_
  obtain ⟨rfl, rfl⟩ := inj2 hm
  exact xret_z C (bI_nar _) hw hS dX4_readTerm_57
theorem dX4_readOne_0 : decode cX4_readOne 0 = .ok (.aload_n 0, 1) := by decide +kernel
theorem dX4_readOne_1 : decode cX4_readOne 1 = .ok (.getfield 22, 3) := by decide +kernel
theorem dX4_readOne_4 : decode cX4_readOne 4 = .ok (.getfield 35, 3) := by decide +kernel
theorem dX4_readOne_7 : decode cX4_readOne 7 = .ok (.bipush (-34), 2) := by decide +kernel
theorem dX4_readOne_9 : decode cX4_readOne 9 = .ok (.if_icmp .eq 16, 3) := by decide +kernel
theorem dX4_readOne_12 : decode cX4_readOne 12 = .ok (.aload_n 0, 1) := by decide +kernel
theorem dX4_readOne_13 : decode cX4_readOne 13 = .ok (.getfield 22, 3) := by decide +kernel
theorem dX4_readOne_16 : decode cX4_readOne 16 = .ok (.getfield 35, 3) := by decide +kernel
theorem dX4_readOne_19 : decode cX4_readOne 19 = .ok (.invokestatic 81, 3) := by decide +kernel
theorem dX4_readOne_22 : decode cX4_readOne 22 = .ok (.ifCond .eq 45, 3) := by decide +kernel
theorem dX4_readOne_25 : decode cX4_readOne 25 = .ok (.aload_n 0, 1) := by decide +kernel
theorem dX4_readOne_26 : decode cX4_readOne 26 = .ok (.aload_n 0, 1) := by decide +kernel
theorem dX4_readOne_27 : decode cX4_readOne 27 = .ok (.getfield 22, 3) := by decide +kernel
theorem dX4_readOne_30 : decode cX4_readOne 30 = .ok (.getfield 35, 3) := by decide +kernel
theorem dX4_readOne_33 : decode cX4_readOne 33 = .ok (.bipush (-34), 2) := by decide +kernel
theorem dX4_readOne_35 : decode cX4_readOne 35 = .ok (.if_icmp .ne 13, 3) := by decide +kernel
theorem dX4_readOne_38 : decode cX4_readOne 38 = .ok (.aload_n 0, 1) := by decide +kernel
theorem dX4_readOne_39 : decode cX4_readOne 39 = .ok (.getfield 22, 3) := by decide +kernel
theorem dX4_readOne_42 : decode cX4_readOne 42 = .ok (.getfield 84, 3) := by decide +kernel
theorem dX4_readOne_45 : decode cX4_readOne 45 = .ok (.goto 10, 3) := by decide +kernel
theorem dX4_readOne_48 : decode cX4_readOne 48 = .ok (.aload_n 0, 1) := by decide +kernel
theorem dX4_readOne_49 : decode cX4_readOne 49 = .ok (.getfield 22, 3) := by decide +kernel
theorem dX4_readOne_52 : decode cX4_readOne 52 = .ok (.getfield 35, 3) := by decide +kernel
theorem dX4_readOne_55 : decode cX4_readOne 55 = .ok (.invokevirtual 62, 3) := by decide +kernel
theorem dX4_readOne_58 : decode cX4_readOne 58 = .ok (.aload_n 0, 1) := by decide +kernel
theorem dX4_readOne_59 : decode cX4_readOne 59 = .ok (.getfield 22, 3) := by decide +kernel
theorem dX4_readOne_62 : decode cX4_readOne 62 = .ok (.invokevirtual 59, 3) := by decide +kernel
theorem dX4_readOne_65 : decode cX4_readOne 65 = .ok (.iconst 1, 1) := by decide +kernel
theorem dX4_readOne_66 : decode cX4_readOne 66 = .ok (.ireturn, 1) := by decide +kernel
theorem dX4_readOne_67 : decode cX4_readOne 67 = .ok (.aload_n 0, 1) := by decide +kernel
theorem dX4_readOne_68 : decode cX4_readOne 68 = .ok (.getfield 22, 3) := by decide +kernel
theorem dX4_readOne_71 : decode cX4_readOne 71 = .ok (.getfield 35, 3) := by decide +kernel
theorem dX4_readOne_74 : decode cX4_readOne 74 = .ok (.bipush (-22), 2) := by decide +kernel
theorem dX4_readOne_76 : decode cX4_readOne 76 = .ok (.if_icmp .eq 15, 3) := by decide +kernel
theorem dX4_readOne_79 : decode cX4_readOne 79 = .ok (.aload_n 0, 1) := by decide +kernel
theorem dX4_readOne_80 : decode cX4_readOne 80 = .ok (.getfield 22, 3) := by decide +kernel
theorem dX4_readOne_83 : decode cX4_readOne 83 = .ok (.getfield 35, 3) := by decide +kernel
theorem dX4_readOne_86 : decode cX4_readOne 86 = .ok (.bipush (-31), 2) := by decide +kernel
theorem dX4_readOne_88 : decode cX4_readOne 88 = .ok (.if_icmp .ne 8, 3) := by decide +kernel
theorem dX4_readOne_91 : decode cX4_readOne 91 = .ok (.iload_n 1, 1) := by decide +kernel
theorem dX4_readOne_92 : decode cX4_readOne 92 = .ok (.iconst 5, 1) := by decide +kernel
theorem dX4_readOne_93 : decode cX4_readOne 93 = .ok (.if_icmp .lt 5, 3) := by decide +kernel
theorem dX4_readOne_96 : decode cX4_readOne 96 = .ok (.iconst 0, 1) := by decide +kernel
theorem dX4_readOne_97 : decode cX4_readOne 97 = .ok (.ireturn, 1) := by decide +kernel
theorem dX4_readOne_98 : decode cX4_readOne 98 = .ok (.aload_n 0, 1) := by decide +kernel
theorem dX4_readOne_99 : decode cX4_readOne 99 = .ok (.getfield 22, 3) := by decide +kernel
theorem dX4_readOne_102 : decode cX4_readOne 102 = .ok (.getfield 35, 3) := by decide +kernel
theorem dX4_readOne_105 : decode cX4_readOne 105 = .ok (.bipush (-31), 2) := by decide +kernel
theorem dX4_readOne_107 : decode cX4_readOne 107 = .ok (.if_icmp .ne 7, 3) := by decide +kernel
theorem dX4_readOne_110 : decode cX4_readOne 110 = .ok (.iconst 1, 1) := by decide +kernel
theorem dX4_readOne_111 : decode cX4_readOne 111 = .ok (.goto 4, 3) := by decide +kernel
theorem dX4_readOne_114 : decode cX4_readOne 114 = .ok (.iconst 0, 1) := by decide +kernel
theorem dX4_readOne_115 : decode cX4_readOne 115 = .ok (.istore_n 2, 1) := by decide +kernel
theorem dX4_readOne_116 : decode cX4_readOne 116 = .ok (.aload_n 0, 1) := by decide +kernel
theorem dX4_readOne_117 : decode cX4_readOne 117 = .ok (.getfield 22, 3) := by decide +kernel
theorem dX4_readOne_120 : decode cX4_readOne 120 = .ok (.invokevirtual 59, 3) := by decide +kernel
theorem dX4_readOne_123 : decode cX4_readOne 123 = .ok (.iload_n 2, 1) := by decide +kernel
theorem dX4_readOne_124 : decode cX4_readOne 124 = .ok (.ifCond .eq 28, 3) := by decide +kernel
theorem dX4_readOne_127 : decode cX4_readOne 127 = .ok (.aload_n 0, 1) := by decide +kernel
theorem dX4_readOne_128 : decode cX4_readOne 128 = .ok (.iload_n 1, 1) := by decide +kernel
theorem dX4_readOne_129 : decode cX4_readOne 129 = .ok (.iconst 1, 1) := by decide +kernel
theorem dX4_readOne_130 : decode cX4_readOne 130 = .ok (.iadd, 1) := by decide +kernel
theorem dX4_readOne_131 : decode cX4_readOne 131 = .ok (.invokevirtual 53, 3) := by decide +kernel
theorem dX4_readOne_134 : decode cX4_readOne 134 = .ok (.ifCond .eq 16, 3) := by decide +kernel
theorem dX4_readOne_137 : decode cX4_readOne 137 = .ok (.aload_n 0, 1) := by decide +kernel
theorem dX4_readOne_138 : decode cX4_readOne 138 = .ok (.bipush (-32), 2) := by decide +kernel
theorem dX4_readOne_140 : decode cX4_readOne 140 = .ok (.invokevirtual 49, 3) := by decide +kernel
theorem dX4_readOne_143 : decode cX4_readOne 143 = .ok (.ifCond .eq 7, 3) := by decide +kernel
theorem dX4_readOne_146 : decode cX4_readOne 146 = .ok (.iconst 1, 1) := by decide +kernel
theorem dX4_readOne_147 : decode cX4_readOne 147 = .ok (.goto 4, 3) := by decide +kernel
theorem dX4_readOne_150 : decode cX4_readOne 150 = .ok (.iconst 0, 1) := by decide +kernel
theorem dX4_readOne_151 : decode cX4_readOne 151 = .ok (.ireturn, 1) := by decide +kernel
theorem dX4_readOne_152 : decode cX4_readOne 152 = .ok (.aload_n 0, 1) := by decide +kernel
theorem dX4_readOne_153 : decode cX4_readOne 153 = .ok (.iload_n 1, 1) := by decide +kernel
theorem dX4_readOne_154 : decode cX4_readOne 154 = .ok (.iconst 1, 1) := by decide +kernel
theorem dX4_readOne_155 : decode cX4_readOne 155 = .ok (.iadd, 1) := by decide +kernel
theorem dX4_readOne_156 : decode cX4_readOne 156 = .ok (.invokevirtual 78, 3) := by decide +kernel
theorem dX4_readOne_159 : decode cX4_readOne 159 = .ok (.istore_n 3, 1) := by decide +kernel
theorem dX4_readOne_160 : decode cX4_readOne 160 = .ok (.aload_n 0, 1) := by decide +kernel
theorem dX4_readOne_161 : decode cX4_readOne 161 = .ok (.bipush (-26), 2) := by decide +kernel
theorem dX4_readOne_163 : decode cX4_readOne 163 = .ok (.invokevirtual 62, 3) := by decide +kernel
theorem dX4_readOne_166 : decode cX4_readOne 166 = .ok (.iload_n 3, 1) := by decide +kernel
theorem dX4_readOne_167 : decode cX4_readOne 167 = .ok (.ireturn, 1) := by decide +kernel
theorem gX4_84 {p : Program} {l : Launch} {e : Env} {R : Room} {s : State} {m : MethodId} {args : Array Value} {below : List Frame} {meth : Method} {c : Code} {H : Heap} {locs : List Loc} {cells slots : Nat} {Q : State → Prop} {cc : ByteArray} {pc nL : Nat} {ls : Array Slot} {rest : List Value} {ret : Option FieldType} {G : xG} {β : Nat} {D : Nat → Prop} {x : XS} (C : Cx p s m args meth c RX4 cc nL ret (KK G)) (hw : CW β D G x H) (hd : decode cc pc = .ok (.getfield 84, 3)) (kk : W p l e R s m args below meth c H locs cells slots Q (F0 m (pc + 3) ls (.int (x.1 4 5) :: rest))) : W p l e R s m args below meth c H locs cells slots Q (F0 m pc ls (.ref (β + 4) :: rest)) :=
  va_getN C.1 C.2.1 C.2.2.2.2.1 iwX6 C.2.2.2.1 C.K.1 (xP1 (hw.2.2.1 4 (by decide))) 0 rfl rfl 5 (by decide) (va_Nw.use (w := .fieldLinkNest RX4 84 RX6 "number" "I" "AtThePost") rfl (C.K.2.1 (RX4, 84, RX6, "number", "I") (List.mem_of_getElem? (i := 3) rfl))) (fun _ h9 => h9) rfl hd kk
theorem sX4_81 {p : Program} {l : Launch} {e : Env} {R : Room} {s : State} {m : MethodId} {args : Array Value} {below : List Frame} {meth : Method} {c : Code} {H : Heap} {locs : List Loc} {cells slots : Nat} {Q : State → Prop} {cc : ByteArray} {pc nL : Nat} {ls : Array Slot} {rest : List Value} {ret : Option FieldType}  {G : xG} {β : Nat} {D : Nat → Prop} {x : XS} {a1 : Int32} {r : Bool} (C : Cx p s m args meth c RX4 cc nL ret (KK G)) (h : fX7_isName a1 = some r) (hw : CW β D G x H) (hS : va_S D s.heap H locs) (hsz : ls.size = nL) (hW : (rest.map fun v => v.category).sum ≤ 8) (hR : 1 ≤ R.frames) (hR2 : 20 ≤ R.locals) (hcs : cells ≤ R.cells ∧ slots ≤ R.slots) (hd : decode cc pc = .ok (.invokestatic 81, 3)) (kk : ∀ (H1 : Heap) (locs1 : List Loc), CW β D G x H1 → va_S D s.heap H1 locs1 → W p l e R s m args below meth c H1 locs1 cells slots Q (F0 m (pc + 3) ls (.int (bI r) :: rest))) : W p l e R s m args below meth c H locs cells slots Q (F0 m pc ls (.int a1 :: rest)) := by
  exact xcallS C (As := [.int a1]) (rest := rest) (nA := 1) (kX7_isName h) (tg 299 (by decide +kernel) rfl) (tg 300 (by decide +kernel) rfl) (tg 11 (by decide +kernel) rfl) (tg 301 (by decide +kernel) rfl) ⟨by decide +kernel, by decide +kernel, by decide +kernel⟩ rfl rfl ⟨hR, hR2⟩ hw hS (fun _ q => q) rfl rfl hsz hW hd hcs (fun H1 locs1 hw hz hk hS => kk H1 locs1 hw hS)
theorem sgX4_53 {p : Program} {l : Launch} {e : Env} {R : Room} {s : State} {m : MethodId} {args : Array Value} {below : List Frame} {meth : Method} {c : Code} {H : Heap} {locs : List Loc} {cells slots : Nat} {Q : State → Prop} {cc : ByteArray} {pc nL : Nat} {ls : Array Slot} {rest : List Value} {ret : Option FieldType} {G : xG} {β : Nat} {D : Nat → Prop} {x x' : XS} {a1 : Int32} {r : Bool} {rm : Room} (C : Cx p s m args meth c RX4 cc nL ret (KK G)) (hM : Met l yX4_readOr (.code yX4_readOr cX4_readOr 4 (some .boolean) :: GT) rm (PcW [.ref (β + 6), .int a1] (CW β D G x) (KK G)) (QcW D (some (.int (bI r))) (CW β D G x')) 0 0 D) (hrc : rm.cells = 0) (hrs : rm.slots = 0) (hw : CW β D G x H) (hS : va_S D s.heap H locs) (hsz : ls.size = nL) (hW : (rest.map fun v => v.category).sum ≤ 8) (hR : rm.frames + 1 ≤ R.frames) (hR2 : 23 + rm.locals ≤ R.locals) (hcs : cells ≤ R.cells ∧ slots ≤ R.slots) (hd : decode cc pc = .ok (.invokevirtual 53, 3)) (kk : ∀ (H1 : Heap) (locs1 : List Loc), CW β D G x' H1 → va_S D s.heap H1 locs1 → W p l e R s m args below meth c H1 locs1 cells slots Q (F0 m (pc + 3) ls (.int (bI r) :: rest))) : W p l e R s m args below meth c H locs cells slots Q (F0 m pc ls (.int a1 :: .ref (β + 6) :: rest)) :=
  xcallV C (As := [.int a1]) (rest := rest) (nA := 1) (ci := 4) hM (tg 271 (by decide +kernel) rfl) (tg 273 (by decide +kernel) rfl) (sg (List.mem_of_getElem? (i := 5) (by decide +kernel)) rfl) (tg 3 (by decide +kernel) rfl) (tg 274 (by decide +kernel) rfl) ⟨rfl, by decide +kernel, by decide +kernel, by decide +kernel⟩ rfl hrc hrs ⟨hR, hR2⟩ (hw.2.2.1 6 (by decide)) hw hS (fun _ q => q) rfl rfl hsz hW hd hcs (fun H1 locs1 hw hz hk hS => kk H1 locs1 hw hS)
theorem sX4_49 {p : Program} {l : Launch} {e : Env} {R : Room} {s : State} {m : MethodId} {args : Array Value} {below : List Frame} {meth : Method} {c : Code} {H : Heap} {locs : List Loc} {cells slots : Nat} {Q : State → Prop} {cc : ByteArray} {pc nL : Nat} {ls : Array Slot} {rest : List Value} {ret : Option FieldType}  {G : xG} {β : Nat} {D : Nat → Prop} {x x' : XS} {a1 : Int32} {r : Bool} (C : Cx p s m args meth c RX4 cc nL ret (KK G)) (h : fX4_passes x a1 = some (r, x')) (hw : CW β D G x H) (hS : va_S D s.heap H locs) (hsz : ls.size = nL) (hW : (rest.map fun v => v.category).sum ≤ 8) (hR : 8 ≤ R.frames) (hR2 : 168 ≤ R.locals) (hcs : cells ≤ R.cells ∧ slots ≤ R.slots) (hd : decode cc pc = .ok (.invokevirtual 49, 3)) (kk : ∀ (H1 : Heap) (locs1 : List Loc), CW β D G x' H1 → va_S D s.heap H1 locs1 → W p l e R s m args below meth c H1 locs1 cells slots Q (F0 m (pc + 3) ls (.int (bI r) :: rest))) : W p l e R s m args below meth c H locs cells slots Q (F0 m pc ls (.int a1 :: .ref (β + 6) :: rest)) := by
  exact xcallV C (As := [.int a1]) (rest := rest) (nA := 1) (ci := 4) (kX4_passes h) (tg 266 (by decide +kernel) rfl) (tg 268 (by decide +kernel) rfl) (sg (List.mem_of_getElem? (i := 4) (by decide +kernel)) rfl) (tg 3 (by decide +kernel) rfl) (tg 269 (by decide +kernel) rfl) ⟨rfl, by decide +kernel, by decide +kernel, by decide +kernel⟩ rfl rfl rfl ⟨hR, hR2⟩ (hw.2.2.1 6 (by decide)) hw hS (fun _ q => q) rfl rfl hsz hW hd hcs (fun H1 locs1 hw hz hk hS => kk H1 locs1 hw hS)
set_option maxHeartbeats 4000000 in
set_option maxRecDepth 100000 in
theorem kX4_readOne {l : Launch} {G : xG} {β : Nat} {D : Nat → Prop} {gn : Nat} (IH : GPGRd l G β D gn) {x x' : XS} {a1 : Int32} {r : Bool} (hm : fX4_readOne (GRd gn) x a1 = some (r, x')) : Met l yX4_readOne (.code yX4_readOne cX4_readOne 4 (some .boolean) :: GT) (rmGRd (gn + 1)) (PcW [.ref (β + 6), .int a1] (CW β D G x) (KK G)) (QcW D (some (.int (bI r))) (CW β D G x')) 0 0 D := by
  unfold fX4_readOne at hm
  refine xpro (own := RX4) (by decide +kernel) rfl (Nat.le_of_ble_eq_true rfl) ?_
  intro p e s m args below meth c C hw ls hl
  have hx := C.1
  have hb := C.2.1
  have ho := C.2.2.2.1
  have hts := C.2.2.2.2.1
  have hf : Fz D G s.heap := hw.2.2.2.2
  have hS : va_S D s.heap s.heap [] := va_S.rf
  have hl : lv_has ls 4 [(0, .ref (β + 6)), (1, .int a1)] := hl
  have hRf : (gn + 1 + 8) ≤ (rmGRd (gn + 1)).frames := Nat.le_refl _
  have hRl : ((gn + 1) * 24 + 168) ≤ (rmGRd (gn + 1)).locals := Nat.le_refl _
  have hcs : 0 ≤ (rmGRd (gn + 1)).cells ∧ 0 ≤ (rmGRd (gn + 1)).slots := ⟨Nat.le_refl _, Nat.le_refl _⟩
  refine lv_aload_n hx hb dX4_readOne_0 rfl (lv_at hl 0 rfl) ?_
  refine gX4_22 C hw dX4_readOne_1 ?_
  refine gX4_35 C hw dX4_readOne_4 ?_
  refine lv_bipush (v := (-34)) hx hb dX4_readOne_7 (by decide) ?_
  refine lv_icmp_eq (tgt := 25) hx hb dX4_readOne_9 (by decide) (fun cc => ?_) (fun cc => ?_)
  · replace hm := ite_p cc hm
    refine lv_aload_n hx hb dX4_readOne_25 rfl (lv_at hl 0 rfl) ?_
    refine lv_aload_n hx hb dX4_readOne_26 rfl (lv_at hl 0 rfl) ?_
    refine gX4_22 C hw dX4_readOne_27 ?_
    refine gX4_35 C hw dX4_readOne_30 ?_
    refine lv_bipush (v := (-34)) hx hb dX4_readOne_33 (by decide) ?_
    refine lv_icmp_ne (tgt := 48) hx hb dX4_readOne_35 (by decide) (fun cc => ?_) (fun cc => ?_)
    · replace hm := ite_n cc hm
      refine lv_aload_n hx hb dX4_readOne_48 rfl (lv_at hl 0 rfl) ?_
      refine gX4_22 C hw dX4_readOne_49 ?_
      refine gX4_35 C hw dX4_readOne_52 ?_
      obtain ⟨x1, h2, hm⟩ := bind_e hm
      refine sX4_62 C h2 hw hS hl.1 (Nat.le_of_ble_eq_true rfl) (by have := hRf; omega) (by have := hRl; omega) hcs dX4_readOne_55 (fun H locs hw hS => ?_)
      refine lv_aload_n hx hb dX4_readOne_58 rfl (lv_at hl 0 rfl) ?_
      refine gX4_22 C hw dX4_readOne_59 ?_
      obtain ⟨x3, h4, hm⟩ := bind_e hm
      refine sX4_59 C h4 hw hS hl.1 (Nat.le_of_ble_eq_true rfl) (by have := hRf; omega) (by have := hRl; omega) hcs dX4_readOne_62 (fun H locs hw hS => ?_)
      refine lv_iconst (v := 1) hx hb dX4_readOne_65 (by decide) ?_
      obtain ⟨rfl, rfl⟩ := inj2 hm
      exact xret_z (v := bI true) C (bI_nar _) hw hS dX4_readOne_66
    · replace hm := ite_p cc hm
      refine lv_aload_n hx hb dX4_readOne_38 rfl (lv_at hl 0 rfl) ?_
      refine gX4_22 C hw dX4_readOne_39 ?_
      refine gX4_84 C hw dX4_readOne_42 ?_
      refine lv_goto (tgt := 55) hx hb dX4_readOne_45 (by decide) ?_
      obtain ⟨x5, h6, hm⟩ := bind_e hm
      refine sX4_62 C h6 hw hS hl.1 (Nat.le_of_ble_eq_true rfl) (by have := hRf; omega) (by have := hRl; omega) hcs dX4_readOne_55 (fun H locs hw hS => ?_)
      refine lv_aload_n hx hb dX4_readOne_58 rfl (lv_at hl 0 rfl) ?_
      refine gX4_22 C hw dX4_readOne_59 ?_
      obtain ⟨x7, h8, hm⟩ := bind_e hm
      refine sX4_59 C h8 hw hS hl.1 (Nat.le_of_ble_eq_true rfl) (by have := hRf; omega) (by have := hRl; omega) hcs dX4_readOne_62 (fun H locs hw hS => ?_)
      refine lv_iconst (v := 1) hx hb dX4_readOne_65 (by decide) ?_
      obtain ⟨rfl, rfl⟩ := inj2 hm
      exact xret_z (v := bI true) C (bI_nar _) hw hS dX4_readOne_66
  · replace hm := ite_n cc hm
    refine lv_aload_n hx hb dX4_readOne_12 rfl (lv_at hl 0 rfl) ?_
    refine gX4_22 C hw dX4_readOne_13 ?_
    refine gX4_35 C hw dX4_readOne_16 ?_
    obtain ⟨v9, h10, hm⟩ := bind_e hm
    refine sX4_81 C h10 hw hS hl.1 (Nat.le_of_ble_eq_true rfl) (by have := hRf; omega) (by have := hRl; omega) hcs dX4_readOne_19 (fun H locs hw hS => ?_)
    refine x_ifeqB hx hb dX4_readOne_22 (tgt := 67) (by decide) (fun cc => ?_) (fun cc => ?_)
    · replace hm := ite_n cc hm
      refine lv_aload_n hx hb dX4_readOne_67 rfl (lv_at hl 0 rfl) ?_
      refine gX4_22 C hw dX4_readOne_68 ?_
      refine gX4_35 C hw dX4_readOne_71 ?_
      refine lv_bipush (v := (-22)) hx hb dX4_readOne_74 (by decide) ?_
      refine lv_icmp_eq (tgt := 91) hx hb dX4_readOne_76 (by decide) (fun cc => ?_) (fun cc => ?_)
      · replace hm := ite_p cc hm
        refine lv_iload_n hx hb dX4_readOne_91 rfl (lv_at hl 1 rfl) ?_
        refine lv_iconst (v := 5) hx hb dX4_readOne_92 (by decide) ?_
        refine lv_icmp_lt (tgt := 98) hx hb dX4_readOne_93 (by decide) (fun cc => ?_) (fun cc => ?_)
        · replace hm := ite_p cc hm
          refine lv_aload_n hx hb dX4_readOne_98 rfl (lv_at hl 0 rfl) ?_
          refine gX4_22 C hw dX4_readOne_99 ?_
          refine gX4_35 C hw dX4_readOne_102 ?_
          refine lv_bipush (v := (-31)) hx hb dX4_readOne_105 (by decide) ?_
          obtain ⟨v11, hj, hm⟩ := bind_e hm
          have kk : ∀ (H : Heap) (locs : List Loc) (ls : Array Slot), CW β D G x H → va_S D s.heap H locs → lv_has ls 4 [(0, .ref (β + 6)), (1, .int a1)] → W p l e (rmGRd (gn + 1)) s m args below meth c H locs 0 0 (MQ below (QcW D (some (.int (bI r))) (CW β D G x')) args s 0 0 D) (F0 m 115 ls [.int (bI v11)]) := by
            intro H locs ls hw hS hl
            refine lv_istore_n (lv' := [(2, .int (bI v11)), (0, .ref (β + 6)), (1, .int a1)]) hx hb dX4_readOne_115 rfl hl (by decide) rfl (fun ls hl => ?_)
            refine lv_aload_n hx hb dX4_readOne_116 rfl (lv_at hl 1 rfl) ?_
            refine gX4_22 C hw dX4_readOne_117 ?_
            obtain ⟨x12, h13, hm⟩ := bind_e hm
            refine sX4_59 C h13 hw hS hl.1 (Nat.le_of_ble_eq_true rfl) (by have := hRf; omega) (by have := hRl; omega) hcs dX4_readOne_120 (fun H locs hw hS => ?_)
            refine lv_iload_n hx hb dX4_readOne_123 rfl (lv_at hl 0 rfl) ?_
            refine x_ifeqB hx hb dX4_readOne_124 (tgt := 152) (by decide) (fun cc => ?_) (fun cc => ?_)
            · replace hm := ite_n cc hm
              refine lv_aload_n hx hb dX4_readOne_152 rfl (lv_at hl 1 rfl) ?_
              refine lv_iload_n hx hb dX4_readOne_153 rfl (lv_at hl 2 rfl) ?_
              refine lv_iconst (v := 1) hx hb dX4_readOne_154 (by decide) ?_
              refine lv_iadd hx hb dX4_readOne_155 ?_
              obtain ⟨v14, x15, h16, hm⟩ := bind2_e hm
              refine sgX4_78 C (IH.2.2.2.2.2.2 _ _ _ _ h16) rfl rfl hw hS hl.1 (Nat.le_of_ble_eq_true rfl) (by have := hRf; show gn + 8 + 1 ≤ _; omega) (by have := hRl; show 23 + (gn * 24 + 168) ≤ _; omega) hcs dX4_readOne_156 (fun H locs hw hS => ?_)
              refine lv_istore_n (lv' := [(3, .int (bI v14)), (2, .int (bI v11)), (0, .ref (β + 6)), (1, .int a1)]) hx hb dX4_readOne_159 rfl hl (by decide) rfl (fun ls hl => ?_)
              refine lv_aload_n hx hb dX4_readOne_160 rfl (lv_at hl 2 rfl) ?_
              refine lv_bipush (v := (-26)) hx hb dX4_readOne_161 (by decide) ?_
              obtain ⟨x17, h18, hm⟩ := bind_e hm
              refine sX4_62 C h18 hw hS hl.1 (Nat.le_of_ble_eq_true rfl) (by have := hRf; omega) (by have := hRl; omega) hcs dX4_readOne_163 (fun H locs hw hS => ?_)
              refine lv_iload_n hx hb dX4_readOne_166 rfl (lv_at hl 0 rfl) ?_
              obtain ⟨rfl, rfl⟩ := inj2 hm
              exact xret_z C (bI_nar _) hw hS dX4_readOne_167
            · replace hm := ite_p cc hm
              refine lv_aload_n hx hb dX4_readOne_127 rfl (lv_at hl 1 rfl) ?_
              refine lv_iload_n hx hb dX4_readOne_128 rfl (lv_at hl 2 rfl) ?_
              refine lv_iconst (v := 1) hx hb dX4_readOne_129 (by decide) ?_
              refine lv_iadd hx hb dX4_readOne_130 ?_
              obtain ⟨v19, x20, h21, hm⟩ := bind2_e hm
              refine sgX4_53 C (IH.1 _ _ _ _ h21) rfl rfl hw hS hl.1 (Nat.le_of_ble_eq_true rfl) (by have := hRf; show gn + 8 + 1 ≤ _; omega) (by have := hRl; show 23 + (gn * 24 + 168) ≤ _; omega) hcs dX4_readOne_131 (fun H locs hw hS => ?_)
              refine x_ifeqB hx hb dX4_readOne_134 (tgt := 150) (by decide) (fun cc => ?_) (fun cc => ?_)
              · replace hm := ite_n cc hm
                refine lv_iconst (v := 0) hx hb dX4_readOne_150 (by decide) ?_
                obtain ⟨rfl, rfl⟩ := inj2 hm
                exact xret_z (v := bI false) C (bI_nar _) hw hS dX4_readOne_151
              · replace hm := ite_p cc hm
                refine lv_aload_n hx hb dX4_readOne_137 rfl (lv_at hl 1 rfl) ?_
                refine lv_bipush (v := (-32)) hx hb dX4_readOne_138 (by decide) ?_
                obtain ⟨v22, x23, h24, hm⟩ := bind2_e hm
                refine sX4_49 C h24 hw hS hl.1 (Nat.le_of_ble_eq_true rfl) (by have := hRf; omega) (by have := hRl; omega) hcs dX4_readOne_140 (fun H locs hw hS => ?_)
                refine x_ifeqB hx hb dX4_readOne_143 (tgt := 150) (by decide) (fun cc => ?_) (fun cc => ?_)
                · replace hm := ite_n cc hm
                  refine lv_iconst (v := 0) hx hb dX4_readOne_150 (by decide) ?_
                  obtain ⟨rfl, rfl⟩ := inj2 hm
                  exact xret_z (v := bI false) C (bI_nar _) hw hS dX4_readOne_151
                · replace hm := ite_p cc hm
                  refine lv_iconst (v := 1) hx hb dX4_readOne_146 (by decide) ?_
                  refine lv_goto (tgt := 151) hx hb dX4_readOne_147 (by decide) ?_
                  obtain ⟨rfl, rfl⟩ := inj2 hm
                  exact xret_z (v := bI true) C (bI_nar _) hw hS dX4_readOne_151
          clear hm
          replace hm := hj
          clear hj
          refine lv_icmp_ne (tgt := 114) hx hb dX4_readOne_107 (by decide) (fun cc => ?_) (fun cc => ?_)
          · replace hm := ite_n cc hm
            refine lv_iconst (v := 0) hx hb dX4_readOne_114 (by decide) ?_
            obtain rfl := Option.some.inj hm
            exact kk _ _ _ hw hS (lv_sub hl [0, 1] rfl)
          · replace hm := ite_p cc hm
            refine lv_iconst (v := 1) hx hb dX4_readOne_110 (by decide) ?_
            refine lv_goto (tgt := 115) hx hb dX4_readOne_111 (by decide) ?_
            obtain rfl := Option.some.inj hm
            exact kk _ _ _ hw hS (lv_sub hl [0, 1] rfl)
        · replace hm := ite_n cc hm
          refine lv_iconst (v := 0) hx hb dX4_readOne_96 (by decide) ?_
          obtain ⟨rfl, rfl⟩ := inj2 hm
          exact xret_z (v := bI false) C (bI_nar _) hw hS dX4_readOne_97
      · replace hm := ite_n cc hm
        refine lv_aload_n hx hb dX4_readOne_79 rfl (lv_at hl 0 rfl) ?_
        refine gX4_22 C hw dX4_readOne_80 ?_
        refine gX4_35 C hw dX4_readOne_83 ?_
        refine lv_bipush (v := (-31)) hx hb dX4_readOne_86 (by decide) ?_
        refine lv_icmp_ne (tgt := 96) hx hb dX4_readOne_88 (by decide) (fun cc => ?_) (fun cc => ?_)
        · replace hm := ite_n cc hm
          refine lv_iconst (v := 0) hx hb dX4_readOne_96 (by decide) ?_
          obtain ⟨rfl, rfl⟩ := inj2 hm
          exact xret_z (v := bI false) C (bI_nar _) hw hS dX4_readOne_97
        · replace hm := ite_p cc hm
          refine lv_iload_n hx hb dX4_readOne_91 rfl (lv_at hl 1 rfl) ?_
          refine lv_iconst (v := 5) hx hb dX4_readOne_92 (by decide) ?_
          refine lv_icmp_lt (tgt := 98) hx hb dX4_readOne_93 (by decide) (fun cc => ?_) (fun cc => ?_)
          · replace hm := ite_p cc hm
            refine lv_aload_n hx hb dX4_readOne_98 rfl (lv_at hl 0 rfl) ?_
            refine gX4_22 C hw dX4_readOne_99 ?_
            refine gX4_35 C hw dX4_readOne_102 ?_
            refine lv_bipush (v := (-31)) hx hb dX4_readOne_105 (by decide) ?_
            obtain ⟨v25, hj, hm⟩ := bind_e hm
            have kk : ∀ (H : Heap) (locs : List Loc) (ls : Array Slot), CW β D G x H → va_S D s.heap H locs → lv_has ls 4 [(0, .ref (β + 6)), (1, .int a1)] → W p l e (rmGRd (gn + 1)) s m args below meth c H locs 0 0 (MQ below (QcW D (some (.int (bI r))) (CW β D G x')) args s 0 0 D) (F0 m 115 ls [.int (bI v25)]) := by
              intro H locs ls hw hS hl
              refine lv_istore_n (lv' := [(2, .int (bI v25)), (0, .ref (β + 6)), (1, .int a1)]) hx hb dX4_readOne_115 rfl hl (by decide) rfl (fun ls hl => ?_)
              refine lv_aload_n hx hb dX4_readOne_116 rfl (lv_at hl 1 rfl) ?_
              refine gX4_22 C hw dX4_readOne_117 ?_
              obtain ⟨x26, h27, hm⟩ := bind_e hm
              refine sX4_59 C h27 hw hS hl.1 (Nat.le_of_ble_eq_true rfl) (by have := hRf; omega) (by have := hRl; omega) hcs dX4_readOne_120 (fun H locs hw hS => ?_)
              refine lv_iload_n hx hb dX4_readOne_123 rfl (lv_at hl 0 rfl) ?_
              refine x_ifeqB hx hb dX4_readOne_124 (tgt := 152) (by decide) (fun cc => ?_) (fun cc => ?_)
              · replace hm := ite_n cc hm
                refine lv_aload_n hx hb dX4_readOne_152 rfl (lv_at hl 1 rfl) ?_
                refine lv_iload_n hx hb dX4_readOne_153 rfl (lv_at hl 2 rfl) ?_
                refine lv_iconst (v := 1) hx hb dX4_readOne_154 (by decide) ?_
                refine lv_iadd hx hb dX4_readOne_155 ?_
                obtain ⟨v28, x29, h30, hm⟩ := bind2_e hm
                refine sgX4_78 C (IH.2.2.2.2.2.2 _ _ _ _ h30) rfl rfl hw hS hl.1 (Nat.le_of_ble_eq_true rfl) (by have := hRf; show gn + 8 + 1 ≤ _; omega) (by have := hRl; show 23 + (gn * 24 + 168) ≤ _; omega) hcs dX4_readOne_156 (fun H locs hw hS => ?_)
                refine lv_istore_n (lv' := [(3, .int (bI v28)), (2, .int (bI v25)), (0, .ref (β + 6)), (1, .int a1)]) hx hb dX4_readOne_159 rfl hl (by decide) rfl (fun ls hl => ?_)
                refine lv_aload_n hx hb dX4_readOne_160 rfl (lv_at hl 2 rfl) ?_
                refine lv_bipush (v := (-26)) hx hb dX4_readOne_161 (by decide) ?_
                obtain ⟨x31, h32, hm⟩ := bind_e hm
                refine sX4_62 C h32 hw hS hl.1 (Nat.le_of_ble_eq_true rfl) (by have := hRf; omega) (by have := hRl; omega) hcs dX4_readOne_163 (fun H locs hw hS => ?_)
                refine lv_iload_n hx hb dX4_readOne_166 rfl (lv_at hl 0 rfl) ?_
                obtain ⟨rfl, rfl⟩ := inj2 hm
                exact xret_z C (bI_nar _) hw hS dX4_readOne_167
              · replace hm := ite_p cc hm
                refine lv_aload_n hx hb dX4_readOne_127 rfl (lv_at hl 1 rfl) ?_
                refine lv_iload_n hx hb dX4_readOne_128 rfl (lv_at hl 2 rfl) ?_
                refine lv_iconst (v := 1) hx hb dX4_readOne_129 (by decide) ?_
                refine lv_iadd hx hb dX4_readOne_130 ?_
                obtain ⟨v33, x34, h35, hm⟩ := bind2_e hm
                refine sgX4_53 C (IH.1 _ _ _ _ h35) rfl rfl hw hS hl.1 (Nat.le_of_ble_eq_true rfl) (by have := hRf; show gn + 8 + 1 ≤ _; omega) (by have := hRl; show 23 + (gn * 24 + 168) ≤ _; omega) hcs dX4_readOne_131 (fun H locs hw hS => ?_)
                refine x_ifeqB hx hb dX4_readOne_134 (tgt := 150) (by decide) (fun cc => ?_) (fun cc => ?_)
                · replace hm := ite_n cc hm
                  refine lv_iconst (v := 0) hx hb dX4_readOne_150 (by decide) ?_
                  obtain ⟨rfl, rfl⟩ := inj2 hm
                  exact xret_z (v := bI false) C (bI_nar _) hw hS dX4_readOne_151
                · replace hm := ite_p cc hm
                  refine lv_aload_n hx hb dX4_readOne_137 rfl (lv_at hl 1 rfl) ?_
                  refine lv_bipush (v := (-32)) hx hb dX4_readOne_138 (by decide) ?_
                  obtain ⟨v36, x37, h38, hm⟩ := bind2_e hm
                  refine sX4_49 C h38 hw hS hl.1 (Nat.le_of_ble_eq_true rfl) (by have := hRf; omega) (by have := hRl; omega) hcs dX4_readOne_140 (fun H locs hw hS => ?_)
                  refine x_ifeqB hx hb dX4_readOne_143 (tgt := 150) (by decide) (fun cc => ?_) (fun cc => ?_)
                  · replace hm := ite_n cc hm
                    refine lv_iconst (v := 0) hx hb dX4_readOne_150 (by decide) ?_
                    obtain ⟨rfl, rfl⟩ := inj2 hm
                    exact xret_z (v := bI false) C (bI_nar _) hw hS dX4_readOne_151
                  · replace hm := ite_p cc hm
                    refine lv_iconst (v := 1) hx hb dX4_readOne_146 (by decide) ?_
                    refine lv_goto (tgt := 151) hx hb dX4_readOne_147 (by decide) ?_
                    obtain ⟨rfl, rfl⟩ := inj2 hm
                    exact xret_z (v := bI true) C (bI_nar _) hw hS dX4_readOne_151
            clear hm
            replace hm := hj
            clear hj
            refine lv_icmp_ne (tgt := 114) hx hb dX4_readOne_107 (by decide) (fun cc => ?_) (fun cc => ?_)
            · replace hm := ite_n cc hm
              refine lv_iconst (v := 0) hx hb dX4_readOne_114 (by decide) ?_
              obtain rfl := Option.some.inj hm
              exact kk _ _ _ hw hS (lv_sub hl [0, 1] rfl)
            · replace hm := ite_p cc hm
              refine lv_iconst (v := 1) hx hb dX4_readOne_110 (by decide) ?_
              refine lv_goto (tgt := 115) hx hb dX4_readOne_111 (by decide) ?_
              obtain rfl := Option.some.inj hm
              exact kk _ _ _ hw hS (lv_sub hl [0, 1] rfl)
          · replace hm := ite_n cc hm
            refine lv_iconst (v := 0) hx hb dX4_readOne_96 (by decide) ?_
            obtain ⟨rfl, rfl⟩ := inj2 hm
            exact xret_z (v := bI false) C (bI_nar _) hw hS dX4_readOne_97
    · replace hm := ite_p cc hm
      refine lv_aload_n hx hb dX4_readOne_25 rfl (lv_at hl 0 rfl) ?_
      refine lv_aload_n hx hb dX4_readOne_26 rfl (lv_at hl 0 rfl) ?_
      refine gX4_22 C hw dX4_readOne_27 ?_
      refine gX4_35 C hw dX4_readOne_30 ?_
      refine lv_bipush (v := (-34)) hx hb dX4_readOne_33 (by decide) ?_
      refine lv_icmp_ne (tgt := 48) hx hb dX4_readOne_35 (by decide) (fun cc => ?_) (fun cc => ?_)
      · replace hm := ite_n cc hm
        refine lv_aload_n hx hb dX4_readOne_48 rfl (lv_at hl 0 rfl) ?_
        refine gX4_22 C hw dX4_readOne_49 ?_
        refine gX4_35 C hw dX4_readOne_52 ?_
        obtain ⟨x39, h40, hm⟩ := bind_e hm
        refine sX4_62 C h40 hw hS hl.1 (Nat.le_of_ble_eq_true rfl) (by have := hRf; omega) (by have := hRl; omega) hcs dX4_readOne_55 (fun H locs hw hS => ?_)
        refine lv_aload_n hx hb dX4_readOne_58 rfl (lv_at hl 0 rfl) ?_
        refine gX4_22 C hw dX4_readOne_59 ?_
        obtain ⟨x41, h42, hm⟩ := bind_e hm
        refine sX4_59 C h42 hw hS hl.1 (Nat.le_of_ble_eq_true rfl) (by have := hRf; omega) (by have := hRl; omega) hcs dX4_readOne_62 (fun H locs hw hS => ?_)
        refine lv_iconst (v := 1) hx hb dX4_readOne_65 (by decide) ?_
        obtain ⟨rfl, rfl⟩ := inj2 hm
        exact xret_z (v := bI true) C (bI_nar _) hw hS dX4_readOne_66
      · replace hm := ite_p cc hm
        refine lv_aload_n hx hb dX4_readOne_38 rfl (lv_at hl 0 rfl) ?_
        refine gX4_22 C hw dX4_readOne_39 ?_
        refine gX4_84 C hw dX4_readOne_42 ?_
        refine lv_goto (tgt := 55) hx hb dX4_readOne_45 (by decide) ?_
        obtain ⟨x43, h44, hm⟩ := bind_e hm
        refine sX4_62 C h44 hw hS hl.1 (Nat.le_of_ble_eq_true rfl) (by have := hRf; omega) (by have := hRl; omega) hcs dX4_readOne_55 (fun H locs hw hS => ?_)
        refine lv_aload_n hx hb dX4_readOne_58 rfl (lv_at hl 0 rfl) ?_
        refine gX4_22 C hw dX4_readOne_59 ?_
        obtain ⟨x45, h46, hm⟩ := bind_e hm
        refine sX4_59 C h46 hw hS hl.1 (Nat.le_of_ble_eq_true rfl) (by have := hRf; omega) (by have := hRl; omega) hcs dX4_readOne_62 (fun H locs hw hS => ?_)
        refine lv_iconst (v := 1) hx hb dX4_readOne_65 (by decide) ?_
        obtain ⟨rfl, rfl⟩ := inj2 hm
        exact xret_z (v := bI true) C (bI_nar _) hw hS dX4_readOne_66
theorem okGRd (l : Launch) (G : xG) (β : Nat) (D : Nat → Prop) : ∀ n, GPGRd l G β D n
  | 0 => by unfold GPGRd; exact ⟨(fun _ _ _ _ h => (by cases h)), (fun _ _ _ _ h => (by cases h)), (fun _ _ _ _ h => (by cases h)), (fun _ _ _ _ h => (by cases h)), (fun _ _ _ _ h => (by cases h)), (fun _ _ _ _ h => (by cases h)), (fun _ _ _ _ h => (by cases h))⟩
  | n + 1 => by
    have IH := okGRd l G β D n
    unfold GPGRd
    exact ⟨(fun _ _ _ _ h => kX4_readOr IH h), (fun _ _ _ _ h => kX4_readAnd IH h), (fun _ _ _ _ h => kX4_readNot IH h), (fun _ _ _ _ h => kX4_readCompared IH h), (fun _ _ _ _ h => kX4_readSum IH h), (fun _ _ _ _ h => kX4_readTerm IH h), (fun _ _ _ _ h => kX4_readOne IH h)⟩
theorem kgX4_readOr {l : Launch} {G : xG} {β : Nat} {D : Nat → Prop} {x x' : XS} {a1 : Int32} {r : Bool} (hm : GRd MF 0 x a1 = some (r, x')) : Met l yX4_readOr (.code yX4_readOr cX4_readOr 4 (some .boolean) :: GT) (rmGRd MF) (PcW [.ref (β + 6), .int a1] (CW β D G x) (KK G)) (QcW D (some (.int (bI r))) (CW β D G x')) 0 0 D := (okGRd l G β D MF).1 _ _ _ _ hm
theorem kgX4_readAnd {l : Launch} {G : xG} {β : Nat} {D : Nat → Prop} {x x' : XS} {a1 : Int32} {r : Bool} (hm : GRd MF 1 x a1 = some (r, x')) : Met l yX4_readAnd (.code yX4_readAnd cX4_readAnd 4 (some .boolean) :: GT) (rmGRd MF) (PcW [.ref (β + 6), .int a1] (CW β D G x) (KK G)) (QcW D (some (.int (bI r))) (CW β D G x')) 0 0 D := (okGRd l G β D MF).2.1 _ _ _ _ hm
theorem kgX4_readNot {l : Launch} {G : xG} {β : Nat} {D : Nat → Prop} {x x' : XS} {a1 : Int32} {r : Bool} (hm : GRd MF 2 x a1 = some (r, x')) : Met l yX4_readNot (.code yX4_readNot cX4_readNot 3 (some .boolean) :: GT) (rmGRd MF) (PcW [.ref (β + 6), .int a1] (CW β D G x) (KK G)) (QcW D (some (.int (bI r))) (CW β D G x')) 0 0 D := (okGRd l G β D MF).2.2.1 _ _ _ _ hm
theorem kgX4_readCompared {l : Launch} {G : xG} {β : Nat} {D : Nat → Prop} {x x' : XS} {a1 : Int32} {r : Bool} (hm : GRd MF 3 x a1 = some (r, x')) : Met l yX4_readCompared (.code yX4_readCompared cX4_readCompared 4 (some .boolean) :: GT) (rmGRd MF) (PcW [.ref (β + 6), .int a1] (CW β D G x) (KK G)) (QcW D (some (.int (bI r))) (CW β D G x')) 0 0 D := (okGRd l G β D MF).2.2.2.1 _ _ _ _ hm
theorem kgX4_readSum {l : Launch} {G : xG} {β : Nat} {D : Nat → Prop} {x x' : XS} {a1 : Int32} {r : Bool} (hm : GRd MF 4 x a1 = some (r, x')) : Met l yX4_readSum (.code yX4_readSum cX4_readSum 5 (some .boolean) :: GT) (rmGRd MF) (PcW [.ref (β + 6), .int a1] (CW β D G x) (KK G)) (QcW D (some (.int (bI r))) (CW β D G x')) 0 0 D := (okGRd l G β D MF).2.2.2.2.1 _ _ _ _ hm
theorem kgX4_readTerm {l : Launch} {G : xG} {β : Nat} {D : Nat → Prop} {x x' : XS} {a1 : Int32} {r : Bool} (hm : GRd MF 5 x a1 = some (r, x')) : Met l yX4_readTerm (.code yX4_readTerm cX4_readTerm 4 (some .boolean) :: GT) (rmGRd MF) (PcW [.ref (β + 6), .int a1] (CW β D G x) (KK G)) (QcW D (some (.int (bI r))) (CW β D G x')) 0 0 D := (okGRd l G β D MF).2.2.2.2.2.1 _ _ _ _ hm
theorem kgX4_readOne {l : Launch} {G : xG} {β : Nat} {D : Nat → Prop} {x x' : XS} {a1 : Int32} {r : Bool} (hm : GRd MF 6 x a1 = some (r, x')) : Met l yX4_readOne (.code yX4_readOne cX4_readOne 4 (some .boolean) :: GT) (rmGRd MF) (PcW [.ref (β + 6), .int a1] (CW β D G x) (KK G)) (QcW D (some (.int (bI r))) (CW β D G x')) 0 0 D := (okGRd l G β D MF).2.2.2.2.2.2 _ _ _ _ hm
