/-! CONSTRUCTORS: cells known one by one, from β on -/
def LW (β : Nat) (G : xG) (es : List va_E) (H : Heap) : Prop := H.size = β + es.length ∧ ∀ (k : Nat) (e : va_E), es[k]? = some e → va_at G.1 vwCl (β + k, e) H
theorem LW.set {β : Nat} {G : xG} {es : List va_E} {H H1 : Heap} (h : LW β G es H) (k : Nat) {e : va_E} (hk : k < es.length) (hat : va_at G.1 vwCl (β + k, e) H1) (ho : xOff (β + k) H H1) : LW β G (es.set k e) H1 := by
  refine ⟨by rw [List.length_set]; exact ho.1.trans h.1, fun j d hd => ?_⟩
  by_cases q : j = k
  · subst q
    rw [List.getElem?_set_self hk] at hd
    cases hd
    exact hat
  · rw [List.getElem?_set_ne (Ne.symm q)] at hd
    exact (h.2 j d hd).kept (ho.2 _ (fun z => q (Nat.add_left_cancel z)))
theorem LW.push {β : Nat} {G : xG} {es : List va_E} {H H1 : Heap} (h : LW β G es H) {e : va_E} (hat : va_at G.1 vwCl (H.size, e) H1) (ho : xNew H H1) : LW β G (es ++ [e]) H1 := by
  refine ⟨by rw [List.length_append]; have := h.1; have := ho.1; simp only [List.length_singleton]; omega, fun j d hd => ?_⟩
  by_cases q : j < es.length
  · rw [List.getElem?_append_left q] at hd
    have := h.2 j d hd
    exact this.kept (ho.2 _ this.lt)
  · rw [List.getElem?_append_right (by omega)] at hd
    have hz : j - es.length < 1 := (List.getElem?_eq_some_iff.mp hd).1
    have hj : j = es.length := by omega
    subst hj
    rw [Nat.sub_self] at hd
    cases hd
    rw [← h.1]
    exact hat
theorem Fz.keep {D : Nat → Prop} {G : xG} {H0 H : Heap} {locs : List Loc} (h : Fz D G H0) (hS : va_S D H0 H locs) (hB : G.2.2.2.1 ≤ H0.size) : Fz D G H := ⟨h.1, fun a ha => (hS.2.1 a (by omega) (fun z => by have := h.1 a z; omega)).trans (h.2 a ha)⟩
section XR5
variable {p : Program} {l : Launch} {e : Env} {R : Room} {s : State} {m : MethodId} {args : Array Value} {below : List Frame} {meth : Method} {c : Code} {H : Heap} {locs : List Loc} {cells slots : Nat} {Q : State → Prop}
variable {cc : ByteArray} {pc nL : Nat} {ls : Array Slot} {rest : List Value} {D : va_G} {cl : List vw_C} {A : Nat → Prop} {a : Nat} {tys : List (ClassId × FieldType)} {H0 : Heap}
theorem x_newa_char {G : xG} (hexec : p.tables.exec = Jvm.exec) (hb : c.code = cc) (harr : (Cond.arrayClass .char).before args s = true) (hK : KK G s) (hS : va_S A H0 H locs) {n : Int32} {N : Nat} (hn : ¬ n < 0) (hN : n.toNatClampNeg = N) (hbytes : N * componentBytes .char ≤ 536870912) (hcells : cells + 1 ≤ R.cells) (hslots : slots + N ≤ R.slots) (hdg : decode cc pc = .ok (.newarray .char, 2))
    (kk : ∀ (H1 : Heap), va_at G.1 cl (H.size, .inl (G.2.1 2, N, .inl (fun _ => 0))) H1 → xNew H H1 → va_S A H0 H1 locs → W p l e R s m args below meth c H1 locs (cells + 1) (slots + N) Q (F0 m (pc + 2) ls (.ref H.size :: rest))) : W p l e R s m args below meth c H locs cells slots Q (F0 m pc ls (.int n :: rest)) := by
  refine va_newaK (atype := .char) hexec hb harr rfl hdg rfl hn hN hbytes hcells hslots rfl (fun H1 cA e1 z1 o1 hAr hNm => ?_)
  have h0 : cA = G.2.1 2 := by
    have h1 := (hK.1.2 2 _ rfl).2
    exact Option.some.inj (hNm.symm.trans h1)
  subst h0
  exact kk H1 e1 ⟨z1, o1⟩ ⟨Nat.le_trans hS.1 (by omega), fun x h1 h2 => (o1 x (Nat.lt_of_lt_of_le h1 hS.1)).trans (hS.2.1 x h1 h2), hS.2.2⟩
theorem x_newa_long {G : xG} (hexec : p.tables.exec = Jvm.exec) (hb : c.code = cc) (harr : (Cond.arrayClass .long).before args s = true) (hK : KK G s) (hS : va_S A H0 H locs) {n : Int32} {N : Nat} (hn : ¬ n < 0) (hN : n.toNatClampNeg = N) (hbytes : N * componentBytes .long ≤ 536870912) (hcells : cells + 1 ≤ R.cells) (hslots : slots + N ≤ R.slots) (hdg : decode cc pc = .ok (.newarray .long, 2))
    (kk : ∀ (H1 : Heap), va_at G.1 cl (H.size, .inl (G.2.1 1, N, .inr (.inl (fun _ => 0)))) H1 → xNew H H1 → va_S A H0 H1 locs → W p l e R s m args below meth c H1 locs (cells + 1) (slots + N) Q (F0 m (pc + 2) ls (.ref H.size :: rest))) : W p l e R s m args below meth c H locs cells slots Q (F0 m pc ls (.int n :: rest)) := by
  refine va_newaK (atype := .long) hexec hb harr rfl hdg rfl hn hN hbytes hcells hslots rfl (fun H1 cA e1 z1 o1 hAr hNm => ?_)
  have h0 : cA = G.2.1 1 := by
    have h1 := (hK.1.2 1 _ rfl).2
    exact Option.some.inj (hNm.symm.trans h1)
  subst h0
  exact kk H1 e1 ⟨z1, o1⟩ ⟨Nat.le_trans hS.1 (by omega), fun x h1 h2 => (o1 x (Nat.lt_of_lt_of_le h1 hS.1)).trans (hS.2.1 x h1 h2), hS.2.2⟩
theorem x_newa_boolean {G : xG} (hexec : p.tables.exec = Jvm.exec) (hb : c.code = cc) (harr : (Cond.arrayClass .boolean).before args s = true) (hK : KK G s) (hS : va_S A H0 H locs) {n : Int32} {N : Nat} (hn : ¬ n < 0) (hN : n.toNatClampNeg = N) (hbytes : N * componentBytes .boolean ≤ 536870912) (hcells : cells + 1 ≤ R.cells) (hslots : slots + N ≤ R.slots) (hdg : decode cc pc = .ok (.newarray .boolean, 2))
    (kk : ∀ (H1 : Heap), va_at G.1 cl (H.size, .inl (G.2.1 3, N, .inl (fun _ => 0))) H1 → xNew H H1 → va_S A H0 H1 locs → W p l e R s m args below meth c H1 locs (cells + 1) (slots + N) Q (F0 m (pc + 2) ls (.ref H.size :: rest))) : W p l e R s m args below meth c H locs cells slots Q (F0 m pc ls (.int n :: rest)) := by
  refine va_newaK (atype := .boolean) hexec hb harr rfl hdg rfl hn hN hbytes hcells hslots rfl (fun H1 cA e1 z1 o1 hAr hNm => ?_)
  have h0 : cA = G.2.1 3 := by
    have h1 := (hK.1.2 3 _ rfl).2
    exact Option.some.inj (hNm.symm.trans h1)
  subst h0
  exact kk H1 e1 ⟨z1, o1⟩ ⟨Nat.le_trans hS.1 (by omega), fun x h1 h2 => (o1 x (Nat.lt_of_lt_of_le h1 hS.1)).trans (hS.2.1 x h1 h2), hS.2.2⟩
theorem x_newq {G : xG} (hexec : p.tables.exec = Jvm.exec) (hb : c.code = cc) {own C : String} {index t0 : Nat} (hown : s.vm.findClass own = some m.cls) (hclink : (Cond.classLink own index C).before args s = true) (hover : (Cond.arrayOver (.object C)).before args s = true) (hK : KK G s) (ht : (tysG G.2.1)[t0]? = some (G.2.1 t0, .object C)) (hS : va_S A H0 H locs) {n : Int32} {N : Nat} (hn : ¬ n < 0) (hN : n.toNatClampNeg = N) (hbytes : N * 4 ≤ 536870912) (hcells : cells + 1 ≤ R.cells) (hslots : slots + N ≤ R.slots) (hdg : decode cc pc = .ok (.anewarray index, 3))
    (kk : ∀ (H1 : Heap), va_at G.1 cl (H.size, .inl (G.2.1 t0, N, .inr (.inr (.inr (.inr (fun _ => none)))))) H1 → xNew H H1 → va_S A H0 H1 locs → W p l e R s m args below meth c H1 locs (cells + 1) (slots + N) Q (F0 m (pc + 3) ls (.ref H.size :: rest))) : W p l e R s m args below meth c H locs cells slots Q (F0 m pc ls (.int n :: rest)) := by
  subst hN
  refine W.anew hexec hb hown hclink hover rfl hdg rfl hn hbytes hcells hslots fun cA kA comp f1 f2 f3 f4 => ?_
  have h0 : cA = G.2.1 t0 := by
    obtain ⟨kA', comp', g1, g2, g3, g4⟩ := (hK.1.2 t0 _ ht).2
    exact Option.some.inj (f1.symm.trans g4)
  subst h0
  generalize hH1 : H.push ({ cls := G.2.1 t0, slots := Array.replicate n.toNatClampNeg .null, vm := .none } : Cell) = H1
  have z1 : H1.size = H.size + 1 := by rw [← hH1, Array.size_push]
  have e1 : H1[H.size]? = some (arrV (G.2.1 t0) n.toNatClampNeg (fun _ => .null)) := by rw [← hH1, Array.getElem?_push_size, ← arrV_new]
  have o1 : ∀ q : Nat, q < H.size → H1[q]? = H[q]? := fun q hq => by rw [← hH1, Array.getElem?_push, if_neg (Nat.ne_of_lt hq)]
  exact kk H1 (by show H1[H.size]? = some (vp_cell _ _); rw [vp_cell_q]; exact e1) ⟨z1, o1⟩ ⟨Nat.le_trans hS.1 (by omega), fun x h1 h2 => (o1 x (Nat.lt_of_lt_of_le h1 hS.1)).trans (hS.2.1 x h1 h2), hS.2.2⟩
end XR5
section XR6
variable {p : Program} {l : Launch} {e : Env} {R : Room} {s : State} {m : MethodId} {args : Array Value} {below : List Frame} {meth : Method} {c : Code} {H : Heap} {locs : List Loc} {cells slots : Nat} {Q : State → Prop}
variable {cc : ByteArray} {pc nL : Nat} {ls : Array Slot} {rest : List Value} {A : Nat → Prop} {a : Nat} {ret : Option FieldType} {own : String} {G : xG} {P P' : Heap → Prop}
theorem xcallIN {y : MethodName} {b : ByteArray} {n idx nA mc ms : Nat} {rm : Room} {A1 : Nat → Prop} {v : Option Value} {As st0 : List Value} (C : Cx p s m args meth c own cc nL ret (KK G))
    (hM : Met l y (.code y b n none :: GT) rm (PcW (.ref a :: As) P (KK G)) (QcW A1 v P') mc ms A1)
    (hl : va_Nw (nestM (own, idx, y)) s) (w2 : Cond.instanceMethod y ∈ GT) (w4 : Cond.initialized y.cls ∈ GT) (w5 : Cond.code y b n none ∈ GT)
    (hy1 : y.name = "<init>") (hd0 : y.cls ≠ "java/lang/invoke/MethodHandle" ∧ y.cls ≠ "java/lang/invoke/VarHandle" ∧ (parseMethodDescriptor y.desc).map (fun d => d.parameters.length) = some nA) (hrc : rm.cells = mc) (hrs : rm.slots = ms)
    (hR : rm.frames + 1 ≤ R.frames ∧ 8 + (n + 11) + rm.locals ≤ R.locals) (hP : P H) (hS : va_S A s.heap H locs) (hA : ∀ q, A1 q → A q)
    (hst : st0 = As.reverse ++ .ref a :: rest) (hn : As.length = nA) (hsz : ls.size = nL) (hW : (rest.map fun v => v.category).sum ≤ 8) (hdg : decode cc pc = .ok (.invokespecial idx, 3)) (hf : cells + mc ≤ R.cells ∧ slots + ms ≤ R.slots)
    (kk : ∀ (H1 : Heap) (locs1 : List Loc), P' H1 → H.size ≤ H1.size → (∀ q : Nat, q < H.size → ¬ A1 q → H1[q]? = H[q]?) → va_S A s.heap H1 locs1 → W p l e R s m args below meth c H1 locs1 (cells + mc) (slots + ms) Q (F0 m (pc + 3) ls (v.toList ++ rest))) : W p l e R s m args below meth c H locs cells slots Q (F0 m pc ls st0) := by
  have hts := C.2.2.2.2.1
  exact xcall (va_runIN C.fix hM ⟨va_cnB (host := "AtThePost") nA hts (good_GT (in_code w5)) rfl hrc hrs hl (hts _ w4) hd0 hR, hy1, hts _ w2⟩ ⟨PcW.blind, fun U hU hW => ⟨rfl, by rw [hU]; exact hP, C.K.warm hW⟩⟩ rfl hn hsz hst (by simpa [JFrame.monitorRoom] using hW) hdg hf) hS hA kk
end XR6
theorem dX6_init_0 : decode cX6_init 0 = .ok (.aload_n 0, 1) := by decide +kernel
theorem dX6_init_1 : decode cX6_init 1 = .ok (.invokespecial 3, 3) := by decide +kernel
theorem dX6_init_4 : decode cX6_init 4 = .ok (.aload_n 0, 1) := by decide +kernel
theorem dX6_init_5 : decode cX6_init 5 = .ok (.sipush 160, 3) := by decide +kernel
theorem dX6_init_8 : decode cX6_init 8 = .ok (.newarray .char, 2) := by decide +kernel
theorem dX6_init_10 : decode cX6_init 10 = .ok (.putfield 9, 3) := by decide +kernel
theorem dX6_init_13 : decode cX6_init 13 = .ok (.aload_n 0, 1) := by decide +kernel
theorem dX6_init_14 : decode cX6_init 14 = .ok (.iconst 0, 1) := by decide +kernel
theorem dX6_init_15 : decode cX6_init 15 = .ok (.putfield 15, 3) := by decide +kernel
theorem dX6_init_18 : decode cX6_init 18 = .ok (.aload_n 0, 1) := by decide +kernel
theorem dX6_init_19 : decode cX6_init 19 = .ok (.iconst 0, 1) := by decide +kernel
theorem dX6_init_20 : decode cX6_init 20 = .ok (.putfield 19, 3) := by decide +kernel
theorem dX6_init_23 : decode cX6_init 23 = .ok (.aload_n 0, 1) := by decide +kernel
theorem dX6_init_24 : decode cX6_init 24 = .ok (.iconst 0, 1) := by decide +kernel
theorem dX6_init_25 : decode cX6_init 25 = .ok (.putfield 22, 3) := by decide +kernel
theorem dX6_init_28 : decode cX6_init 28 = .ok (.aload_n 0, 1) := by decide +kernel
theorem dX6_init_29 : decode cX6_init 29 = .ok (.bipush (-35), 2) := by decide +kernel
theorem dX6_init_31 : decode cX6_init 31 = .ok (.putfield 25, 3) := by decide +kernel
theorem dX6_init_34 : decode cX6_init 34 = .ok (.aload_n 0, 1) := by decide +kernel
theorem dX6_init_35 : decode cX6_init 35 = .ok (.iconst 0, 1) := by decide +kernel
theorem dX6_init_36 : decode cX6_init 36 = .ok (.putfield 28, 3) := by decide +kernel
theorem dX6_init_39 : decode cX6_init 39 = .ok (.return_, 1) := by decide +kernel
set_option maxHeartbeats 4000000 in
set_option maxRecDepth 100000 in
theorem kX6_init {l : Launch} {G : xG} {β : Nat} {A : Nat → Prop} (hA : ∀ k, k < 31 → A (β + k)) : Met l yX6_init (.code yX6_init cX6_init 1 none :: GT) { frames := 1, cells := 1, slots := 160, locals := 12 } (PcW [.ref (β + 4)] (LW β G [.inr (8, [.ref (β + 1), .int 0, .ref (β + 2), .int 1, .ref (β + 3), .int 0, .null, .null, .null, .int 0, .int 0, .null, .null, .null, .null, .null, .null, .null, .null]), .inl (G.2.1 4, 10, .inr (.inr (.inr (.inr (fun _ => none))))), .inl (G.2.1 0, 4, .inl (fun _ => 0)), .inl (G.2.1 5, 24, .inr (.inr (.inr (.inr (fun _ => none))))), .inr (6, [.null, .int 0, .int 0, .int 0, .int 0, .int 0])]) (KK G)) (QcW A none (LW β G [.inr (8, [.ref (β + 1), .int 0, .ref (β + 2), .int 1, .ref (β + 3), .int 0, .null, .null, .null, .int 0, .int 0, .null, .null, .null, .null, .null, .null, .null, .null]), .inl (G.2.1 4, 10, .inr (.inr (.inr (.inr (fun _ => none))))), .inl (G.2.1 0, 4, .inl (fun _ => 0)), .inl (G.2.1 5, 24, .inr (.inr (.inr (.inr (fun _ => none))))), .inr (6, [.ref (β + 5), .int 0, .int 0, .int 0, .int (-35), .int 0]), .inl (G.2.1 2, 160, .inl (fun _ => 0))])) 1 160 A := by
  refine xproI (own := RX6) (by decide +kernel) rfl (Nat.le_of_ble_eq_true rfl) ?_
  intro p e s m args below meth c C hin hw ls hl
  have hx := C.1
  have hb := C.2.1
  have ho := C.2.2.2.1
  have hts := C.2.2.2.2.1
  have hS : va_S A s.heap s.heap [] := va_S.rf
  have hl : lv_has ls 1 [(0, .ref (β + 4))] := hl
  refine lv_aload_n hx hb dX6_init_0 rfl (lv_at hl 0 rfl) ?_
  refine W.objInit hx hb ho (hts (.methodLink RX6 3 objectInit) (tg 36 (by decide +kernel) rfl)) (hts (.instanceMethod objectInit) (tg 25 (by decide +kernel) rfl)) (hts (.code objectInit ⟨#[0xb1]⟩ 1 none) (tg 26 (by decide +kernel) rfl)) rfl (by rw [C.2.2.1]; exact hl.1) rfl dX6_init_1 (Nat.le_of_ble_eq_true rfl) (Nat.le_of_ble_eq_true rfl) ?_
  refine W.eq (g2 := F0 m 4 ls []) rfl ?_
  refine lv_aload_n hx hb dX6_init_4 rfl (lv_at hl 0 rfl) ?_
  refine lv_sipush (v := 160) hx hb dX6_init_5 (by decide) ?_
  have hz := hw.1
  replace hz : _ = β + 5 := hz
  refine x_newa_char (G := G) (cl := vwCl) (N := 160) hx hb (hts (.arrayClass .char) (tg 61 (by decide +kernel) rfl)) C.K hS (by decide) rfl (by decide) (Nat.le_of_ble_eq_true rfl) (Nat.le_of_ble_eq_true rfl) dX6_init_8 (fun H1 hat ho1 hS => ?_)
  rw [hz]
  have hw : LW β G [.inr (8, [.ref (β + 1), .int 0, .ref (β + 2), .int 1, .ref (β + 3), .int 0, .null, .null, .null, .int 0, .int 0, .null, .null, .null, .null, .null, .null, .null, .null]), .inl (G.2.1 4, 10, .inr (.inr (.inr (.inr (fun _ => none))))), .inl (G.2.1 0, 4, .inl (fun _ => 0)), .inl (G.2.1 5, 24, .inr (.inr (.inr (.inr (fun _ => none))))), .inr (6, [.null, .int 0, .int 0, .int 0, .int 0, .int 0]), .inl (G.2.1 2, 160, .inl (fun _ => 0))] H1 := hw.push hat ho1
  clear hat ho1 hz
  refine W.widen (k := 1) (n := 160) (Nat.le_of_ble_eq_true rfl) (Nat.le_of_ble_eq_true rfl) ?_
  refine x_putF (ci := 6) hx hb hts iwX6 tyX6 tyX6_ok nmX6 ho C.K.1 hS (hw.2 4 _ rfl) (hA 4 (by decide)) rfl 0 (by decide) (C.2.2.2.2.1 (.fieldLink RX6 9 RX6 "bytes" "[C") (tg 37 (by decide +kernel) rfl)) (fun _ h9 => h9) rfl hin rfl (ty := tyX6 0) (by decide +kernel) rfl rfl (Nat.le_of_ble_eq_true rfl) dX6_init_10 (fun H1 locs hat ho1 hS => ?_)
  have hw : LW β G [.inr (8, [.ref (β + 1), .int 0, .ref (β + 2), .int 1, .ref (β + 3), .int 0, .null, .null, .null, .int 0, .int 0, .null, .null, .null, .null, .null, .null, .null, .null]), .inl (G.2.1 4, 10, .inr (.inr (.inr (.inr (fun _ => none))))), .inl (G.2.1 0, 4, .inl (fun _ => 0)), .inl (G.2.1 5, 24, .inr (.inr (.inr (.inr (fun _ => none))))), .inr (6, [.ref (β + 5), .int 0, .int 0, .int 0, .int 0, .int 0]), .inl (G.2.1 2, 160, .inl (fun _ => 0))] H1 := hw.set 4 (Nat.le_of_ble_eq_true rfl) hat ho1
  clear hat ho1
  refine lv_aload_n hx hb dX6_init_13 rfl (lv_at hl 0 rfl) ?_
  refine lv_iconst (v := 0) hx hb dX6_init_14 (by decide) ?_
  refine x_put (ci := 6) hx hb hts iwX6 tyX6 tyX6_ok nmX6 ho C.K.1 hS (hw.2 4 _ rfl) (hA 4 (by decide)) rfl 1 (by decide) (C.2.2.2.2.1 (.fieldLink RX6 15 RX6 "size" "I") (tg 38 (by decide +kernel) rfl)) (fun _ h9 => h9) rfl (ty := tyX6 1) (by decide +kernel) rfl rfl (Nat.le_of_ble_eq_true rfl) dX6_init_15 (fun H1 locs hat ho1 hS => ?_)
  have hw : LW β G [.inr (8, [.ref (β + 1), .int 0, .ref (β + 2), .int 1, .ref (β + 3), .int 0, .null, .null, .null, .int 0, .int 0, .null, .null, .null, .null, .null, .null, .null, .null]), .inl (G.2.1 4, 10, .inr (.inr (.inr (.inr (fun _ => none))))), .inl (G.2.1 0, 4, .inl (fun _ => 0)), .inl (G.2.1 5, 24, .inr (.inr (.inr (.inr (fun _ => none))))), .inr (6, [.ref (β + 5), .int 0, .int 0, .int 0, .int 0, .int 0]), .inl (G.2.1 2, 160, .inl (fun _ => 0))] H1 := hw.set 4 (Nat.le_of_ble_eq_true rfl) hat ho1
  clear hat ho1
  refine lv_aload_n hx hb dX6_init_18 rfl (lv_at hl 0 rfl) ?_
  refine lv_iconst (v := 0) hx hb dX6_init_19 (by decide) ?_
  refine x_put (ci := 6) hx hb hts iwX6 tyX6 tyX6_ok nmX6 ho C.K.1 hS (hw.2 4 _ rfl) (hA 4 (by decide)) rfl 2 (by decide) (C.2.2.2.2.1 (.fieldLink RX6 19 RX6 "start" "I") (tg 40 (by decide +kernel) rfl)) (fun _ h9 => h9) rfl (ty := tyX6 2) (by decide +kernel) rfl rfl (Nat.le_of_ble_eq_true rfl) dX6_init_20 (fun H1 locs hat ho1 hS => ?_)
  have hw : LW β G [.inr (8, [.ref (β + 1), .int 0, .ref (β + 2), .int 1, .ref (β + 3), .int 0, .null, .null, .null, .int 0, .int 0, .null, .null, .null, .null, .null, .null, .null, .null]), .inl (G.2.1 4, 10, .inr (.inr (.inr (.inr (fun _ => none))))), .inl (G.2.1 0, 4, .inl (fun _ => 0)), .inl (G.2.1 5, 24, .inr (.inr (.inr (.inr (fun _ => none))))), .inr (6, [.ref (β + 5), .int 0, .int 0, .int 0, .int 0, .int 0]), .inl (G.2.1 2, 160, .inl (fun _ => 0))] H1 := hw.set 4 (Nat.le_of_ble_eq_true rfl) hat ho1
  clear hat ho1
  refine lv_aload_n hx hb dX6_init_23 rfl (lv_at hl 0 rfl) ?_
  refine lv_iconst (v := 0) hx hb dX6_init_24 (by decide) ?_
  refine x_put (ci := 6) hx hb hts iwX6 tyX6 tyX6_ok nmX6 ho C.K.1 hS (hw.2 4 _ rfl) (hA 4 (by decide)) rfl 3 (by decide) (C.2.2.2.2.1 (.fieldLink RX6 22 RX6 "behind" "I") (tg 42 (by decide +kernel) rfl)) (fun _ h9 => h9) rfl (ty := tyX6 3) (by decide +kernel) rfl rfl (Nat.le_of_ble_eq_true rfl) dX6_init_25 (fun H1 locs hat ho1 hS => ?_)
  have hw : LW β G [.inr (8, [.ref (β + 1), .int 0, .ref (β + 2), .int 1, .ref (β + 3), .int 0, .null, .null, .null, .int 0, .int 0, .null, .null, .null, .null, .null, .null, .null, .null]), .inl (G.2.1 4, 10, .inr (.inr (.inr (.inr (fun _ => none))))), .inl (G.2.1 0, 4, .inl (fun _ => 0)), .inl (G.2.1 5, 24, .inr (.inr (.inr (.inr (fun _ => none))))), .inr (6, [.ref (β + 5), .int 0, .int 0, .int 0, .int 0, .int 0]), .inl (G.2.1 2, 160, .inl (fun _ => 0))] H1 := hw.set 4 (Nat.le_of_ble_eq_true rfl) hat ho1
  clear hat ho1
  refine lv_aload_n hx hb dX6_init_28 rfl (lv_at hl 0 rfl) ?_
  refine lv_bipush (v := (-35)) hx hb dX6_init_29 (by decide) ?_
  refine x_put (ci := 6) hx hb hts iwX6 tyX6 tyX6_ok nmX6 ho C.K.1 hS (hw.2 4 _ rfl) (hA 4 (by decide)) rfl 4 (by decide) (C.2.2.2.2.1 (.fieldLink RX6 25 RX6 "token" "I") (tg 43 (by decide +kernel) rfl)) (fun _ h9 => h9) rfl (ty := tyX6 4) (by decide +kernel) rfl rfl (Nat.le_of_ble_eq_true rfl) dX6_init_31 (fun H1 locs hat ho1 hS => ?_)
  have hw : LW β G [.inr (8, [.ref (β + 1), .int 0, .ref (β + 2), .int 1, .ref (β + 3), .int 0, .null, .null, .null, .int 0, .int 0, .null, .null, .null, .null, .null, .null, .null, .null]), .inl (G.2.1 4, 10, .inr (.inr (.inr (.inr (fun _ => none))))), .inl (G.2.1 0, 4, .inl (fun _ => 0)), .inl (G.2.1 5, 24, .inr (.inr (.inr (.inr (fun _ => none))))), .inr (6, [.ref (β + 5), .int 0, .int 0, .int 0, .int (-35), .int 0]), .inl (G.2.1 2, 160, .inl (fun _ => 0))] H1 := hw.set 4 (Nat.le_of_ble_eq_true rfl) hat ho1
  clear hat ho1
  refine lv_aload_n hx hb dX6_init_34 rfl (lv_at hl 0 rfl) ?_
  refine lv_iconst (v := 0) hx hb dX6_init_35 (by decide) ?_
  refine x_put (ci := 6) hx hb hts iwX6 tyX6 tyX6_ok nmX6 ho C.K.1 hS (hw.2 4 _ rfl) (hA 4 (by decide)) rfl 5 (by decide) (C.2.2.2.2.1 (.fieldLink RX6 28 RX6 "number" "I") (tg 45 (by decide +kernel) rfl)) (fun _ h9 => h9) rfl (ty := tyX6 5) (by decide +kernel) rfl rfl (Nat.le_of_ble_eq_true rfl) dX6_init_36 (fun H1 locs hat ho1 hS => ?_)
  have hw : LW β G [.inr (8, [.ref (β + 1), .int 0, .ref (β + 2), .int 1, .ref (β + 3), .int 0, .null, .null, .null, .int 0, .int 0, .null, .null, .null, .null, .null, .null, .null, .null]), .inl (G.2.1 4, 10, .inr (.inr (.inr (.inr (fun _ => none))))), .inl (G.2.1 0, 4, .inl (fun _ => 0)), .inl (G.2.1 5, 24, .inr (.inr (.inr (.inr (fun _ => none))))), .inr (6, [.ref (β + 5), .int 0, .int 0, .int 0, .int (-35), .int 0]), .inl (G.2.1 2, 160, .inl (fun _ => 0))] H1 := hw.set 4 (Nat.le_of_ble_eq_true rfl) hat ho1
  clear hat ho1
  exact xret_v C hw hS dX6_init_39
theorem dX4_init_0 : decode cX4_init 0 = .ok (.aload_n 0, 1) := by decide +kernel
theorem dX4_init_1 : decode cX4_init 1 = .ok (.invokespecial 3, 3) := by decide +kernel
theorem dX4_init_4 : decode cX4_init 4 = .ok (.aload_n 0, 1) := by decide +kernel
theorem dX4_init_5 : decode cX4_init 5 = .ok (.sipush 160, 3) := by decide +kernel
theorem dX4_init_8 : decode cX4_init 8 = .ok (.newarray .int, 2) := by decide +kernel
theorem dX4_init_10 : decode cX4_init 10 = .ok (.putfield 9, 3) := by decide +kernel
theorem dX4_init_13 : decode cX4_init 13 = .ok (.aload_n 0, 1) := by decide +kernel
theorem dX4_init_14 : decode cX4_init 14 = .ok (.iconst 3, 1) := by decide +kernel
theorem dX4_init_15 : decode cX4_init 15 = .ok (.newarray .int, 2) := by decide +kernel
theorem dX4_init_17 : decode cX4_init 17 = .ok (.putfield 15, 3) := by decide +kernel
theorem dX4_init_20 : decode cX4_init 20 = .ok (.aload_n 0, 1) := by decide +kernel
theorem dX4_init_21 : decode cX4_init 21 = .ok (.iconst 0, 1) := by decide +kernel
theorem dX4_init_22 : decode cX4_init 22 = .ok (.putfield 18, 3) := by decide +kernel
theorem dX4_init_25 : decode cX4_init 25 = .ok (.aload_n 0, 1) := by decide +kernel
theorem dX4_init_26 : decode cX4_init 26 = .ok (.aload_n 1, 1) := by decide +kernel
theorem dX4_init_27 : decode cX4_init 27 = .ok (.putfield 22, 3) := by decide +kernel
theorem dX4_init_30 : decode cX4_init 30 = .ok (.return_, 1) := by decide +kernel
set_option maxHeartbeats 4000000 in
set_option maxRecDepth 100000 in
theorem kX4_init {l : Launch} {G : xG} {β : Nat} {A : Nat → Prop} (hA : ∀ k, k < 31 → A (β + k)) : Met l yX4_init (.code yX4_init cX4_init 2 none :: GT) { frames := 1, cells := 2, slots := 163, locals := 12 } (PcW [.ref (β + 6), .ref (β + 4)] (LW β G [.inr (8, [.ref (β + 1), .int 0, .ref (β + 2), .int 1, .ref (β + 3), .int 0, .ref (β + 4), .null, .null, .int 0, .int 0, .null, .null, .null, .null, .null, .null, .null, .null]), .inl (G.2.1 4, 10, .inr (.inr (.inr (.inr (fun _ => none))))), .inl (G.2.1 0, 4, .inl (fun _ => 0)), .inl (G.2.1 5, 24, .inr (.inr (.inr (.inr (fun _ => none))))), .inr (6, [.ref (β + 5), .int 0, .int 0, .int 0, .int (-35), .int 0]), .inl (G.2.1 2, 160, .inl (fun _ => 0)), .inr (4, [.null, .null, .null, .int 0])]) (KK G)) (QcW A none (LW β G [.inr (8, [.ref (β + 1), .int 0, .ref (β + 2), .int 1, .ref (β + 3), .int 0, .ref (β + 4), .null, .null, .int 0, .int 0, .null, .null, .null, .null, .null, .null, .null, .null]), .inl (G.2.1 4, 10, .inr (.inr (.inr (.inr (fun _ => none))))), .inl (G.2.1 0, 4, .inl (fun _ => 0)), .inl (G.2.1 5, 24, .inr (.inr (.inr (.inr (fun _ => none))))), .inr (6, [.ref (β + 5), .int 0, .int 0, .int 0, .int (-35), .int 0]), .inl (G.2.1 2, 160, .inl (fun _ => 0)), .inr (4, [.ref (β + 4), .ref (β + 7), .ref (β + 8), .int 0]), .inl (G.2.1 0, 160, .inl (fun _ => 0)), .inl (G.2.1 0, 3, .inl (fun _ => 0))])) 2 163 A := by
  refine xproI (own := RX4) (by decide +kernel) rfl (Nat.le_of_ble_eq_true rfl) ?_
  intro p e s m args below meth c C hin hw ls hl
  have hx := C.1
  have hb := C.2.1
  have ho := C.2.2.2.1
  have hts := C.2.2.2.2.1
  have hS : va_S A s.heap s.heap [] := va_S.rf
  have hl : lv_has ls 2 [(0, .ref (β + 6)), (1, .ref (β + 4))] := hl
  refine lv_aload_n hx hb dX4_init_0 rfl (lv_at hl 0 rfl) ?_
  refine W.objInit hx hb ho (hts (.methodLink RX4 3 objectInit) (tg 67 (by decide +kernel) rfl)) (hts (.instanceMethod objectInit) (tg 25 (by decide +kernel) rfl)) (hts (.code objectInit ⟨#[0xb1]⟩ 1 none) (tg 26 (by decide +kernel) rfl)) rfl (by rw [C.2.2.1]; exact hl.1) rfl dX4_init_1 (Nat.le_of_ble_eq_true rfl) (Nat.le_of_ble_eq_true rfl) ?_
  refine W.eq (g2 := F0 m 4 ls []) rfl ?_
  refine lv_aload_n hx hb dX4_init_4 rfl (lv_at hl 0 rfl) ?_
  refine lv_sipush (v := 160) hx hb dX4_init_5 (by decide) ?_
  have hz := hw.1
  replace hz : _ = β + 7 := hz
  refine x_newa (G := G) (cl := vwCl) (N := 160) hx hb (hts (.arrayClass .int) (tg 60 (by decide +kernel) rfl)) C.K hS (by decide) rfl (by decide) (Nat.le_of_ble_eq_true rfl) (Nat.le_of_ble_eq_true rfl) dX4_init_8 (fun H1 hat ho1 hS => ?_)
  rw [hz]
  have hw : LW β G [.inr (8, [.ref (β + 1), .int 0, .ref (β + 2), .int 1, .ref (β + 3), .int 0, .ref (β + 4), .null, .null, .int 0, .int 0, .null, .null, .null, .null, .null, .null, .null, .null]), .inl (G.2.1 4, 10, .inr (.inr (.inr (.inr (fun _ => none))))), .inl (G.2.1 0, 4, .inl (fun _ => 0)), .inl (G.2.1 5, 24, .inr (.inr (.inr (.inr (fun _ => none))))), .inr (6, [.ref (β + 5), .int 0, .int 0, .int 0, .int (-35), .int 0]), .inl (G.2.1 2, 160, .inl (fun _ => 0)), .inr (4, [.null, .null, .null, .int 0]), .inl (G.2.1 0, 160, .inl (fun _ => 0))] H1 := hw.push hat ho1
  clear hat ho1 hz
  refine W.widen (k := 1) (n := 160) (Nat.le_of_ble_eq_true rfl) (Nat.le_of_ble_eq_true rfl) ?_
  refine x_putF (ci := 4) hx hb hts iwX4 tyX4 tyX4_ok nmX4 ho C.K.1 hS (hw.2 6 _ rfl) (hA 6 (by decide)) rfl 1 (by decide) (C.2.2.2.2.1 (.fieldLink RX4 9 RX4 "code" "[I") (tg 69 (by decide +kernel) rfl)) (fun _ h9 => h9) rfl hin rfl (ty := tyX4 1) (by decide +kernel) rfl rfl (Nat.le_of_ble_eq_true rfl) dX4_init_10 (fun H1 locs hat ho1 hS => ?_)
  have hw : LW β G [.inr (8, [.ref (β + 1), .int 0, .ref (β + 2), .int 1, .ref (β + 3), .int 0, .ref (β + 4), .null, .null, .int 0, .int 0, .null, .null, .null, .null, .null, .null, .null, .null]), .inl (G.2.1 4, 10, .inr (.inr (.inr (.inr (fun _ => none))))), .inl (G.2.1 0, 4, .inl (fun _ => 0)), .inl (G.2.1 5, 24, .inr (.inr (.inr (.inr (fun _ => none))))), .inr (6, [.ref (β + 5), .int 0, .int 0, .int 0, .int (-35), .int 0]), .inl (G.2.1 2, 160, .inl (fun _ => 0)), .inr (4, [.null, .ref (β + 7), .null, .int 0]), .inl (G.2.1 0, 160, .inl (fun _ => 0))] H1 := hw.set 6 (Nat.le_of_ble_eq_true rfl) hat ho1
  clear hat ho1
  refine lv_aload_n hx hb dX4_init_13 rfl (lv_at hl 0 rfl) ?_
  refine lv_iconst (v := 3) hx hb dX4_init_14 (by decide) ?_
  have hz := hw.1
  replace hz : _ = β + 8 := hz
  refine x_newa (G := G) (cl := vwCl) (N := 3) hx hb (hts (.arrayClass .int) (tg 60 (by decide +kernel) rfl)) C.K hS (by decide) rfl (by decide) (Nat.le_of_ble_eq_true rfl) (Nat.le_of_ble_eq_true rfl) dX4_init_15 (fun H1 hat ho1 hS => ?_)
  rw [hz]
  have hw : LW β G [.inr (8, [.ref (β + 1), .int 0, .ref (β + 2), .int 1, .ref (β + 3), .int 0, .ref (β + 4), .null, .null, .int 0, .int 0, .null, .null, .null, .null, .null, .null, .null, .null]), .inl (G.2.1 4, 10, .inr (.inr (.inr (.inr (fun _ => none))))), .inl (G.2.1 0, 4, .inl (fun _ => 0)), .inl (G.2.1 5, 24, .inr (.inr (.inr (.inr (fun _ => none))))), .inr (6, [.ref (β + 5), .int 0, .int 0, .int 0, .int (-35), .int 0]), .inl (G.2.1 2, 160, .inl (fun _ => 0)), .inr (4, [.null, .ref (β + 7), .null, .int 0]), .inl (G.2.1 0, 160, .inl (fun _ => 0)), .inl (G.2.1 0, 3, .inl (fun _ => 0))] H1 := hw.push hat ho1
  clear hat ho1 hz
  refine W.widen (k := 2) (n := 163) (Nat.le_of_ble_eq_true rfl) (Nat.le_of_ble_eq_true rfl) ?_
  refine x_putF (ci := 4) hx hb hts iwX4 tyX4 tyX4_ok nmX4 ho C.K.1 hS (hw.2 6 _ rfl) (hA 6 (by decide)) rfl 2 (by decide) (C.2.2.2.2.1 (.fieldLink RX4 15 RX4 "ends" "[I") (tg 70 (by decide +kernel) rfl)) (fun _ h9 => h9) rfl hin rfl (ty := tyX4 2) (by decide +kernel) rfl rfl (Nat.le_of_ble_eq_true rfl) dX4_init_17 (fun H1 locs hat ho1 hS => ?_)
  have hw : LW β G [.inr (8, [.ref (β + 1), .int 0, .ref (β + 2), .int 1, .ref (β + 3), .int 0, .ref (β + 4), .null, .null, .int 0, .int 0, .null, .null, .null, .null, .null, .null, .null, .null]), .inl (G.2.1 4, 10, .inr (.inr (.inr (.inr (fun _ => none))))), .inl (G.2.1 0, 4, .inl (fun _ => 0)), .inl (G.2.1 5, 24, .inr (.inr (.inr (.inr (fun _ => none))))), .inr (6, [.ref (β + 5), .int 0, .int 0, .int 0, .int (-35), .int 0]), .inl (G.2.1 2, 160, .inl (fun _ => 0)), .inr (4, [.null, .ref (β + 7), .ref (β + 8), .int 0]), .inl (G.2.1 0, 160, .inl (fun _ => 0)), .inl (G.2.1 0, 3, .inl (fun _ => 0))] H1 := hw.set 6 (Nat.le_of_ble_eq_true rfl) hat ho1
  clear hat ho1
  refine lv_aload_n hx hb dX4_init_20 rfl (lv_at hl 0 rfl) ?_
  refine lv_iconst (v := 0) hx hb dX4_init_21 (by decide) ?_
  refine x_put (ci := 4) hx hb hts iwX4 tyX4 tyX4_ok nmX4 ho C.K.1 hS (hw.2 6 _ rfl) (hA 6 (by decide)) rfl 3 (by decide) (C.2.2.2.2.1 (.fieldLink RX4 18 RX4 "length" "I") (tg 71 (by decide +kernel) rfl)) (fun _ h9 => h9) rfl (ty := tyX4 3) (by decide +kernel) rfl rfl (Nat.le_of_ble_eq_true rfl) dX4_init_22 (fun H1 locs hat ho1 hS => ?_)
  have hw : LW β G [.inr (8, [.ref (β + 1), .int 0, .ref (β + 2), .int 1, .ref (β + 3), .int 0, .ref (β + 4), .null, .null, .int 0, .int 0, .null, .null, .null, .null, .null, .null, .null, .null]), .inl (G.2.1 4, 10, .inr (.inr (.inr (.inr (fun _ => none))))), .inl (G.2.1 0, 4, .inl (fun _ => 0)), .inl (G.2.1 5, 24, .inr (.inr (.inr (.inr (fun _ => none))))), .inr (6, [.ref (β + 5), .int 0, .int 0, .int 0, .int (-35), .int 0]), .inl (G.2.1 2, 160, .inl (fun _ => 0)), .inr (4, [.null, .ref (β + 7), .ref (β + 8), .int 0]), .inl (G.2.1 0, 160, .inl (fun _ => 0)), .inl (G.2.1 0, 3, .inl (fun _ => 0))] H1 := hw.set 6 (Nat.le_of_ble_eq_true rfl) hat ho1
  clear hat ho1
  refine lv_aload_n hx hb dX4_init_25 rfl (lv_at hl 0 rfl) ?_
  refine lv_aload_n hx hb dX4_init_26 rfl (lv_at hl 1 rfl) ?_
  refine x_putF (ci := 4) hx hb hts iwX4 tyX4 tyX4_ok nmX4 ho C.K.1 hS (hw.2 6 _ rfl) (hA 6 (by decide)) rfl 0 (by decide) (C.2.2.2.2.1 (.fieldLink RX4 22 RX4 "tape" "LAtThePost$Tape;") (tg 68 (by decide +kernel) rfl)) (fun _ h9 => h9) rfl hin rfl (ty := tyX4 0) (by decide +kernel) rfl rfl (Nat.le_of_ble_eq_true rfl) dX4_init_27 (fun H1 locs hat ho1 hS => ?_)
  have hw : LW β G [.inr (8, [.ref (β + 1), .int 0, .ref (β + 2), .int 1, .ref (β + 3), .int 0, .ref (β + 4), .null, .null, .int 0, .int 0, .null, .null, .null, .null, .null, .null, .null, .null]), .inl (G.2.1 4, 10, .inr (.inr (.inr (.inr (fun _ => none))))), .inl (G.2.1 0, 4, .inl (fun _ => 0)), .inl (G.2.1 5, 24, .inr (.inr (.inr (.inr (fun _ => none))))), .inr (6, [.ref (β + 5), .int 0, .int 0, .int 0, .int (-35), .int 0]), .inl (G.2.1 2, 160, .inl (fun _ => 0)), .inr (4, [.ref (β + 4), .ref (β + 7), .ref (β + 8), .int 0]), .inl (G.2.1 0, 160, .inl (fun _ => 0)), .inl (G.2.1 0, 3, .inl (fun _ => 0))] H1 := hw.set 6 (Nat.le_of_ble_eq_true rfl) hat ho1
  clear hat ho1
  exact xret_v C hw hS dX4_init_30
theorem dX2_init_0 : decode cX2_init 0 = .ok (.aload_n 0, 1) := by decide +kernel
theorem dX2_init_1 : decode cX2_init 1 = .ok (.invokespecial 3, 3) := by decide +kernel
theorem dX2_init_4 : decode cX2_init 4 = .ok (.aload_n 0, 1) := by decide +kernel
theorem dX2_init_5 : decode cX2_init 5 = .ok (.iconst 0, 1) := by decide +kernel
theorem dX2_init_6 : decode cX2_init 6 = .ok (.putfield 9, 3) := by decide +kernel
theorem dX2_init_9 : decode cX2_init 9 = .ok (.aload_n 0, 1) := by decide +kernel
theorem dX2_init_10 : decode cX2_init 10 = .ok (.iconst 0, 1) := by decide +kernel
theorem dX2_init_11 : decode cX2_init 11 = .ok (.putfield 15, 3) := by decide +kernel
theorem dX2_init_14 : decode cX2_init 14 = .ok (.aload_n 0, 1) := by decide +kernel
theorem dX2_init_15 : decode cX2_init 15 = .ok (.iconst 0, 1) := by decide +kernel
theorem dX2_init_16 : decode cX2_init 16 = .ok (.putfield 19, 3) := by decide +kernel
theorem dX2_init_19 : decode cX2_init 19 = .ok (.aload_n 0, 1) := by decide +kernel
theorem dX2_init_20 : decode cX2_init 20 = .ok (.iconst 0, 1) := by decide +kernel
theorem dX2_init_21 : decode cX2_init 21 = .ok (.putfield 22, 3) := by decide +kernel
theorem dX2_init_24 : decode cX2_init 24 = .ok (.aload_n 0, 1) := by decide +kernel
theorem dX2_init_25 : decode cX2_init 25 = .ok (.iconst 0, 1) := by decide +kernel
theorem dX2_init_26 : decode cX2_init 26 = .ok (.putfield 25, 3) := by decide +kernel
theorem dX2_init_29 : decode cX2_init 29 = .ok (.aload_n 0, 1) := by decide +kernel
theorem dX2_init_30 : decode cX2_init 30 = .ok (.iconst 4, 1) := by decide +kernel
theorem dX2_init_31 : decode cX2_init 31 = .ok (.newarray .int, 2) := by decide +kernel
theorem dX2_init_33 : decode cX2_init 33 = .ok (.putfield 28, 3) := by decide +kernel
theorem dX2_init_36 : decode cX2_init 36 = .ok (.aload_n 0, 1) := by decide +kernel
theorem dX2_init_37 : decode cX2_init 37 = .ok (.bipush 10, 2) := by decide +kernel
theorem dX2_init_39 : decode cX2_init 39 = .ok (.newarray .int, 2) := by decide +kernel
theorem dX2_init_41 : decode cX2_init 41 = .ok (.putfield 32, 3) := by decide +kernel
theorem dX2_init_44 : decode cX2_init 44 = .ok (.aload_n 0, 1) := by decide +kernel
theorem dX2_init_45 : decode cX2_init 45 = .ok (.bipush 10, 2) := by decide +kernel
theorem dX2_init_47 : decode cX2_init 47 = .ok (.newarray .int, 2) := by decide +kernel
theorem dX2_init_49 : decode cX2_init 49 = .ok (.putfield 35, 3) := by decide +kernel
theorem dX2_init_52 : decode cX2_init 52 = .ok (.aload_n 0, 1) := by decide +kernel
theorem dX2_init_53 : decode cX2_init 53 = .ok (.bipush 10, 2) := by decide +kernel
theorem dX2_init_55 : decode cX2_init 55 = .ok (.newarray .int, 2) := by decide +kernel
theorem dX2_init_57 : decode cX2_init 57 = .ok (.putfield 38, 3) := by decide +kernel
theorem dX2_init_60 : decode cX2_init 60 = .ok (.return_, 1) := by decide +kernel
set_option maxHeartbeats 4000000 in
set_option maxRecDepth 100000 in
theorem kX2_init {l : Launch} {G : xG} {β : Nat} {A : Nat → Prop} (hA : ∀ k, k < 31 → A (β + k)) : Met l yX2_init (.code yX2_init cX2_init 1 none :: GT) { frames := 1, cells := 4, slots := 34, locals := 12 } (PcW [.ref (β + 11)] (LW β G [.inr (8, [.ref (β + 1), .int 0, .ref (β + 2), .int 1, .ref (β + 3), .int 0, .ref (β + 4), .ref (β + 6), .ref (β + 9), .int 0, .int 0, .ref (β + 10), .null, .null, .null, .null, .null, .null, .null]), .inl (G.2.1 4, 10, .inr (.inr (.inr (.inr (fun _ => none))))), .inl (G.2.1 0, 4, .inl (fun _ => 0)), .inl (G.2.1 5, 24, .inr (.inr (.inr (.inr (fun _ => none))))), .inr (6, [.ref (β + 5), .int 0, .int 0, .int 0, .int (-35), .int 0]), .inl (G.2.1 2, 160, .inl (fun _ => 0)), .inr (4, [.ref (β + 4), .ref (β + 7), .ref (β + 8), .int 0]), .inl (G.2.1 0, 160, .inl (fun _ => 0)), .inl (G.2.1 0, 3, .inl (fun _ => 0)), .inl (G.2.1 7, 6, .inr (.inr (.inr (.inr (fun _ => none))))), .inl (G.2.1 6, 4, .inr (.inr (.inr (.inr (fun _ => none))))), .inr (2, [.int 0, .int 0, .int 0, .int 0, .int 0, .null, .null, .null, .null])]) (KK G)) (QcW A none (LW β G [.inr (8, [.ref (β + 1), .int 0, .ref (β + 2), .int 1, .ref (β + 3), .int 0, .ref (β + 4), .ref (β + 6), .ref (β + 9), .int 0, .int 0, .ref (β + 10), .null, .null, .null, .null, .null, .null, .null]), .inl (G.2.1 4, 10, .inr (.inr (.inr (.inr (fun _ => none))))), .inl (G.2.1 0, 4, .inl (fun _ => 0)), .inl (G.2.1 5, 24, .inr (.inr (.inr (.inr (fun _ => none))))), .inr (6, [.ref (β + 5), .int 0, .int 0, .int 0, .int (-35), .int 0]), .inl (G.2.1 2, 160, .inl (fun _ => 0)), .inr (4, [.ref (β + 4), .ref (β + 7), .ref (β + 8), .int 0]), .inl (G.2.1 0, 160, .inl (fun _ => 0)), .inl (G.2.1 0, 3, .inl (fun _ => 0)), .inl (G.2.1 7, 6, .inr (.inr (.inr (.inr (fun _ => none))))), .inl (G.2.1 6, 4, .inr (.inr (.inr (.inr (fun _ => none))))), .inr (2, [.int 0, .int 0, .int 0, .int 0, .int 0, .ref (β + 12), .ref (β + 13), .ref (β + 14), .ref (β + 15)]), .inl (G.2.1 0, 4, .inl (fun _ => 0)), .inl (G.2.1 0, 10, .inl (fun _ => 0)), .inl (G.2.1 0, 10, .inl (fun _ => 0)), .inl (G.2.1 0, 10, .inl (fun _ => 0))])) 4 34 A := by
  refine xproI (own := RX2) (by decide +kernel) rfl (Nat.le_of_ble_eq_true rfl) ?_
  intro p e s m args below meth c C hin hw ls hl
  have hx := C.1
  have hb := C.2.1
  have ho := C.2.2.2.1
  have hts := C.2.2.2.2.1
  have hS : va_S A s.heap s.heap [] := va_S.rf
  have hl : lv_has ls 1 [(0, .ref (β + 11))] := hl
  refine lv_aload_n hx hb dX2_init_0 rfl (lv_at hl 0 rfl) ?_
  refine W.objInit hx hb ho (hts (.methodLink RX2 3 objectInit) (tg 90 (by decide +kernel) rfl)) (hts (.instanceMethod objectInit) (tg 25 (by decide +kernel) rfl)) (hts (.code objectInit ⟨#[0xb1]⟩ 1 none) (tg 26 (by decide +kernel) rfl)) rfl (by rw [C.2.2.1]; exact hl.1) rfl dX2_init_1 (Nat.le_of_ble_eq_true rfl) (Nat.le_of_ble_eq_true rfl) ?_
  refine W.eq (g2 := F0 m 4 ls []) rfl ?_
  refine lv_aload_n hx hb dX2_init_4 rfl (lv_at hl 0 rfl) ?_
  refine lv_iconst (v := 0) hx hb dX2_init_5 (by decide) ?_
  refine x_put (ci := 2) hx hb hts iwX2 tyX2 tyX2_ok nmX2 ho C.K.1 hS (hw.2 11 _ rfl) (hA 11 (by decide)) rfl 0 (by decide) (C.2.2.2.2.1 (.fieldLink RX2 9 RX2 "isKept" "Z") (tg 91 (by decide +kernel) rfl)) (fun _ h9 => h9) rfl (ty := tyX2 0) (by decide +kernel) rfl rfl (Nat.le_of_ble_eq_true rfl) dX2_init_6 (fun H1 locs hat ho1 hS => ?_)
  have hw : LW β G [.inr (8, [.ref (β + 1), .int 0, .ref (β + 2), .int 1, .ref (β + 3), .int 0, .ref (β + 4), .ref (β + 6), .ref (β + 9), .int 0, .int 0, .ref (β + 10), .null, .null, .null, .null, .null, .null, .null]), .inl (G.2.1 4, 10, .inr (.inr (.inr (.inr (fun _ => none))))), .inl (G.2.1 0, 4, .inl (fun _ => 0)), .inl (G.2.1 5, 24, .inr (.inr (.inr (.inr (fun _ => none))))), .inr (6, [.ref (β + 5), .int 0, .int 0, .int 0, .int (-35), .int 0]), .inl (G.2.1 2, 160, .inl (fun _ => 0)), .inr (4, [.ref (β + 4), .ref (β + 7), .ref (β + 8), .int 0]), .inl (G.2.1 0, 160, .inl (fun _ => 0)), .inl (G.2.1 0, 3, .inl (fun _ => 0)), .inl (G.2.1 7, 6, .inr (.inr (.inr (.inr (fun _ => none))))), .inl (G.2.1 6, 4, .inr (.inr (.inr (.inr (fun _ => none))))), .inr (2, [.int 0, .int 0, .int 0, .int 0, .int 0, .null, .null, .null, .null])] H1 := hw.set 11 (Nat.le_of_ble_eq_true rfl) hat ho1
  clear hat ho1
  refine lv_aload_n hx hb dX2_init_9 rfl (lv_at hl 0 rfl) ?_
  refine lv_iconst (v := 0) hx hb dX2_init_10 (by decide) ?_
  refine x_put (ci := 2) hx hb hts iwX2 tyX2 tyX2_ok nmX2 ho C.K.1 hS (hw.2 11 _ rfl) (hA 11 (by decide)) rfl 1 (by decide) (C.2.2.2.2.1 (.fieldLink RX2 15 RX2 "horseCount" "I") (tg 93 (by decide +kernel) rfl)) (fun _ h9 => h9) rfl (ty := tyX2 1) (by decide +kernel) rfl rfl (Nat.le_of_ble_eq_true rfl) dX2_init_11 (fun H1 locs hat ho1 hS => ?_)
  have hw : LW β G [.inr (8, [.ref (β + 1), .int 0, .ref (β + 2), .int 1, .ref (β + 3), .int 0, .ref (β + 4), .ref (β + 6), .ref (β + 9), .int 0, .int 0, .ref (β + 10), .null, .null, .null, .null, .null, .null, .null]), .inl (G.2.1 4, 10, .inr (.inr (.inr (.inr (fun _ => none))))), .inl (G.2.1 0, 4, .inl (fun _ => 0)), .inl (G.2.1 5, 24, .inr (.inr (.inr (.inr (fun _ => none))))), .inr (6, [.ref (β + 5), .int 0, .int 0, .int 0, .int (-35), .int 0]), .inl (G.2.1 2, 160, .inl (fun _ => 0)), .inr (4, [.ref (β + 4), .ref (β + 7), .ref (β + 8), .int 0]), .inl (G.2.1 0, 160, .inl (fun _ => 0)), .inl (G.2.1 0, 3, .inl (fun _ => 0)), .inl (G.2.1 7, 6, .inr (.inr (.inr (.inr (fun _ => none))))), .inl (G.2.1 6, 4, .inr (.inr (.inr (.inr (fun _ => none))))), .inr (2, [.int 0, .int 0, .int 0, .int 0, .int 0, .null, .null, .null, .null])] H1 := hw.set 11 (Nat.le_of_ble_eq_true rfl) hat ho1
  clear hat ho1
  refine lv_aload_n hx hb dX2_init_14 rfl (lv_at hl 0 rfl) ?_
  refine lv_iconst (v := 0) hx hb dX2_init_15 (by decide) ?_
  refine x_put (ci := 2) hx hb hts iwX2 tyX2 tyX2_ok nmX2 ho C.K.1 hS (hw.2 11 _ rfl) (hA 11 (by decide)) rfl 2 (by decide) (C.2.2.2.2.1 (.fieldLink RX2 19 RX2 "raceCount" "I") (tg 95 (by decide +kernel) rfl)) (fun _ h9 => h9) rfl (ty := tyX2 2) (by decide +kernel) rfl rfl (Nat.le_of_ble_eq_true rfl) dX2_init_16 (fun H1 locs hat ho1 hS => ?_)
  have hw : LW β G [.inr (8, [.ref (β + 1), .int 0, .ref (β + 2), .int 1, .ref (β + 3), .int 0, .ref (β + 4), .ref (β + 6), .ref (β + 9), .int 0, .int 0, .ref (β + 10), .null, .null, .null, .null, .null, .null, .null]), .inl (G.2.1 4, 10, .inr (.inr (.inr (.inr (fun _ => none))))), .inl (G.2.1 0, 4, .inl (fun _ => 0)), .inl (G.2.1 5, 24, .inr (.inr (.inr (.inr (fun _ => none))))), .inr (6, [.ref (β + 5), .int 0, .int 0, .int 0, .int (-35), .int 0]), .inl (G.2.1 2, 160, .inl (fun _ => 0)), .inr (4, [.ref (β + 4), .ref (β + 7), .ref (β + 8), .int 0]), .inl (G.2.1 0, 160, .inl (fun _ => 0)), .inl (G.2.1 0, 3, .inl (fun _ => 0)), .inl (G.2.1 7, 6, .inr (.inr (.inr (.inr (fun _ => none))))), .inl (G.2.1 6, 4, .inr (.inr (.inr (.inr (fun _ => none))))), .inr (2, [.int 0, .int 0, .int 0, .int 0, .int 0, .null, .null, .null, .null])] H1 := hw.set 11 (Nat.le_of_ble_eq_true rfl) hat ho1
  clear hat ho1
  refine lv_aload_n hx hb dX2_init_19 rfl (lv_at hl 0 rfl) ?_
  refine lv_iconst (v := 0) hx hb dX2_init_20 (by decide) ?_
  refine x_put (ci := 2) hx hb hts iwX2 tyX2 tyX2_ok nmX2 ho C.K.1 hS (hw.2 11 _ rfl) (hA 11 (by decide)) rfl 3 (by decide) (C.2.2.2.2.1 (.fieldLink RX2 22 RX2 "rule" "I") (tg 97 (by decide +kernel) rfl)) (fun _ h9 => h9) rfl (ty := tyX2 3) (by decide +kernel) rfl rfl (Nat.le_of_ble_eq_true rfl) dX2_init_21 (fun H1 locs hat ho1 hS => ?_)
  have hw : LW β G [.inr (8, [.ref (β + 1), .int 0, .ref (β + 2), .int 1, .ref (β + 3), .int 0, .ref (β + 4), .ref (β + 6), .ref (β + 9), .int 0, .int 0, .ref (β + 10), .null, .null, .null, .null, .null, .null, .null]), .inl (G.2.1 4, 10, .inr (.inr (.inr (.inr (fun _ => none))))), .inl (G.2.1 0, 4, .inl (fun _ => 0)), .inl (G.2.1 5, 24, .inr (.inr (.inr (.inr (fun _ => none))))), .inr (6, [.ref (β + 5), .int 0, .int 0, .int 0, .int (-35), .int 0]), .inl (G.2.1 2, 160, .inl (fun _ => 0)), .inr (4, [.ref (β + 4), .ref (β + 7), .ref (β + 8), .int 0]), .inl (G.2.1 0, 160, .inl (fun _ => 0)), .inl (G.2.1 0, 3, .inl (fun _ => 0)), .inl (G.2.1 7, 6, .inr (.inr (.inr (.inr (fun _ => none))))), .inl (G.2.1 6, 4, .inr (.inr (.inr (.inr (fun _ => none))))), .inr (2, [.int 0, .int 0, .int 0, .int 0, .int 0, .null, .null, .null, .null])] H1 := hw.set 11 (Nat.le_of_ble_eq_true rfl) hat ho1
  clear hat ho1
  refine lv_aload_n hx hb dX2_init_24 rfl (lv_at hl 0 rfl) ?_
  refine lv_iconst (v := 0) hx hb dX2_init_25 (by decide) ?_
  refine x_put (ci := 2) hx hb hts iwX2 tyX2 tyX2_ok nmX2 ho C.K.1 hS (hw.2 11 _ rfl) (hA 11 (by decide)) rfl 4 (by decide) (C.2.2.2.2.1 (.fieldLink RX2 25 RX2 "spread" "I") (tg 99 (by decide +kernel) rfl)) (fun _ h9 => h9) rfl (ty := tyX2 4) (by decide +kernel) rfl rfl (Nat.le_of_ble_eq_true rfl) dX2_init_26 (fun H1 locs hat ho1 hS => ?_)
  have hw : LW β G [.inr (8, [.ref (β + 1), .int 0, .ref (β + 2), .int 1, .ref (β + 3), .int 0, .ref (β + 4), .ref (β + 6), .ref (β + 9), .int 0, .int 0, .ref (β + 10), .null, .null, .null, .null, .null, .null, .null]), .inl (G.2.1 4, 10, .inr (.inr (.inr (.inr (fun _ => none))))), .inl (G.2.1 0, 4, .inl (fun _ => 0)), .inl (G.2.1 5, 24, .inr (.inr (.inr (.inr (fun _ => none))))), .inr (6, [.ref (β + 5), .int 0, .int 0, .int 0, .int (-35), .int 0]), .inl (G.2.1 2, 160, .inl (fun _ => 0)), .inr (4, [.ref (β + 4), .ref (β + 7), .ref (β + 8), .int 0]), .inl (G.2.1 0, 160, .inl (fun _ => 0)), .inl (G.2.1 0, 3, .inl (fun _ => 0)), .inl (G.2.1 7, 6, .inr (.inr (.inr (.inr (fun _ => none))))), .inl (G.2.1 6, 4, .inr (.inr (.inr (.inr (fun _ => none))))), .inr (2, [.int 0, .int 0, .int 0, .int 0, .int 0, .null, .null, .null, .null])] H1 := hw.set 11 (Nat.le_of_ble_eq_true rfl) hat ho1
  clear hat ho1
  refine lv_aload_n hx hb dX2_init_29 rfl (lv_at hl 0 rfl) ?_
  refine lv_iconst (v := 4) hx hb dX2_init_30 (by decide) ?_
  have hz := hw.1
  replace hz : _ = β + 12 := hz
  refine x_newa (G := G) (cl := vwCl) (N := 4) hx hb (hts (.arrayClass .int) (tg 60 (by decide +kernel) rfl)) C.K hS (by decide) rfl (by decide) (Nat.le_of_ble_eq_true rfl) (Nat.le_of_ble_eq_true rfl) dX2_init_31 (fun H1 hat ho1 hS => ?_)
  rw [hz]
  have hw : LW β G [.inr (8, [.ref (β + 1), .int 0, .ref (β + 2), .int 1, .ref (β + 3), .int 0, .ref (β + 4), .ref (β + 6), .ref (β + 9), .int 0, .int 0, .ref (β + 10), .null, .null, .null, .null, .null, .null, .null]), .inl (G.2.1 4, 10, .inr (.inr (.inr (.inr (fun _ => none))))), .inl (G.2.1 0, 4, .inl (fun _ => 0)), .inl (G.2.1 5, 24, .inr (.inr (.inr (.inr (fun _ => none))))), .inr (6, [.ref (β + 5), .int 0, .int 0, .int 0, .int (-35), .int 0]), .inl (G.2.1 2, 160, .inl (fun _ => 0)), .inr (4, [.ref (β + 4), .ref (β + 7), .ref (β + 8), .int 0]), .inl (G.2.1 0, 160, .inl (fun _ => 0)), .inl (G.2.1 0, 3, .inl (fun _ => 0)), .inl (G.2.1 7, 6, .inr (.inr (.inr (.inr (fun _ => none))))), .inl (G.2.1 6, 4, .inr (.inr (.inr (.inr (fun _ => none))))), .inr (2, [.int 0, .int 0, .int 0, .int 0, .int 0, .null, .null, .null, .null]), .inl (G.2.1 0, 4, .inl (fun _ => 0))] H1 := hw.push hat ho1
  clear hat ho1 hz
  refine W.widen (k := 1) (n := 4) (Nat.le_of_ble_eq_true rfl) (Nat.le_of_ble_eq_true rfl) ?_
  refine x_putF (ci := 2) hx hb hts iwX2 tyX2 tyX2_ok nmX2 ho C.K.1 hS (hw.2 11 _ rfl) (hA 11 (by decide)) rfl 5 (by decide) (C.2.2.2.2.1 (.fieldLink RX2 28 RX2 "pounds" "[I") (tg 101 (by decide +kernel) rfl)) (fun _ h9 => h9) rfl hin rfl (ty := tyX2 5) (by decide +kernel) rfl rfl (Nat.le_of_ble_eq_true rfl) dX2_init_33 (fun H1 locs hat ho1 hS => ?_)
  have hw : LW β G [.inr (8, [.ref (β + 1), .int 0, .ref (β + 2), .int 1, .ref (β + 3), .int 0, .ref (β + 4), .ref (β + 6), .ref (β + 9), .int 0, .int 0, .ref (β + 10), .null, .null, .null, .null, .null, .null, .null]), .inl (G.2.1 4, 10, .inr (.inr (.inr (.inr (fun _ => none))))), .inl (G.2.1 0, 4, .inl (fun _ => 0)), .inl (G.2.1 5, 24, .inr (.inr (.inr (.inr (fun _ => none))))), .inr (6, [.ref (β + 5), .int 0, .int 0, .int 0, .int (-35), .int 0]), .inl (G.2.1 2, 160, .inl (fun _ => 0)), .inr (4, [.ref (β + 4), .ref (β + 7), .ref (β + 8), .int 0]), .inl (G.2.1 0, 160, .inl (fun _ => 0)), .inl (G.2.1 0, 3, .inl (fun _ => 0)), .inl (G.2.1 7, 6, .inr (.inr (.inr (.inr (fun _ => none))))), .inl (G.2.1 6, 4, .inr (.inr (.inr (.inr (fun _ => none))))), .inr (2, [.int 0, .int 0, .int 0, .int 0, .int 0, .ref (β + 12), .null, .null, .null]), .inl (G.2.1 0, 4, .inl (fun _ => 0))] H1 := hw.set 11 (Nat.le_of_ble_eq_true rfl) hat ho1
  clear hat ho1
  refine lv_aload_n hx hb dX2_init_36 rfl (lv_at hl 0 rfl) ?_
  refine lv_bipush (v := 10) hx hb dX2_init_37 (by decide) ?_
  have hz := hw.1
  replace hz : _ = β + 13 := hz
  refine x_newa (G := G) (cl := vwCl) (N := 10) hx hb (hts (.arrayClass .int) (tg 60 (by decide +kernel) rfl)) C.K hS (by decide) rfl (by decide) (Nat.le_of_ble_eq_true rfl) (Nat.le_of_ble_eq_true rfl) dX2_init_39 (fun H1 hat ho1 hS => ?_)
  rw [hz]
  have hw : LW β G [.inr (8, [.ref (β + 1), .int 0, .ref (β + 2), .int 1, .ref (β + 3), .int 0, .ref (β + 4), .ref (β + 6), .ref (β + 9), .int 0, .int 0, .ref (β + 10), .null, .null, .null, .null, .null, .null, .null]), .inl (G.2.1 4, 10, .inr (.inr (.inr (.inr (fun _ => none))))), .inl (G.2.1 0, 4, .inl (fun _ => 0)), .inl (G.2.1 5, 24, .inr (.inr (.inr (.inr (fun _ => none))))), .inr (6, [.ref (β + 5), .int 0, .int 0, .int 0, .int (-35), .int 0]), .inl (G.2.1 2, 160, .inl (fun _ => 0)), .inr (4, [.ref (β + 4), .ref (β + 7), .ref (β + 8), .int 0]), .inl (G.2.1 0, 160, .inl (fun _ => 0)), .inl (G.2.1 0, 3, .inl (fun _ => 0)), .inl (G.2.1 7, 6, .inr (.inr (.inr (.inr (fun _ => none))))), .inl (G.2.1 6, 4, .inr (.inr (.inr (.inr (fun _ => none))))), .inr (2, [.int 0, .int 0, .int 0, .int 0, .int 0, .ref (β + 12), .null, .null, .null]), .inl (G.2.1 0, 4, .inl (fun _ => 0)), .inl (G.2.1 0, 10, .inl (fun _ => 0))] H1 := hw.push hat ho1
  clear hat ho1 hz
  refine W.widen (k := 2) (n := 14) (Nat.le_of_ble_eq_true rfl) (Nat.le_of_ble_eq_true rfl) ?_
  refine x_putF (ci := 2) hx hb hts iwX2 tyX2 tyX2_ok nmX2 ho C.K.1 hS (hw.2 11 _ rfl) (hA 11 (by decide)) rfl 6 (by decide) (C.2.2.2.2.1 (.fieldLink RX2 32 RX2 "strengths" "[I") (tg 103 (by decide +kernel) rfl)) (fun _ h9 => h9) rfl hin rfl (ty := tyX2 6) (by decide +kernel) rfl rfl (Nat.le_of_ble_eq_true rfl) dX2_init_41 (fun H1 locs hat ho1 hS => ?_)
  have hw : LW β G [.inr (8, [.ref (β + 1), .int 0, .ref (β + 2), .int 1, .ref (β + 3), .int 0, .ref (β + 4), .ref (β + 6), .ref (β + 9), .int 0, .int 0, .ref (β + 10), .null, .null, .null, .null, .null, .null, .null]), .inl (G.2.1 4, 10, .inr (.inr (.inr (.inr (fun _ => none))))), .inl (G.2.1 0, 4, .inl (fun _ => 0)), .inl (G.2.1 5, 24, .inr (.inr (.inr (.inr (fun _ => none))))), .inr (6, [.ref (β + 5), .int 0, .int 0, .int 0, .int (-35), .int 0]), .inl (G.2.1 2, 160, .inl (fun _ => 0)), .inr (4, [.ref (β + 4), .ref (β + 7), .ref (β + 8), .int 0]), .inl (G.2.1 0, 160, .inl (fun _ => 0)), .inl (G.2.1 0, 3, .inl (fun _ => 0)), .inl (G.2.1 7, 6, .inr (.inr (.inr (.inr (fun _ => none))))), .inl (G.2.1 6, 4, .inr (.inr (.inr (.inr (fun _ => none))))), .inr (2, [.int 0, .int 0, .int 0, .int 0, .int 0, .ref (β + 12), .ref (β + 13), .null, .null]), .inl (G.2.1 0, 4, .inl (fun _ => 0)), .inl (G.2.1 0, 10, .inl (fun _ => 0))] H1 := hw.set 11 (Nat.le_of_ble_eq_true rfl) hat ho1
  clear hat ho1
  refine lv_aload_n hx hb dX2_init_44 rfl (lv_at hl 0 rfl) ?_
  refine lv_bipush (v := 10) hx hb dX2_init_45 (by decide) ?_
  have hz := hw.1
  replace hz : _ = β + 14 := hz
  refine x_newa (G := G) (cl := vwCl) (N := 10) hx hb (hts (.arrayClass .int) (tg 60 (by decide +kernel) rfl)) C.K hS (by decide) rfl (by decide) (Nat.le_of_ble_eq_true rfl) (Nat.le_of_ble_eq_true rfl) dX2_init_47 (fun H1 hat ho1 hS => ?_)
  rw [hz]
  have hw : LW β G [.inr (8, [.ref (β + 1), .int 0, .ref (β + 2), .int 1, .ref (β + 3), .int 0, .ref (β + 4), .ref (β + 6), .ref (β + 9), .int 0, .int 0, .ref (β + 10), .null, .null, .null, .null, .null, .null, .null]), .inl (G.2.1 4, 10, .inr (.inr (.inr (.inr (fun _ => none))))), .inl (G.2.1 0, 4, .inl (fun _ => 0)), .inl (G.2.1 5, 24, .inr (.inr (.inr (.inr (fun _ => none))))), .inr (6, [.ref (β + 5), .int 0, .int 0, .int 0, .int (-35), .int 0]), .inl (G.2.1 2, 160, .inl (fun _ => 0)), .inr (4, [.ref (β + 4), .ref (β + 7), .ref (β + 8), .int 0]), .inl (G.2.1 0, 160, .inl (fun _ => 0)), .inl (G.2.1 0, 3, .inl (fun _ => 0)), .inl (G.2.1 7, 6, .inr (.inr (.inr (.inr (fun _ => none))))), .inl (G.2.1 6, 4, .inr (.inr (.inr (.inr (fun _ => none))))), .inr (2, [.int 0, .int 0, .int 0, .int 0, .int 0, .ref (β + 12), .ref (β + 13), .null, .null]), .inl (G.2.1 0, 4, .inl (fun _ => 0)), .inl (G.2.1 0, 10, .inl (fun _ => 0)), .inl (G.2.1 0, 10, .inl (fun _ => 0))] H1 := hw.push hat ho1
  clear hat ho1 hz
  refine W.widen (k := 3) (n := 24) (Nat.le_of_ble_eq_true rfl) (Nat.le_of_ble_eq_true rfl) ?_
  refine x_putF (ci := 2) hx hb hts iwX2 tyX2 tyX2_ok nmX2 ho C.K.1 hS (hw.2 11 _ rfl) (hA 11 (by decide)) rfl 7 (by decide) (C.2.2.2.2.1 (.fieldLink RX2 35 RX2 "ages" "[I") (tg 104 (by decide +kernel) rfl)) (fun _ h9 => h9) rfl hin rfl (ty := tyX2 7) (by decide +kernel) rfl rfl (Nat.le_of_ble_eq_true rfl) dX2_init_49 (fun H1 locs hat ho1 hS => ?_)
  have hw : LW β G [.inr (8, [.ref (β + 1), .int 0, .ref (β + 2), .int 1, .ref (β + 3), .int 0, .ref (β + 4), .ref (β + 6), .ref (β + 9), .int 0, .int 0, .ref (β + 10), .null, .null, .null, .null, .null, .null, .null]), .inl (G.2.1 4, 10, .inr (.inr (.inr (.inr (fun _ => none))))), .inl (G.2.1 0, 4, .inl (fun _ => 0)), .inl (G.2.1 5, 24, .inr (.inr (.inr (.inr (fun _ => none))))), .inr (6, [.ref (β + 5), .int 0, .int 0, .int 0, .int (-35), .int 0]), .inl (G.2.1 2, 160, .inl (fun _ => 0)), .inr (4, [.ref (β + 4), .ref (β + 7), .ref (β + 8), .int 0]), .inl (G.2.1 0, 160, .inl (fun _ => 0)), .inl (G.2.1 0, 3, .inl (fun _ => 0)), .inl (G.2.1 7, 6, .inr (.inr (.inr (.inr (fun _ => none))))), .inl (G.2.1 6, 4, .inr (.inr (.inr (.inr (fun _ => none))))), .inr (2, [.int 0, .int 0, .int 0, .int 0, .int 0, .ref (β + 12), .ref (β + 13), .ref (β + 14), .null]), .inl (G.2.1 0, 4, .inl (fun _ => 0)), .inl (G.2.1 0, 10, .inl (fun _ => 0)), .inl (G.2.1 0, 10, .inl (fun _ => 0))] H1 := hw.set 11 (Nat.le_of_ble_eq_true rfl) hat ho1
  clear hat ho1
  refine lv_aload_n hx hb dX2_init_52 rfl (lv_at hl 0 rfl) ?_
  refine lv_bipush (v := 10) hx hb dX2_init_53 (by decide) ?_
  have hz := hw.1
  replace hz : _ = β + 15 := hz
  refine x_newa (G := G) (cl := vwCl) (N := 10) hx hb (hts (.arrayClass .int) (tg 60 (by decide +kernel) rfl)) C.K hS (by decide) rfl (by decide) (Nat.le_of_ble_eq_true rfl) (Nat.le_of_ble_eq_true rfl) dX2_init_55 (fun H1 hat ho1 hS => ?_)
  rw [hz]
  have hw : LW β G [.inr (8, [.ref (β + 1), .int 0, .ref (β + 2), .int 1, .ref (β + 3), .int 0, .ref (β + 4), .ref (β + 6), .ref (β + 9), .int 0, .int 0, .ref (β + 10), .null, .null, .null, .null, .null, .null, .null]), .inl (G.2.1 4, 10, .inr (.inr (.inr (.inr (fun _ => none))))), .inl (G.2.1 0, 4, .inl (fun _ => 0)), .inl (G.2.1 5, 24, .inr (.inr (.inr (.inr (fun _ => none))))), .inr (6, [.ref (β + 5), .int 0, .int 0, .int 0, .int (-35), .int 0]), .inl (G.2.1 2, 160, .inl (fun _ => 0)), .inr (4, [.ref (β + 4), .ref (β + 7), .ref (β + 8), .int 0]), .inl (G.2.1 0, 160, .inl (fun _ => 0)), .inl (G.2.1 0, 3, .inl (fun _ => 0)), .inl (G.2.1 7, 6, .inr (.inr (.inr (.inr (fun _ => none))))), .inl (G.2.1 6, 4, .inr (.inr (.inr (.inr (fun _ => none))))), .inr (2, [.int 0, .int 0, .int 0, .int 0, .int 0, .ref (β + 12), .ref (β + 13), .ref (β + 14), .null]), .inl (G.2.1 0, 4, .inl (fun _ => 0)), .inl (G.2.1 0, 10, .inl (fun _ => 0)), .inl (G.2.1 0, 10, .inl (fun _ => 0)), .inl (G.2.1 0, 10, .inl (fun _ => 0))] H1 := hw.push hat ho1
  clear hat ho1 hz
  refine W.widen (k := 4) (n := 34) (Nat.le_of_ble_eq_true rfl) (Nat.le_of_ble_eq_true rfl) ?_
  refine x_putF (ci := 2) hx hb hts iwX2 tyX2 tyX2_ok nmX2 ho C.K.1 hS (hw.2 11 _ rfl) (hA 11 (by decide)) rfl 8 (by decide) (C.2.2.2.2.1 (.fieldLink RX2 38 RX2 "leads" "[I") (tg 105 (by decide +kernel) rfl)) (fun _ h9 => h9) rfl hin rfl (ty := tyX2 8) (by decide +kernel) rfl rfl (Nat.le_of_ble_eq_true rfl) dX2_init_57 (fun H1 locs hat ho1 hS => ?_)
  have hw : LW β G [.inr (8, [.ref (β + 1), .int 0, .ref (β + 2), .int 1, .ref (β + 3), .int 0, .ref (β + 4), .ref (β + 6), .ref (β + 9), .int 0, .int 0, .ref (β + 10), .null, .null, .null, .null, .null, .null, .null]), .inl (G.2.1 4, 10, .inr (.inr (.inr (.inr (fun _ => none))))), .inl (G.2.1 0, 4, .inl (fun _ => 0)), .inl (G.2.1 5, 24, .inr (.inr (.inr (.inr (fun _ => none))))), .inr (6, [.ref (β + 5), .int 0, .int 0, .int 0, .int (-35), .int 0]), .inl (G.2.1 2, 160, .inl (fun _ => 0)), .inr (4, [.ref (β + 4), .ref (β + 7), .ref (β + 8), .int 0]), .inl (G.2.1 0, 160, .inl (fun _ => 0)), .inl (G.2.1 0, 3, .inl (fun _ => 0)), .inl (G.2.1 7, 6, .inr (.inr (.inr (.inr (fun _ => none))))), .inl (G.2.1 6, 4, .inr (.inr (.inr (.inr (fun _ => none))))), .inr (2, [.int 0, .int 0, .int 0, .int 0, .int 0, .ref (β + 12), .ref (β + 13), .ref (β + 14), .ref (β + 15)]), .inl (G.2.1 0, 4, .inl (fun _ => 0)), .inl (G.2.1 0, 10, .inl (fun _ => 0)), .inl (G.2.1 0, 10, .inl (fun _ => 0)), .inl (G.2.1 0, 10, .inl (fun _ => 0))] H1 := hw.set 11 (Nat.le_of_ble_eq_true rfl) hat ho1
  clear hat ho1
  exact xret_v C hw hS dX2_init_60
theorem dX0_init_0 : decode cX0_init 0 = .ok (.aload_n 0, 1) := by decide +kernel
theorem dX0_init_1 : decode cX0_init 1 = .ok (.invokespecial 3, 3) := by decide +kernel
theorem dX0_init_4 : decode cX0_init 4 = .ok (.aload_n 0, 1) := by decide +kernel
theorem dX0_init_5 : decode cX0_init 5 = .ok (.bipush 10, 2) := by decide +kernel
theorem dX0_init_7 : decode cX0_init 7 = .ok (.newarray .int, 2) := by decide +kernel
theorem dX0_init_9 : decode cX0_init 9 = .ok (.putfield 9, 3) := by decide +kernel
theorem dX0_init_12 : decode cX0_init 12 = .ok (.aload_n 0, 1) := by decide +kernel
theorem dX0_init_13 : decode cX0_init 13 = .ok (.bipush 10, 2) := by decide +kernel
theorem dX0_init_15 : decode cX0_init 15 = .ok (.newarray .int, 2) := by decide +kernel
theorem dX0_init_17 : decode cX0_init 17 = .ok (.putfield 15, 3) := by decide +kernel
theorem dX0_init_20 : decode cX0_init 20 = .ok (.aload_n 0, 1) := by decide +kernel
theorem dX0_init_21 : decode cX0_init 21 = .ok (.iconst 5, 1) := by decide +kernel
theorem dX0_init_22 : decode cX0_init 22 = .ok (.newarray .int, 2) := by decide +kernel
theorem dX0_init_24 : decode cX0_init 24 = .ok (.putfield 18, 3) := by decide +kernel
theorem dX0_init_27 : decode cX0_init 27 = .ok (.aload_n 0, 1) := by decide +kernel
theorem dX0_init_28 : decode cX0_init 28 = .ok (.bipush 7, 2) := by decide +kernel
theorem dX0_init_30 : decode cX0_init 30 = .ok (.newarray .int, 2) := by decide +kernel
theorem dX0_init_32 : decode cX0_init 32 = .ok (.putfield 21, 3) := by decide +kernel
theorem dX0_init_35 : decode cX0_init 35 = .ok (.aload_n 0, 1) := by decide +kernel
theorem dX0_init_36 : decode cX0_init 36 = .ok (.bipush 7, 2) := by decide +kernel
theorem dX0_init_38 : decode cX0_init 38 = .ok (.newarray .int, 2) := by decide +kernel
theorem dX0_init_40 : decode cX0_init 40 = .ok (.putfield 24, 3) := by decide +kernel
theorem dX0_init_43 : decode cX0_init 43 = .ok (.aload_n 0, 1) := by decide +kernel
theorem dX0_init_44 : decode cX0_init 44 = .ok (.iconst 0, 1) := by decide +kernel
theorem dX0_init_45 : decode cX0_init 45 = .ok (.putfield 27, 3) := by decide +kernel
theorem dX0_init_48 : decode cX0_init 48 = .ok (.aload_n 0, 1) := by decide +kernel
theorem dX0_init_49 : decode cX0_init 49 = .ok (.iconst 0, 1) := by decide +kernel
theorem dX0_init_50 : decode cX0_init 50 = .ok (.putfield 31, 3) := by decide +kernel
theorem dX0_init_53 : decode cX0_init 53 = .ok (.return_, 1) := by decide +kernel
set_option maxHeartbeats 4000000 in
set_option maxRecDepth 100000 in
theorem kX0_init {l : Launch} {G : xG} {β : Nat} {A : Nat → Prop} (hA : ∀ k, k < 31 → A (β + k)) : Met l yX0_init (.code yX0_init cX0_init 1 none :: GT) { frames := 1, cells := 5, slots := 39, locals := 12 } (PcW [.ref (β + 16)] (LW β G [.inr (8, [.ref (β + 1), .int 0, .ref (β + 2), .int 1, .ref (β + 3), .int 0, .ref (β + 4), .ref (β + 6), .ref (β + 9), .int 0, .int 0, .ref (β + 10), .ref (β + 11), .null, .null, .null, .null, .null, .null]), .inl (G.2.1 4, 10, .inr (.inr (.inr (.inr (fun _ => none))))), .inl (G.2.1 0, 4, .inl (fun _ => 0)), .inl (G.2.1 5, 24, .inr (.inr (.inr (.inr (fun _ => none))))), .inr (6, [.ref (β + 5), .int 0, .int 0, .int 0, .int (-35), .int 0]), .inl (G.2.1 2, 160, .inl (fun _ => 0)), .inr (4, [.ref (β + 4), .ref (β + 7), .ref (β + 8), .int 0]), .inl (G.2.1 0, 160, .inl (fun _ => 0)), .inl (G.2.1 0, 3, .inl (fun _ => 0)), .inl (G.2.1 7, 6, .inr (.inr (.inr (.inr (fun _ => none))))), .inl (G.2.1 6, 4, .inr (.inr (.inr (.inr (fun _ => none))))), .inr (2, [.int 0, .int 0, .int 0, .int 0, .int 0, .ref (β + 12), .ref (β + 13), .ref (β + 14), .ref (β + 15)]), .inl (G.2.1 0, 4, .inl (fun _ => 0)), .inl (G.2.1 0, 10, .inl (fun _ => 0)), .inl (G.2.1 0, 10, .inl (fun _ => 0)), .inl (G.2.1 0, 10, .inl (fun _ => 0)), .inr (0, [.null, .null, .null, .null, .null, .int 0, .int 0])]) (KK G)) (QcW A none (LW β G [.inr (8, [.ref (β + 1), .int 0, .ref (β + 2), .int 1, .ref (β + 3), .int 0, .ref (β + 4), .ref (β + 6), .ref (β + 9), .int 0, .int 0, .ref (β + 10), .ref (β + 11), .null, .null, .null, .null, .null, .null]), .inl (G.2.1 4, 10, .inr (.inr (.inr (.inr (fun _ => none))))), .inl (G.2.1 0, 4, .inl (fun _ => 0)), .inl (G.2.1 5, 24, .inr (.inr (.inr (.inr (fun _ => none))))), .inr (6, [.ref (β + 5), .int 0, .int 0, .int 0, .int (-35), .int 0]), .inl (G.2.1 2, 160, .inl (fun _ => 0)), .inr (4, [.ref (β + 4), .ref (β + 7), .ref (β + 8), .int 0]), .inl (G.2.1 0, 160, .inl (fun _ => 0)), .inl (G.2.1 0, 3, .inl (fun _ => 0)), .inl (G.2.1 7, 6, .inr (.inr (.inr (.inr (fun _ => none))))), .inl (G.2.1 6, 4, .inr (.inr (.inr (.inr (fun _ => none))))), .inr (2, [.int 0, .int 0, .int 0, .int 0, .int 0, .ref (β + 12), .ref (β + 13), .ref (β + 14), .ref (β + 15)]), .inl (G.2.1 0, 4, .inl (fun _ => 0)), .inl (G.2.1 0, 10, .inl (fun _ => 0)), .inl (G.2.1 0, 10, .inl (fun _ => 0)), .inl (G.2.1 0, 10, .inl (fun _ => 0)), .inr (0, [.ref (β + 17), .ref (β + 18), .ref (β + 19), .ref (β + 20), .ref (β + 21), .int 0, .int 0]), .inl (G.2.1 0, 10, .inl (fun _ => 0)), .inl (G.2.1 0, 10, .inl (fun _ => 0)), .inl (G.2.1 0, 5, .inl (fun _ => 0)), .inl (G.2.1 0, 7, .inl (fun _ => 0)), .inl (G.2.1 0, 7, .inl (fun _ => 0))])) 5 39 A := by
  refine xproI (own := RX0) (by decide +kernel) rfl (Nat.le_of_ble_eq_true rfl) ?_
  intro p e s m args below meth c C hin hw ls hl
  have hx := C.1
  have hb := C.2.1
  have ho := C.2.2.2.1
  have hts := C.2.2.2.2.1
  have hS : va_S A s.heap s.heap [] := va_S.rf
  have hl : lv_has ls 1 [(0, .ref (β + 16))] := hl
  refine lv_aload_n hx hb dX0_init_0 rfl (lv_at hl 0 rfl) ?_
  refine W.objInit hx hb ho (hts (.methodLink RX0 3 objectInit) (tg 130 (by decide +kernel) rfl)) (hts (.instanceMethod objectInit) (tg 25 (by decide +kernel) rfl)) (hts (.code objectInit ⟨#[0xb1]⟩ 1 none) (tg 26 (by decide +kernel) rfl)) rfl (by rw [C.2.2.1]; exact hl.1) rfl dX0_init_1 (Nat.le_of_ble_eq_true rfl) (Nat.le_of_ble_eq_true rfl) ?_
  refine W.eq (g2 := F0 m 4 ls []) rfl ?_
  refine lv_aload_n hx hb dX0_init_4 rfl (lv_at hl 0 rfl) ?_
  refine lv_bipush (v := 10) hx hb dX0_init_5 (by decide) ?_
  have hz := hw.1
  replace hz : _ = β + 17 := hz
  refine x_newa (G := G) (cl := vwCl) (N := 10) hx hb (hts (.arrayClass .int) (tg 60 (by decide +kernel) rfl)) C.K hS (by decide) rfl (by decide) (Nat.le_of_ble_eq_true rfl) (Nat.le_of_ble_eq_true rfl) dX0_init_7 (fun H1 hat ho1 hS => ?_)
  rw [hz]
  have hw : LW β G [.inr (8, [.ref (β + 1), .int 0, .ref (β + 2), .int 1, .ref (β + 3), .int 0, .ref (β + 4), .ref (β + 6), .ref (β + 9), .int 0, .int 0, .ref (β + 10), .ref (β + 11), .null, .null, .null, .null, .null, .null]), .inl (G.2.1 4, 10, .inr (.inr (.inr (.inr (fun _ => none))))), .inl (G.2.1 0, 4, .inl (fun _ => 0)), .inl (G.2.1 5, 24, .inr (.inr (.inr (.inr (fun _ => none))))), .inr (6, [.ref (β + 5), .int 0, .int 0, .int 0, .int (-35), .int 0]), .inl (G.2.1 2, 160, .inl (fun _ => 0)), .inr (4, [.ref (β + 4), .ref (β + 7), .ref (β + 8), .int 0]), .inl (G.2.1 0, 160, .inl (fun _ => 0)), .inl (G.2.1 0, 3, .inl (fun _ => 0)), .inl (G.2.1 7, 6, .inr (.inr (.inr (.inr (fun _ => none))))), .inl (G.2.1 6, 4, .inr (.inr (.inr (.inr (fun _ => none))))), .inr (2, [.int 0, .int 0, .int 0, .int 0, .int 0, .ref (β + 12), .ref (β + 13), .ref (β + 14), .ref (β + 15)]), .inl (G.2.1 0, 4, .inl (fun _ => 0)), .inl (G.2.1 0, 10, .inl (fun _ => 0)), .inl (G.2.1 0, 10, .inl (fun _ => 0)), .inl (G.2.1 0, 10, .inl (fun _ => 0)), .inr (0, [.null, .null, .null, .null, .null, .int 0, .int 0]), .inl (G.2.1 0, 10, .inl (fun _ => 0))] H1 := hw.push hat ho1
  clear hat ho1 hz
  refine W.widen (k := 1) (n := 10) (Nat.le_of_ble_eq_true rfl) (Nat.le_of_ble_eq_true rfl) ?_
  refine x_putF (ci := 0) hx hb hts iwX0 tyX0 tyX0_ok nmX0 ho C.K.1 hS (hw.2 16 _ rfl) (hA 16 (by decide)) rfl 0 (by decide) (C.2.2.2.2.1 (.fieldLink RX0 9 RX0 "bases" "[I") (tg 131 (by decide +kernel) rfl)) (fun _ h9 => h9) rfl hin rfl (ty := tyX0 0) (by decide +kernel) rfl rfl (Nat.le_of_ble_eq_true rfl) dX0_init_9 (fun H1 locs hat ho1 hS => ?_)
  have hw : LW β G [.inr (8, [.ref (β + 1), .int 0, .ref (β + 2), .int 1, .ref (β + 3), .int 0, .ref (β + 4), .ref (β + 6), .ref (β + 9), .int 0, .int 0, .ref (β + 10), .ref (β + 11), .null, .null, .null, .null, .null, .null]), .inl (G.2.1 4, 10, .inr (.inr (.inr (.inr (fun _ => none))))), .inl (G.2.1 0, 4, .inl (fun _ => 0)), .inl (G.2.1 5, 24, .inr (.inr (.inr (.inr (fun _ => none))))), .inr (6, [.ref (β + 5), .int 0, .int 0, .int 0, .int (-35), .int 0]), .inl (G.2.1 2, 160, .inl (fun _ => 0)), .inr (4, [.ref (β + 4), .ref (β + 7), .ref (β + 8), .int 0]), .inl (G.2.1 0, 160, .inl (fun _ => 0)), .inl (G.2.1 0, 3, .inl (fun _ => 0)), .inl (G.2.1 7, 6, .inr (.inr (.inr (.inr (fun _ => none))))), .inl (G.2.1 6, 4, .inr (.inr (.inr (.inr (fun _ => none))))), .inr (2, [.int 0, .int 0, .int 0, .int 0, .int 0, .ref (β + 12), .ref (β + 13), .ref (β + 14), .ref (β + 15)]), .inl (G.2.1 0, 4, .inl (fun _ => 0)), .inl (G.2.1 0, 10, .inl (fun _ => 0)), .inl (G.2.1 0, 10, .inl (fun _ => 0)), .inl (G.2.1 0, 10, .inl (fun _ => 0)), .inr (0, [.ref (β + 17), .null, .null, .null, .null, .int 0, .int 0]), .inl (G.2.1 0, 10, .inl (fun _ => 0))] H1 := hw.set 16 (Nat.le_of_ble_eq_true rfl) hat ho1
  clear hat ho1
  refine lv_aload_n hx hb dX0_init_12 rfl (lv_at hl 0 rfl) ?_
  refine lv_bipush (v := 10) hx hb dX0_init_13 (by decide) ?_
  have hz := hw.1
  replace hz : _ = β + 18 := hz
  refine x_newa (G := G) (cl := vwCl) (N := 10) hx hb (hts (.arrayClass .int) (tg 60 (by decide +kernel) rfl)) C.K hS (by decide) rfl (by decide) (Nat.le_of_ble_eq_true rfl) (Nat.le_of_ble_eq_true rfl) dX0_init_15 (fun H1 hat ho1 hS => ?_)
  rw [hz]
  have hw : LW β G [.inr (8, [.ref (β + 1), .int 0, .ref (β + 2), .int 1, .ref (β + 3), .int 0, .ref (β + 4), .ref (β + 6), .ref (β + 9), .int 0, .int 0, .ref (β + 10), .ref (β + 11), .null, .null, .null, .null, .null, .null]), .inl (G.2.1 4, 10, .inr (.inr (.inr (.inr (fun _ => none))))), .inl (G.2.1 0, 4, .inl (fun _ => 0)), .inl (G.2.1 5, 24, .inr (.inr (.inr (.inr (fun _ => none))))), .inr (6, [.ref (β + 5), .int 0, .int 0, .int 0, .int (-35), .int 0]), .inl (G.2.1 2, 160, .inl (fun _ => 0)), .inr (4, [.ref (β + 4), .ref (β + 7), .ref (β + 8), .int 0]), .inl (G.2.1 0, 160, .inl (fun _ => 0)), .inl (G.2.1 0, 3, .inl (fun _ => 0)), .inl (G.2.1 7, 6, .inr (.inr (.inr (.inr (fun _ => none))))), .inl (G.2.1 6, 4, .inr (.inr (.inr (.inr (fun _ => none))))), .inr (2, [.int 0, .int 0, .int 0, .int 0, .int 0, .ref (β + 12), .ref (β + 13), .ref (β + 14), .ref (β + 15)]), .inl (G.2.1 0, 4, .inl (fun _ => 0)), .inl (G.2.1 0, 10, .inl (fun _ => 0)), .inl (G.2.1 0, 10, .inl (fun _ => 0)), .inl (G.2.1 0, 10, .inl (fun _ => 0)), .inr (0, [.ref (β + 17), .null, .null, .null, .null, .int 0, .int 0]), .inl (G.2.1 0, 10, .inl (fun _ => 0)), .inl (G.2.1 0, 10, .inl (fun _ => 0))] H1 := hw.push hat ho1
  clear hat ho1 hz
  refine W.widen (k := 2) (n := 20) (Nat.le_of_ble_eq_true rfl) (Nat.le_of_ble_eq_true rfl) ?_
  refine x_putF (ci := 0) hx hb hts iwX0 tyX0 tyX0_ok nmX0 ho C.K.1 hS (hw.2 16 _ rfl) (hA 16 (by decide)) rfl 1 (by decide) (C.2.2.2.2.1 (.fieldLink RX0 15 RX0 "shares" "[I") (tg 133 (by decide +kernel) rfl)) (fun _ h9 => h9) rfl hin rfl (ty := tyX0 1) (by decide +kernel) rfl rfl (Nat.le_of_ble_eq_true rfl) dX0_init_17 (fun H1 locs hat ho1 hS => ?_)
  have hw : LW β G [.inr (8, [.ref (β + 1), .int 0, .ref (β + 2), .int 1, .ref (β + 3), .int 0, .ref (β + 4), .ref (β + 6), .ref (β + 9), .int 0, .int 0, .ref (β + 10), .ref (β + 11), .null, .null, .null, .null, .null, .null]), .inl (G.2.1 4, 10, .inr (.inr (.inr (.inr (fun _ => none))))), .inl (G.2.1 0, 4, .inl (fun _ => 0)), .inl (G.2.1 5, 24, .inr (.inr (.inr (.inr (fun _ => none))))), .inr (6, [.ref (β + 5), .int 0, .int 0, .int 0, .int (-35), .int 0]), .inl (G.2.1 2, 160, .inl (fun _ => 0)), .inr (4, [.ref (β + 4), .ref (β + 7), .ref (β + 8), .int 0]), .inl (G.2.1 0, 160, .inl (fun _ => 0)), .inl (G.2.1 0, 3, .inl (fun _ => 0)), .inl (G.2.1 7, 6, .inr (.inr (.inr (.inr (fun _ => none))))), .inl (G.2.1 6, 4, .inr (.inr (.inr (.inr (fun _ => none))))), .inr (2, [.int 0, .int 0, .int 0, .int 0, .int 0, .ref (β + 12), .ref (β + 13), .ref (β + 14), .ref (β + 15)]), .inl (G.2.1 0, 4, .inl (fun _ => 0)), .inl (G.2.1 0, 10, .inl (fun _ => 0)), .inl (G.2.1 0, 10, .inl (fun _ => 0)), .inl (G.2.1 0, 10, .inl (fun _ => 0)), .inr (0, [.ref (β + 17), .ref (β + 18), .null, .null, .null, .int 0, .int 0]), .inl (G.2.1 0, 10, .inl (fun _ => 0)), .inl (G.2.1 0, 10, .inl (fun _ => 0))] H1 := hw.set 16 (Nat.le_of_ble_eq_true rfl) hat ho1
  clear hat ho1
  refine lv_aload_n hx hb dX0_init_20 rfl (lv_at hl 0 rfl) ?_
  refine lv_iconst (v := 5) hx hb dX0_init_21 (by decide) ?_
  have hz := hw.1
  replace hz : _ = β + 19 := hz
  refine x_newa (G := G) (cl := vwCl) (N := 5) hx hb (hts (.arrayClass .int) (tg 60 (by decide +kernel) rfl)) C.K hS (by decide) rfl (by decide) (Nat.le_of_ble_eq_true rfl) (Nat.le_of_ble_eq_true rfl) dX0_init_22 (fun H1 hat ho1 hS => ?_)
  rw [hz]
  have hw : LW β G [.inr (8, [.ref (β + 1), .int 0, .ref (β + 2), .int 1, .ref (β + 3), .int 0, .ref (β + 4), .ref (β + 6), .ref (β + 9), .int 0, .int 0, .ref (β + 10), .ref (β + 11), .null, .null, .null, .null, .null, .null]), .inl (G.2.1 4, 10, .inr (.inr (.inr (.inr (fun _ => none))))), .inl (G.2.1 0, 4, .inl (fun _ => 0)), .inl (G.2.1 5, 24, .inr (.inr (.inr (.inr (fun _ => none))))), .inr (6, [.ref (β + 5), .int 0, .int 0, .int 0, .int (-35), .int 0]), .inl (G.2.1 2, 160, .inl (fun _ => 0)), .inr (4, [.ref (β + 4), .ref (β + 7), .ref (β + 8), .int 0]), .inl (G.2.1 0, 160, .inl (fun _ => 0)), .inl (G.2.1 0, 3, .inl (fun _ => 0)), .inl (G.2.1 7, 6, .inr (.inr (.inr (.inr (fun _ => none))))), .inl (G.2.1 6, 4, .inr (.inr (.inr (.inr (fun _ => none))))), .inr (2, [.int 0, .int 0, .int 0, .int 0, .int 0, .ref (β + 12), .ref (β + 13), .ref (β + 14), .ref (β + 15)]), .inl (G.2.1 0, 4, .inl (fun _ => 0)), .inl (G.2.1 0, 10, .inl (fun _ => 0)), .inl (G.2.1 0, 10, .inl (fun _ => 0)), .inl (G.2.1 0, 10, .inl (fun _ => 0)), .inr (0, [.ref (β + 17), .ref (β + 18), .null, .null, .null, .int 0, .int 0]), .inl (G.2.1 0, 10, .inl (fun _ => 0)), .inl (G.2.1 0, 10, .inl (fun _ => 0)), .inl (G.2.1 0, 5, .inl (fun _ => 0))] H1 := hw.push hat ho1
  clear hat ho1 hz
  refine W.widen (k := 3) (n := 25) (Nat.le_of_ble_eq_true rfl) (Nat.le_of_ble_eq_true rfl) ?_
  refine x_putF (ci := 0) hx hb hts iwX0 tyX0 tyX0_ok nmX0 ho C.K.1 hS (hw.2 16 _ rfl) (hA 16 (by decide)) rfl 2 (by decide) (C.2.2.2.2.1 (.fieldLink RX0 18 RX0 "ways" "[I") (tg 134 (by decide +kernel) rfl)) (fun _ h9 => h9) rfl hin rfl (ty := tyX0 2) (by decide +kernel) rfl rfl (Nat.le_of_ble_eq_true rfl) dX0_init_24 (fun H1 locs hat ho1 hS => ?_)
  have hw : LW β G [.inr (8, [.ref (β + 1), .int 0, .ref (β + 2), .int 1, .ref (β + 3), .int 0, .ref (β + 4), .ref (β + 6), .ref (β + 9), .int 0, .int 0, .ref (β + 10), .ref (β + 11), .null, .null, .null, .null, .null, .null]), .inl (G.2.1 4, 10, .inr (.inr (.inr (.inr (fun _ => none))))), .inl (G.2.1 0, 4, .inl (fun _ => 0)), .inl (G.2.1 5, 24, .inr (.inr (.inr (.inr (fun _ => none))))), .inr (6, [.ref (β + 5), .int 0, .int 0, .int 0, .int (-35), .int 0]), .inl (G.2.1 2, 160, .inl (fun _ => 0)), .inr (4, [.ref (β + 4), .ref (β + 7), .ref (β + 8), .int 0]), .inl (G.2.1 0, 160, .inl (fun _ => 0)), .inl (G.2.1 0, 3, .inl (fun _ => 0)), .inl (G.2.1 7, 6, .inr (.inr (.inr (.inr (fun _ => none))))), .inl (G.2.1 6, 4, .inr (.inr (.inr (.inr (fun _ => none))))), .inr (2, [.int 0, .int 0, .int 0, .int 0, .int 0, .ref (β + 12), .ref (β + 13), .ref (β + 14), .ref (β + 15)]), .inl (G.2.1 0, 4, .inl (fun _ => 0)), .inl (G.2.1 0, 10, .inl (fun _ => 0)), .inl (G.2.1 0, 10, .inl (fun _ => 0)), .inl (G.2.1 0, 10, .inl (fun _ => 0)), .inr (0, [.ref (β + 17), .ref (β + 18), .ref (β + 19), .null, .null, .int 0, .int 0]), .inl (G.2.1 0, 10, .inl (fun _ => 0)), .inl (G.2.1 0, 10, .inl (fun _ => 0)), .inl (G.2.1 0, 5, .inl (fun _ => 0))] H1 := hw.set 16 (Nat.le_of_ble_eq_true rfl) hat ho1
  clear hat ho1
  refine lv_aload_n hx hb dX0_init_27 rfl (lv_at hl 0 rfl) ?_
  refine lv_bipush (v := 7) hx hb dX0_init_28 (by decide) ?_
  have hz := hw.1
  replace hz : _ = β + 20 := hz
  refine x_newa (G := G) (cl := vwCl) (N := 7) hx hb (hts (.arrayClass .int) (tg 60 (by decide +kernel) rfl)) C.K hS (by decide) rfl (by decide) (Nat.le_of_ble_eq_true rfl) (Nat.le_of_ble_eq_true rfl) dX0_init_30 (fun H1 hat ho1 hS => ?_)
  rw [hz]
  have hw : LW β G [.inr (8, [.ref (β + 1), .int 0, .ref (β + 2), .int 1, .ref (β + 3), .int 0, .ref (β + 4), .ref (β + 6), .ref (β + 9), .int 0, .int 0, .ref (β + 10), .ref (β + 11), .null, .null, .null, .null, .null, .null]), .inl (G.2.1 4, 10, .inr (.inr (.inr (.inr (fun _ => none))))), .inl (G.2.1 0, 4, .inl (fun _ => 0)), .inl (G.2.1 5, 24, .inr (.inr (.inr (.inr (fun _ => none))))), .inr (6, [.ref (β + 5), .int 0, .int 0, .int 0, .int (-35), .int 0]), .inl (G.2.1 2, 160, .inl (fun _ => 0)), .inr (4, [.ref (β + 4), .ref (β + 7), .ref (β + 8), .int 0]), .inl (G.2.1 0, 160, .inl (fun _ => 0)), .inl (G.2.1 0, 3, .inl (fun _ => 0)), .inl (G.2.1 7, 6, .inr (.inr (.inr (.inr (fun _ => none))))), .inl (G.2.1 6, 4, .inr (.inr (.inr (.inr (fun _ => none))))), .inr (2, [.int 0, .int 0, .int 0, .int 0, .int 0, .ref (β + 12), .ref (β + 13), .ref (β + 14), .ref (β + 15)]), .inl (G.2.1 0, 4, .inl (fun _ => 0)), .inl (G.2.1 0, 10, .inl (fun _ => 0)), .inl (G.2.1 0, 10, .inl (fun _ => 0)), .inl (G.2.1 0, 10, .inl (fun _ => 0)), .inr (0, [.ref (β + 17), .ref (β + 18), .ref (β + 19), .null, .null, .int 0, .int 0]), .inl (G.2.1 0, 10, .inl (fun _ => 0)), .inl (G.2.1 0, 10, .inl (fun _ => 0)), .inl (G.2.1 0, 5, .inl (fun _ => 0)), .inl (G.2.1 0, 7, .inl (fun _ => 0))] H1 := hw.push hat ho1
  clear hat ho1 hz
  refine W.widen (k := 4) (n := 32) (Nat.le_of_ble_eq_true rfl) (Nat.le_of_ble_eq_true rfl) ?_
  refine x_putF (ci := 0) hx hb hts iwX0 tyX0 tyX0_ok nmX0 ho C.K.1 hS (hw.2 16 _ rfl) (hA 16 (by decide)) rfl 3 (by decide) (C.2.2.2.2.1 (.fieldLink RX0 21 RX0 "tails" "[I") (tg 135 (by decide +kernel) rfl)) (fun _ h9 => h9) rfl hin rfl (ty := tyX0 3) (by decide +kernel) rfl rfl (Nat.le_of_ble_eq_true rfl) dX0_init_32 (fun H1 locs hat ho1 hS => ?_)
  have hw : LW β G [.inr (8, [.ref (β + 1), .int 0, .ref (β + 2), .int 1, .ref (β + 3), .int 0, .ref (β + 4), .ref (β + 6), .ref (β + 9), .int 0, .int 0, .ref (β + 10), .ref (β + 11), .null, .null, .null, .null, .null, .null]), .inl (G.2.1 4, 10, .inr (.inr (.inr (.inr (fun _ => none))))), .inl (G.2.1 0, 4, .inl (fun _ => 0)), .inl (G.2.1 5, 24, .inr (.inr (.inr (.inr (fun _ => none))))), .inr (6, [.ref (β + 5), .int 0, .int 0, .int 0, .int (-35), .int 0]), .inl (G.2.1 2, 160, .inl (fun _ => 0)), .inr (4, [.ref (β + 4), .ref (β + 7), .ref (β + 8), .int 0]), .inl (G.2.1 0, 160, .inl (fun _ => 0)), .inl (G.2.1 0, 3, .inl (fun _ => 0)), .inl (G.2.1 7, 6, .inr (.inr (.inr (.inr (fun _ => none))))), .inl (G.2.1 6, 4, .inr (.inr (.inr (.inr (fun _ => none))))), .inr (2, [.int 0, .int 0, .int 0, .int 0, .int 0, .ref (β + 12), .ref (β + 13), .ref (β + 14), .ref (β + 15)]), .inl (G.2.1 0, 4, .inl (fun _ => 0)), .inl (G.2.1 0, 10, .inl (fun _ => 0)), .inl (G.2.1 0, 10, .inl (fun _ => 0)), .inl (G.2.1 0, 10, .inl (fun _ => 0)), .inr (0, [.ref (β + 17), .ref (β + 18), .ref (β + 19), .ref (β + 20), .null, .int 0, .int 0]), .inl (G.2.1 0, 10, .inl (fun _ => 0)), .inl (G.2.1 0, 10, .inl (fun _ => 0)), .inl (G.2.1 0, 5, .inl (fun _ => 0)), .inl (G.2.1 0, 7, .inl (fun _ => 0))] H1 := hw.set 16 (Nat.le_of_ble_eq_true rfl) hat ho1
  clear hat ho1
  refine lv_aload_n hx hb dX0_init_35 rfl (lv_at hl 0 rfl) ?_
  refine lv_bipush (v := 7) hx hb dX0_init_36 (by decide) ?_
  have hz := hw.1
  replace hz : _ = β + 21 := hz
  refine x_newa (G := G) (cl := vwCl) (N := 7) hx hb (hts (.arrayClass .int) (tg 60 (by decide +kernel) rfl)) C.K hS (by decide) rfl (by decide) (Nat.le_of_ble_eq_true rfl) (Nat.le_of_ble_eq_true rfl) dX0_init_38 (fun H1 hat ho1 hS => ?_)
  rw [hz]
  have hw : LW β G [.inr (8, [.ref (β + 1), .int 0, .ref (β + 2), .int 1, .ref (β + 3), .int 0, .ref (β + 4), .ref (β + 6), .ref (β + 9), .int 0, .int 0, .ref (β + 10), .ref (β + 11), .null, .null, .null, .null, .null, .null]), .inl (G.2.1 4, 10, .inr (.inr (.inr (.inr (fun _ => none))))), .inl (G.2.1 0, 4, .inl (fun _ => 0)), .inl (G.2.1 5, 24, .inr (.inr (.inr (.inr (fun _ => none))))), .inr (6, [.ref (β + 5), .int 0, .int 0, .int 0, .int (-35), .int 0]), .inl (G.2.1 2, 160, .inl (fun _ => 0)), .inr (4, [.ref (β + 4), .ref (β + 7), .ref (β + 8), .int 0]), .inl (G.2.1 0, 160, .inl (fun _ => 0)), .inl (G.2.1 0, 3, .inl (fun _ => 0)), .inl (G.2.1 7, 6, .inr (.inr (.inr (.inr (fun _ => none))))), .inl (G.2.1 6, 4, .inr (.inr (.inr (.inr (fun _ => none))))), .inr (2, [.int 0, .int 0, .int 0, .int 0, .int 0, .ref (β + 12), .ref (β + 13), .ref (β + 14), .ref (β + 15)]), .inl (G.2.1 0, 4, .inl (fun _ => 0)), .inl (G.2.1 0, 10, .inl (fun _ => 0)), .inl (G.2.1 0, 10, .inl (fun _ => 0)), .inl (G.2.1 0, 10, .inl (fun _ => 0)), .inr (0, [.ref (β + 17), .ref (β + 18), .ref (β + 19), .ref (β + 20), .null, .int 0, .int 0]), .inl (G.2.1 0, 10, .inl (fun _ => 0)), .inl (G.2.1 0, 10, .inl (fun _ => 0)), .inl (G.2.1 0, 5, .inl (fun _ => 0)), .inl (G.2.1 0, 7, .inl (fun _ => 0)), .inl (G.2.1 0, 7, .inl (fun _ => 0))] H1 := hw.push hat ho1
  clear hat ho1 hz
  refine W.widen (k := 5) (n := 39) (Nat.le_of_ble_eq_true rfl) (Nat.le_of_ble_eq_true rfl) ?_
  refine x_putF (ci := 0) hx hb hts iwX0 tyX0 tyX0_ok nmX0 ho C.K.1 hS (hw.2 16 _ rfl) (hA 16 (by decide)) rfl 4 (by decide) (C.2.2.2.2.1 (.fieldLink RX0 24 RX0 "longerTails" "[I") (tg 136 (by decide +kernel) rfl)) (fun _ h9 => h9) rfl hin rfl (ty := tyX0 4) (by decide +kernel) rfl rfl (Nat.le_of_ble_eq_true rfl) dX0_init_40 (fun H1 locs hat ho1 hS => ?_)
  have hw : LW β G [.inr (8, [.ref (β + 1), .int 0, .ref (β + 2), .int 1, .ref (β + 3), .int 0, .ref (β + 4), .ref (β + 6), .ref (β + 9), .int 0, .int 0, .ref (β + 10), .ref (β + 11), .null, .null, .null, .null, .null, .null]), .inl (G.2.1 4, 10, .inr (.inr (.inr (.inr (fun _ => none))))), .inl (G.2.1 0, 4, .inl (fun _ => 0)), .inl (G.2.1 5, 24, .inr (.inr (.inr (.inr (fun _ => none))))), .inr (6, [.ref (β + 5), .int 0, .int 0, .int 0, .int (-35), .int 0]), .inl (G.2.1 2, 160, .inl (fun _ => 0)), .inr (4, [.ref (β + 4), .ref (β + 7), .ref (β + 8), .int 0]), .inl (G.2.1 0, 160, .inl (fun _ => 0)), .inl (G.2.1 0, 3, .inl (fun _ => 0)), .inl (G.2.1 7, 6, .inr (.inr (.inr (.inr (fun _ => none))))), .inl (G.2.1 6, 4, .inr (.inr (.inr (.inr (fun _ => none))))), .inr (2, [.int 0, .int 0, .int 0, .int 0, .int 0, .ref (β + 12), .ref (β + 13), .ref (β + 14), .ref (β + 15)]), .inl (G.2.1 0, 4, .inl (fun _ => 0)), .inl (G.2.1 0, 10, .inl (fun _ => 0)), .inl (G.2.1 0, 10, .inl (fun _ => 0)), .inl (G.2.1 0, 10, .inl (fun _ => 0)), .inr (0, [.ref (β + 17), .ref (β + 18), .ref (β + 19), .ref (β + 20), .ref (β + 21), .int 0, .int 0]), .inl (G.2.1 0, 10, .inl (fun _ => 0)), .inl (G.2.1 0, 10, .inl (fun _ => 0)), .inl (G.2.1 0, 5, .inl (fun _ => 0)), .inl (G.2.1 0, 7, .inl (fun _ => 0)), .inl (G.2.1 0, 7, .inl (fun _ => 0))] H1 := hw.set 16 (Nat.le_of_ble_eq_true rfl) hat ho1
  clear hat ho1
  refine lv_aload_n hx hb dX0_init_43 rfl (lv_at hl 0 rfl) ?_
  refine lv_iconst (v := 0) hx hb dX0_init_44 (by decide) ?_
  refine x_put (ci := 0) hx hb hts iwX0 tyX0 tyX0_ok nmX0 ho C.K.1 hS (hw.2 16 _ rfl) (hA 16 (by decide)) rfl 5 (by decide) (C.2.2.2.2.1 (.fieldLink RX0 27 RX0 "field" "I") (tg 137 (by decide +kernel) rfl)) (fun _ h9 => h9) rfl (ty := tyX0 5) (by decide +kernel) rfl rfl (Nat.le_of_ble_eq_true rfl) dX0_init_45 (fun H1 locs hat ho1 hS => ?_)
  have hw : LW β G [.inr (8, [.ref (β + 1), .int 0, .ref (β + 2), .int 1, .ref (β + 3), .int 0, .ref (β + 4), .ref (β + 6), .ref (β + 9), .int 0, .int 0, .ref (β + 10), .ref (β + 11), .null, .null, .null, .null, .null, .null]), .inl (G.2.1 4, 10, .inr (.inr (.inr (.inr (fun _ => none))))), .inl (G.2.1 0, 4, .inl (fun _ => 0)), .inl (G.2.1 5, 24, .inr (.inr (.inr (.inr (fun _ => none))))), .inr (6, [.ref (β + 5), .int 0, .int 0, .int 0, .int (-35), .int 0]), .inl (G.2.1 2, 160, .inl (fun _ => 0)), .inr (4, [.ref (β + 4), .ref (β + 7), .ref (β + 8), .int 0]), .inl (G.2.1 0, 160, .inl (fun _ => 0)), .inl (G.2.1 0, 3, .inl (fun _ => 0)), .inl (G.2.1 7, 6, .inr (.inr (.inr (.inr (fun _ => none))))), .inl (G.2.1 6, 4, .inr (.inr (.inr (.inr (fun _ => none))))), .inr (2, [.int 0, .int 0, .int 0, .int 0, .int 0, .ref (β + 12), .ref (β + 13), .ref (β + 14), .ref (β + 15)]), .inl (G.2.1 0, 4, .inl (fun _ => 0)), .inl (G.2.1 0, 10, .inl (fun _ => 0)), .inl (G.2.1 0, 10, .inl (fun _ => 0)), .inl (G.2.1 0, 10, .inl (fun _ => 0)), .inr (0, [.ref (β + 17), .ref (β + 18), .ref (β + 19), .ref (β + 20), .ref (β + 21), .int 0, .int 0]), .inl (G.2.1 0, 10, .inl (fun _ => 0)), .inl (G.2.1 0, 10, .inl (fun _ => 0)), .inl (G.2.1 0, 5, .inl (fun _ => 0)), .inl (G.2.1 0, 7, .inl (fun _ => 0)), .inl (G.2.1 0, 7, .inl (fun _ => 0))] H1 := hw.set 16 (Nat.le_of_ble_eq_true rfl) hat ho1
  clear hat ho1
  refine lv_aload_n hx hb dX0_init_48 rfl (lv_at hl 0 rfl) ?_
  refine lv_iconst (v := 0) hx hb dX0_init_49 (by decide) ?_
  refine x_put (ci := 0) hx hb hts iwX0 tyX0 tyX0_ok nmX0 ho C.K.1 hS (hw.2 16 _ rfl) (hA 16 (by decide)) rfl 6 (by decide) (C.2.2.2.2.1 (.fieldLink RX0 31 RX0 "spread" "I") (tg 139 (by decide +kernel) rfl)) (fun _ h9 => h9) rfl (ty := tyX0 6) (by decide +kernel) rfl rfl (Nat.le_of_ble_eq_true rfl) dX0_init_50 (fun H1 locs hat ho1 hS => ?_)
  have hw : LW β G [.inr (8, [.ref (β + 1), .int 0, .ref (β + 2), .int 1, .ref (β + 3), .int 0, .ref (β + 4), .ref (β + 6), .ref (β + 9), .int 0, .int 0, .ref (β + 10), .ref (β + 11), .null, .null, .null, .null, .null, .null]), .inl (G.2.1 4, 10, .inr (.inr (.inr (.inr (fun _ => none))))), .inl (G.2.1 0, 4, .inl (fun _ => 0)), .inl (G.2.1 5, 24, .inr (.inr (.inr (.inr (fun _ => none))))), .inr (6, [.ref (β + 5), .int 0, .int 0, .int 0, .int (-35), .int 0]), .inl (G.2.1 2, 160, .inl (fun _ => 0)), .inr (4, [.ref (β + 4), .ref (β + 7), .ref (β + 8), .int 0]), .inl (G.2.1 0, 160, .inl (fun _ => 0)), .inl (G.2.1 0, 3, .inl (fun _ => 0)), .inl (G.2.1 7, 6, .inr (.inr (.inr (.inr (fun _ => none))))), .inl (G.2.1 6, 4, .inr (.inr (.inr (.inr (fun _ => none))))), .inr (2, [.int 0, .int 0, .int 0, .int 0, .int 0, .ref (β + 12), .ref (β + 13), .ref (β + 14), .ref (β + 15)]), .inl (G.2.1 0, 4, .inl (fun _ => 0)), .inl (G.2.1 0, 10, .inl (fun _ => 0)), .inl (G.2.1 0, 10, .inl (fun _ => 0)), .inl (G.2.1 0, 10, .inl (fun _ => 0)), .inr (0, [.ref (β + 17), .ref (β + 18), .ref (β + 19), .ref (β + 20), .ref (β + 21), .int 0, .int 0]), .inl (G.2.1 0, 10, .inl (fun _ => 0)), .inl (G.2.1 0, 10, .inl (fun _ => 0)), .inl (G.2.1 0, 5, .inl (fun _ => 0)), .inl (G.2.1 0, 7, .inl (fun _ => 0)), .inl (G.2.1 0, 7, .inl (fun _ => 0))] H1 := hw.set 16 (Nat.le_of_ble_eq_true rfl) hat ho1
  clear hat ho1
  exact xret_v C hw hS dX0_init_53
theorem dX8_init_0 : decode cX8_init 0 = .ok (.aload_n 0, 1) := by decide +kernel
theorem dX8_init_1 : decode cX8_init 1 = .ok (.invokespecial 1, 3) := by decide +kernel
theorem dX8_init_4 : decode cX8_init 4 = .ok (.aload_n 0, 1) := by decide +kernel
theorem dX8_init_5 : decode cX8_init 5 = .ok (.bipush 10, 2) := by decide +kernel
theorem dX8_init_7 : decode cX8_init 7 = .ok (.anewarray 9, 3) := by decide +kernel
theorem dX8_init_10 : decode cX8_init 10 = .ok (.putfield 11, 3) := by decide +kernel
theorem dX8_init_13 : decode cX8_init 13 = .ok (.aload_n 0, 1) := by decide +kernel
theorem dX8_init_14 : decode cX8_init 14 = .ok (.iconst 0, 1) := by decide +kernel
theorem dX8_init_15 : decode cX8_init 15 = .ok (.putfield 15, 3) := by decide +kernel
theorem dX8_init_18 : decode cX8_init 18 = .ok (.aload_n 0, 1) := by decide +kernel
theorem dX8_init_19 : decode cX8_init 19 = .ok (.iconst 4, 1) := by decide +kernel
theorem dX8_init_20 : decode cX8_init 20 = .ok (.newarray .int, 2) := by decide +kernel
theorem dX8_init_22 : decode cX8_init 22 = .ok (.putfield 19, 3) := by decide +kernel
theorem dX8_init_25 : decode cX8_init 25 = .ok (.aload_n 0, 1) := by decide +kernel
theorem dX8_init_26 : decode cX8_init 26 = .ok (.iconst 1, 1) := by decide +kernel
theorem dX8_init_27 : decode cX8_init 27 = .ok (.putfield 23, 3) := by decide +kernel
theorem dX8_init_30 : decode cX8_init 30 = .ok (.aload_n 0, 1) := by decide +kernel
theorem dX8_init_31 : decode cX8_init 31 = .ok (.bipush 24, 2) := by decide +kernel
theorem dX8_init_33 : decode cX8_init 33 = .ok (.anewarray 26, 3) := by decide +kernel
theorem dX8_init_36 : decode cX8_init 36 = .ok (.putfield 28, 3) := by decide +kernel
theorem dX8_init_39 : decode cX8_init 39 = .ok (.aload_n 0, 1) := by decide +kernel
theorem dX8_init_40 : decode cX8_init 40 = .ok (.iconst 0, 1) := by decide +kernel
theorem dX8_init_41 : decode cX8_init 41 = .ok (.putfield 32, 3) := by decide +kernel
theorem dX8_init_44 : decode cX8_init 44 = .ok (.aload_n 0, 1) := by decide +kernel
theorem dX8_init_45 : decode cX8_init 45 = .ok (.new 35, 3) := by decide +kernel
theorem dX8_init_48 : decode cX8_init 48 = .ok (.dup, 1) := by decide +kernel
theorem dX8_init_49 : decode cX8_init 49 = .ok (.invokespecial 37, 3) := by decide +kernel
theorem dX8_init_52 : decode cX8_init 52 = .ok (.putfield 38, 3) := by decide +kernel
theorem dX8_init_55 : decode cX8_init 55 = .ok (.aload_n 0, 1) := by decide +kernel
theorem dX8_init_56 : decode cX8_init 56 = .ok (.new 42, 3) := by decide +kernel
theorem dX8_init_59 : decode cX8_init 59 = .ok (.dup, 1) := by decide +kernel
theorem dX8_init_60 : decode cX8_init 60 = .ok (.aload_n 0, 1) := by decide +kernel
theorem dX8_init_61 : decode cX8_init 61 = .ok (.getfield 38, 3) := by decide +kernel
theorem dX8_init_64 : decode cX8_init 64 = .ok (.invokespecial 44, 3) := by decide +kernel
theorem dX8_init_67 : decode cX8_init 67 = .ok (.putfield 47, 3) := by decide +kernel
theorem dX8_init_70 : decode cX8_init 70 = .ok (.aload_n 0, 1) := by decide +kernel
theorem dX8_init_71 : decode cX8_init 71 = .ok (.bipush 6, 2) := by decide +kernel
theorem dX8_init_73 : decode cX8_init 73 = .ok (.anewarray 51, 3) := by decide +kernel
theorem dX8_init_76 : decode cX8_init 76 = .ok (.putfield 53, 3) := by decide +kernel
theorem dX8_init_79 : decode cX8_init 79 = .ok (.aload_n 0, 1) := by decide +kernel
theorem dX8_init_80 : decode cX8_init 80 = .ok (.iconst 0, 1) := by decide +kernel
theorem dX8_init_81 : decode cX8_init 81 = .ok (.putfield 57, 3) := by decide +kernel
theorem dX8_init_84 : decode cX8_init 84 = .ok (.aload_n 0, 1) := by decide +kernel
theorem dX8_init_85 : decode cX8_init 85 = .ok (.iconst 0, 1) := by decide +kernel
theorem dX8_init_86 : decode cX8_init 86 = .ok (.putfield 60, 3) := by decide +kernel
theorem dX8_init_89 : decode cX8_init 89 = .ok (.aload_n 0, 1) := by decide +kernel
theorem dX8_init_90 : decode cX8_init 90 = .ok (.iconst 4, 1) := by decide +kernel
theorem dX8_init_91 : decode cX8_init 91 = .ok (.anewarray 63, 3) := by decide +kernel
theorem dX8_init_94 : decode cX8_init 94 = .ok (.putfield 65, 3) := by decide +kernel
theorem dX8_init_97 : decode cX8_init 97 = .ok (.aload_n 0, 1) := by decide +kernel
theorem dX8_init_98 : decode cX8_init 98 = .ok (.new 69, 3) := by decide +kernel
theorem dX8_init_101 : decode cX8_init 101 = .ok (.dup, 1) := by decide +kernel
theorem dX8_init_102 : decode cX8_init 102 = .ok (.invokespecial 71, 3) := by decide +kernel
theorem dX8_init_105 : decode cX8_init 105 = .ok (.putfield 72, 3) := by decide +kernel
theorem dX8_init_108 : decode cX8_init 108 = .ok (.aload_n 0, 1) := by decide +kernel
theorem dX8_init_109 : decode cX8_init 109 = .ok (.new 76, 3) := by decide +kernel
theorem dX8_init_112 : decode cX8_init 112 = .ok (.dup, 1) := by decide +kernel
theorem dX8_init_113 : decode cX8_init 113 = .ok (.invokespecial 78, 3) := by decide +kernel
theorem dX8_init_116 : decode cX8_init 116 = .ok (.putfield 79, 3) := by decide +kernel
theorem dX8_init_119 : decode cX8_init 119 = .ok (.aload_n 0, 1) := by decide +kernel
theorem dX8_init_120 : decode cX8_init 120 = .ok (.bipush 6, 2) := by decide +kernel
theorem dX8_init_122 : decode cX8_init 122 = .ok (.newarray .int, 2) := by decide +kernel
theorem dX8_init_124 : decode cX8_init 124 = .ok (.putfield 83, 3) := by decide +kernel
theorem dX8_init_127 : decode cX8_init 127 = .ok (.aload_n 0, 1) := by decide +kernel
theorem dX8_init_128 : decode cX8_init 128 = .ok (.iconst 5, 1) := by decide +kernel
theorem dX8_init_129 : decode cX8_init 129 = .ok (.newarray .int, 2) := by decide +kernel
theorem dX8_init_131 : decode cX8_init 131 = .ok (.putfield 86, 3) := by decide +kernel
theorem dX8_init_134 : decode cX8_init 134 = .ok (.aload_n 0, 1) := by decide +kernel
theorem dX8_init_135 : decode cX8_init 135 = .ok (.bipush 10, 2) := by decide +kernel
theorem dX8_init_137 : decode cX8_init 137 = .ok (.newarray .int, 2) := by decide +kernel
theorem dX8_init_139 : decode cX8_init 139 = .ok (.putfield 89, 3) := by decide +kernel
theorem dX8_init_142 : decode cX8_init 142 = .ok (.aload_n 0, 1) := by decide +kernel
theorem dX8_init_143 : decode cX8_init 143 = .ok (.bipush 10, 2) := by decide +kernel
theorem dX8_init_145 : decode cX8_init 145 = .ok (.newarray .int, 2) := by decide +kernel
theorem dX8_init_147 : decode cX8_init 147 = .ok (.putfield 92, 3) := by decide +kernel
theorem dX8_init_150 : decode cX8_init 150 = .ok (.aload_n 0, 1) := by decide +kernel
theorem dX8_init_151 : decode cX8_init 151 = .ok (.bipush 10, 2) := by decide +kernel
theorem dX8_init_153 : decode cX8_init 153 = .ok (.newarray .int, 2) := by decide +kernel
theorem dX8_init_155 : decode cX8_init 155 = .ok (.putfield 95, 3) := by decide +kernel
theorem dX8_init_158 : decode cX8_init 158 = .ok (.aload_n 0, 1) := by decide +kernel
theorem dX8_init_159 : decode cX8_init 159 = .ok (.getfield 19, 3) := by decide +kernel
theorem dX8_init_162 : decode cX8_init 162 = .ok (.iconst 2, 1) := by decide +kernel
theorem dX8_init_163 : decode cX8_init 163 = .ok (.invokestatic 98, 3) := by decide +kernel
theorem dX8_init_166 : decode cX8_init 166 = .ok (.iconst 0, 1) := by decide +kernel
theorem dX8_init_167 : decode cX8_init 167 = .ok (.istore_n 1, 1) := by decide +kernel
theorem dX8_init_168 : decode cX8_init 168 = .ok (.iload_n 1, 1) := by decide +kernel
theorem dX8_init_169 : decode cX8_init 169 = .ok (.ldc 104, 2) := by decide +kernel
theorem dX8_init_171 : decode cX8_init 171 = .ok (.invokevirtual 106, 3) := by decide +kernel
theorem dX8_init_174 : decode cX8_init 174 = .ok (.if_icmp .ge 22, 3) := by decide +kernel
theorem dX8_init_177 : decode cX8_init 177 = .ok (.aload_n 0, 1) := by decide +kernel
theorem dX8_init_178 : decode cX8_init 178 = .ok (.getfield 38, 3) := by decide +kernel
theorem dX8_init_181 : decode cX8_init 181 = .ok (.ldc 104, 2) := by decide +kernel
theorem dX8_init_183 : decode cX8_init 183 = .ok (.iload_n 1, 1) := by decide +kernel
theorem dX8_init_184 : decode cX8_init 184 = .ok (.invokevirtual 112, 3) := by decide +kernel
theorem dX8_init_187 : decode cX8_init 187 = .ok (.invokevirtual 116, 3) := by decide +kernel
theorem dX8_init_190 : decode cX8_init 190 = .ok (.iinc 1 1, 3) := by decide +kernel
theorem dX8_init_193 : decode cX8_init 193 = .ok (.goto (-25), 3) := by decide +kernel
theorem dX8_init_196 : decode cX8_init 196 = .ok (.aload_n 0, 1) := by decide +kernel
theorem dX8_init_197 : decode cX8_init 197 = .ok (.getfield 53, 3) := by decide +kernel
theorem dX8_init_200 : decode cX8_init 200 = .ok (.iconst 0, 1) := by decide +kernel
theorem dX8_init_201 : decode cX8_init 201 = .ok (.aload_n 0, 1) := by decide +kernel
theorem dX8_init_202 : decode cX8_init 202 = .ok (.getfield 47, 3) := by decide +kernel
theorem dX8_init_205 : decode cX8_init 205 = .ok (.invokevirtual 120, 3) := by decide +kernel
theorem dX8_init_208 : decode cX8_init 208 = .ok (.aastore, 1) := by decide +kernel
theorem dX8_init_209 : decode cX8_init 209 = .ok (.aload_n 0, 1) := by decide +kernel
theorem dX8_init_210 : decode cX8_init 210 = .ok (.iconst 1, 1) := by decide +kernel
theorem dX8_init_211 : decode cX8_init 211 = .ok (.putfield 57, 3) := by decide +kernel
theorem dX8_init_214 : decode cX8_init 214 = .ok (.aload_n 0, 1) := by decide +kernel
theorem dX8_init_215 : decode cX8_init 215 = .ok (.getfield 38, 3) := by decide +kernel
theorem dX8_init_218 : decode cX8_init 218 = .ok (.invokevirtual 124, 3) := by decide +kernel
theorem dX8_init_221 : decode cX8_init 221 = .ok (.return_, 1) := by decide +kernel
theorem flX8_98_2 {p : Program} {l : Launch} {e : Env} {R : Room} {s : State} {m : MethodId} {args : Array Value} {below : List Frame} {meth : Method} {c : Code} {H : Heap} {locs : List Loc} {cells slots : Nat} {Q : State → Prop} {cc : ByteArray} {pc nL : Nat} {ls : Array Slot} {rest : List Value} {ret : Option FieldType}  {G : xG} {β : Nat} {D : Nat → Prop} {x : XS} {v : Int32} (C : Cx p s m args meth c RX8 cc nL ret (KK G)) (hw : CW β D G x H) (hS : va_S D s.heap H locs) (hsz : ls.size = nL) (hW : (rest.map fun v => v.category).sum ≤ 8) (hR : 1 ≤ R.frames) (hR2 : 23 ≤ R.locals) (hcs : cells ≤ R.cells ∧ slots ≤ R.slots) (hd : decode cc pc = .ok (.invokestatic 98, 3)) (kk : ∀ (H1 : Heap) (locs1 : List Loc), CW β D G (xsF x 2 (fun _ => v)) H1 → va_S D s.heap H1 locs1 → W p l e R s m args below meth c H1 locs1 cells slots Q (F0 m (pc + 3) ls (rest))) : W p l e R s m args below meth c H locs cells slots Q (F0 m pc ls (.int v :: .ref (β + 2) :: rest)) :=
  xcallS C (As := [.ref (β + 2), .int v]) (rest := rest) (nA := 2) (kfill (n := 4) (f := x.2.1 2) (N := H.size) (by decide)) (tg 156 (by decide +kernel) rfl) (tg 157 (by decide +kernel) rfl) (tg 6 (by decide +kernel) rfl) (tg 158 (by decide +kernel) rfl) ⟨by decide +kernel, by decide +kernel, by decide +kernel⟩ rfl rfl ⟨hR, hR2⟩ ⟨rfl, hw.2.2.1 2 (by decide)⟩ hS (fun q (hq : q = _) => hq ▸ hw.2.1 2 (by decide)) rfl rfl hsz hW hd hcs (fun H1 locs1 hp hz hk hS => kk H1 locs1 (hw.setF 2 _ hp.2 (off_of hp.1 hk)) hS)
theorem sX8_106 {p : Program} {l : Launch} {e : Env} {R : Room} {s : State} {m : MethodId} {args : Array Value} {below : List Frame} {meth : Method} {c : Code} {H : Heap} {locs : List Loc} {cells slots : Nat} {Q : State → Prop} {cc : ByteArray} {pc nL : Nat} {ls : Array Slot} {rest : List Value} {ret : Option FieldType}  {G : xG} {β : Nat} {D : Nat → Prop} {x : XS} {a0 : Nat} {r : Int32} (C : Cx p s m args meth c RX8 cc nL ret (KK G)) (hf : Fz D G s.heap) (hk : a0 < 13) (h : fJ0_length_8abf5 x a0 = some r) (hw : CW β D G x H) (hS : va_S D s.heap H locs) (hsz : ls.size = nL) (hW : (rest.map fun v => v.category).sum ≤ 8) (hR : 2 ≤ R.frames) (hR2 : 40 ≤ R.locals) (hcs : cells ≤ R.cells ∧ slots ≤ R.slots) (hd : decode cc pc = .ok (.invokevirtual 106, 3)) (kk : ∀ (H1 : Heap) (locs1 : List Loc), CW β D G x H1 → va_S D s.heap H1 locs1 → W p l e R s m args below meth c H1 locs1 cells slots Q (F0 m (pc + 3) ls (.int r :: rest))) : W p l e R s m args below meth c H locs cells slots Q (F0 m pc ls (.ref (G.2.2.2.2.1 a0) :: rest)) := by
  exact xcallVR C (As := []) (rest := rest) (nA := 0) (kJ0_length_8abf5 h) (tg 160 (by decide +kernel) rfl) (tg 161 (by decide +kernel) rfl) (tg 162 (by decide +kernel) rfl) (tg 7 (by decide +kernel) rfl) (tg 163 (by decide +kernel) rfl) ⟨rfl, by decide +kernel, by decide +kernel, by decide +kernel⟩ rfl rfl ⟨hR, hR2⟩ (vk_recv (KS_S C.K hf) hk hS) hw hS (fun _ q => q) rfl rfl hsz hW hd hcs (fun H1 locs1 hw hz hk hS => kk H1 locs1 hw hS)
theorem sX8_112 {p : Program} {l : Launch} {e : Env} {R : Room} {s : State} {m : MethodId} {args : Array Value} {below : List Frame} {meth : Method} {c : Code} {H : Heap} {locs : List Loc} {cells slots : Nat} {Q : State → Prop} {cc : ByteArray} {pc nL : Nat} {ls : Array Slot} {rest : List Value} {ret : Option FieldType}  {G : xG} {β : Nat} {D : Nat → Prop} {x : XS} {a0 : Nat} {a1 : Int32} {r : Int32} (C : Cx p s m args meth c RX8 cc nL ret (KK G)) (hf : Fz D G s.heap) (hk : a0 < 13) (h : fJ0_charAt_5068e x a0 a1 = some r) (hw : CW β D G x H) (hS : va_S D s.heap H locs) (hsz : ls.size = nL) (hW : (rest.map fun v => v.category).sum ≤ 8) (hR : 4 ≤ R.frames) (hR2 : 85 ≤ R.locals) (hcs : cells ≤ R.cells ∧ slots ≤ R.slots) (hd : decode cc pc = .ok (.invokevirtual 112, 3)) (kk : ∀ (H1 : Heap) (locs1 : List Loc), CW β D G x H1 → va_S D s.heap H1 locs1 → W p l e R s m args below meth c H1 locs1 cells slots Q (F0 m (pc + 3) ls (.int r :: rest))) : W p l e R s m args below meth c H locs cells slots Q (F0 m pc ls (.int a1 :: .ref (G.2.2.2.2.1 a0) :: rest)) := by
  exact xcallVR C (As := [.int a1]) (rest := rest) (nA := 1) (kJ0_charAt_5068e h) (tg 170 (by decide +kernel) rfl) (tg 171 (by decide +kernel) rfl) (tg 172 (by decide +kernel) rfl) (tg 7 (by decide +kernel) rfl) (tg 173 (by decide +kernel) rfl) ⟨rfl, by decide +kernel, by decide +kernel, by decide +kernel⟩ rfl rfl ⟨hR, hR2⟩ (vk_recv (KS_S C.K hf) hk hS) hw hS (fun _ q => q) rfl rfl hsz hW hd hcs (fun H1 locs1 hw hz hk hS => kk H1 locs1 hw hS)
def BX8_init_168 (lp : Int32 → XS → Option (XS)) (u1 : Int32) (x : XS) : Option (XS) := Option.bind (fJ0_length_8abf5 x 0) fun v2 => if v2 ≤ u1 then some x else Option.bind (fJ0_charAt_5068e x 0 u1) fun v4 => Option.bind (fX6_append x v4) fun x6 => lt (u1 + 1) fun v8 => lp v8 x6
def LX8_init_168 : Nat → Int32 → XS → Option (XS)
  | 0, _, _ => none
  | n + 1, u1, x => BX8_init_168 (LX8_init_168 n) u1 x
def fX8_tail (x : XS) : Option XS := lt (xsF x 2 (fun _ => 2)) fun x1 => Option.bind (LX8_init_168 NF 0 x1) fun x9 => bind2 (fX4_read x9) fun v10 x11 => Option.bind v10 fun p13 => if ib 0 6 then if dK x11 p13 7 = true then lt (xsR x11 9 (0 : Int32).toNatClampNeg (some p13)) fun x15 => lt (xsS x15 0 9 1) fun x17 => Option.bind (fX6_clear x17) fun x18 => some x18 else none else none
set_option maxHeartbeats 4000000 in
set_option maxRecDepth 100000 in
theorem lX8_init_168 {p : Program} {l : Launch} {e : Env} {R : Room} {s : State} {m : MethodId} {args : Array Value} {below : List Frame} {meth : Method} {c : Code} {cells slots : Nat} {Q : State → Prop} {G : xG} {β : Nat} {D : Nat → Prop} (C : Cx p s m args meth c RX8 cX8_init 2 none (KK G)) (hRf : 111 ≤ R.frames) (hRl : 2633 ≤ R.locals) (hcs : cells ≤ R.cells ∧ slots ≤ R.slots) (hf : Fz D G s.heap) : ∀ (n : Nat) (u1 : Int32) (x : XS) (J : XS) (H : Heap) (locs : List Loc) (ls : Array Slot), LX8_init_168 n u1 x = some J → CW β D G x H → va_S D s.heap H locs → lv_has ls 2 [(0, .ref β), (1, .int u1)] → (∀ (x1 : XS), J = x1 → ∀ (H : Heap) (locs : List Loc) (ls : Array Slot), CW β D G x1 H → va_S D s.heap H locs → lv_has ls 2 [(0, .ref β)] → W p l e R s m args below meth c H locs cells slots Q (F0 m 196 ls [])) → W p l e R s m args below meth c H locs cells slots Q (F0 m 168 ls []) := by
  have hx := C.1
  have hb := C.2.1
  have ho := C.2.2.2.1
  have hts := C.2.2.2.2.1
  intro n
  induction n with
  | zero =>
    intro u1 x J H locs ls hm
    exact absurd hm (by simp [LX8_init_168])
  | succ n ih =>
    intro u1 x J H locs ls hm hw hS hl ke
    replace hm : BX8_init_168 (LX8_init_168 n) u1 x = some J := hm
    unfold BX8_init_168 at hm
    refine lv_iload_n hx hb dX8_init_168 rfl (lv_at hl 1 rfl) ?_
    refine va_ldcS hx hb ho (C.K.2.2.2.2.1 0 (RX8, 104, "next lead + 3 - place ; hold 2 ; say strength - lead ;") rfl) dX8_init_169 ?_
    obtain ⟨v2, h3, hm⟩ := bind_e hm
    refine sX8_106 (a0 := 0) C hf (by decide) h3 hw hS hl.1 (Nat.le_of_ble_eq_true rfl) (Nat.le_trans (Nat.le_of_ble_eq_true rfl) hRf) (Nat.le_trans (Nat.le_of_ble_eq_true rfl) hRl) hcs dX8_init_171 (fun H locs hw hS => ?_)
    refine lv_icmp_ge (tgt := 196) hx hb dX8_init_174 (by decide) (fun cc => ?_) (fun cc => ?_)
    · replace hm := ite_p cc hm
      exact ke _ (Option.some.inj hm).symm _ _ _ hw hS (lv_sub hl [0] rfl)
    · replace hm := ite_n cc hm
      refine lv_aload_n hx hb dX8_init_177 rfl (lv_at hl 0 rfl) ?_
      refine gX8_38 C hw dX8_init_178 ?_
      refine va_ldcS hx hb ho (C.K.2.2.2.2.1 0 (RX8, 104, "next lead + 3 - place ; hold 2 ; say strength - lead ;") rfl) dX8_init_181 ?_
      refine lv_iload_n hx hb dX8_init_183 rfl (lv_at hl 1 rfl) ?_
      obtain ⟨v4, h5, hm⟩ := bind_e hm
      refine sX8_112 (a0 := 0) (a1 := u1) C hf (by decide) h5 hw hS hl.1 (Nat.le_of_ble_eq_true rfl) (Nat.le_trans (Nat.le_of_ble_eq_true rfl) hRf) (Nat.le_trans (Nat.le_of_ble_eq_true rfl) hRl) hcs dX8_init_184 (fun H locs hw hS => ?_)
      obtain ⟨x6, h7, hm⟩ := bind_e hm
      refine sX8_116 C h7 hw hS hl.1 (Nat.le_of_ble_eq_true rfl) (Nat.le_trans (Nat.le_of_ble_eq_true rfl) hRf) (Nat.le_trans (Nat.le_of_ble_eq_true rfl) hRl) hcs dX8_init_187 (fun H locs hw hS => ?_)
      obtain ⟨v8, ev, hm⟩ := lt_e hm
      refine lv_iinc (v := v8) (lv' := [(1, .int v8), (0, .ref β)]) hx hb dX8_init_190 hl (k := 1) rfl (by rw [ev]; rfl) (by decide) rfl (fun ls hl => ?_)
      clear ev
      refine lv_goto (tgt := 168) hx hb dX8_init_193 (by decide) ?_
      exact ih _ _ _ _ _ _ hm hw hS (lv_sub hl [1, 0] rfl) ke
def x0X (β : Nat) : XS := (fun k i => if k = 0 ∧ i = 3 then 1 else if k = 4 ∧ i = 4 then (-35) else 0, fun _ _ => 0, fun _ _ => none, fun _ => none, β + 27)
abbrev rmX8_init : Room := { frames := 111, cells := 30, slots := 718, locals := 2633 }
set_option maxHeartbeats 4000000 in
set_option maxRecDepth 100000 in
theorem kX8_init {l : Launch} {G : xG} {β : Nat} {D : Nat → Prop} {x' : XS} (hA : ∀ k, k < 31 → D (β + k)) (hn0 : ∀ q, β + 27 ≤ q → D q) (hB : G.2.2.2.1 ≤ β) (hm : fX8_tail (x0X β) = some x') : Met l yX8_init (.code yX8_init cX8_init 2 none :: GT) rmX8_init (PcW [.ref β] (fun H => LW β G [.inr (8, [.null, .int 0, .null, .int 0, .null, .int 0, .null, .null, .null, .int 0, .int 0, .null, .null, .null, .null, .null, .null, .null, .null])] H ∧ Fz D G H) (KK G)) (QcW D none (CW β D G x')) 30 718 D := by
  refine xproI (own := RX8) (by decide +kernel) rfl (Nat.le_of_ble_eq_true rfl) ?_
  intro p e s m args below meth c C hin hw ls hl
  obtain ⟨hw, hf⟩ := hw
  have hx := C.1
  have hb := C.2.1
  have ho := C.2.2.2.1
  have hts := C.2.2.2.2.1
  have hS : va_S D s.heap s.heap [] := va_S.rf
  have hl : lv_has ls 2 [(0, .ref (β))] := hl
  have hz0 : s.heap.size = β + 1 := hw.1
  refine lv_aload_n hx hb dX8_init_0 rfl (lv_at hl 0 rfl) ?_
  refine W.objInit hx hb ho (hts (.methodLink RX8 1 objectInit) (tg 24 (by decide +kernel) rfl)) (hts (.instanceMethod objectInit) (tg 25 (by decide +kernel) rfl)) (hts (.code objectInit ⟨#[0xb1]⟩ 1 none) (tg 26 (by decide +kernel) rfl)) rfl (by rw [C.2.2.1]; exact hl.1) rfl dX8_init_1 (Nat.le_of_ble_eq_true rfl) (Nat.le_of_ble_eq_true rfl) ?_
  refine W.eq (g2 := F0 m 4 ls []) rfl ?_
  refine lv_aload_n hx hb dX8_init_4 rfl (lv_at hl 0 rfl) ?_
  refine lv_bipush (v := 10) hx hb dX8_init_5 (by decide) ?_
  have hz := hw.1
  replace hz : _ = β + 1 := hz
  refine x_newq (G := G) (cl := vwCl) (t0 := 4) (N := 10) hx hb ho (hts (.classLink RX8 9 "AtThePost$Horse") (tg 27 (by decide +kernel) rfl)) (va_AO.use (C.K.2.2.2.2.2.2.2.2.2 _ (by decide))) C.K rfl hS (by decide) rfl (by decide) (Nat.le_of_ble_eq_true rfl) (Nat.le_of_ble_eq_true rfl) dX8_init_7 (fun H1 hat ho1 hS => ?_)
  rw [hz]
  have hw : LW β G [.inr (8, [.null, .int 0, .null, .int 0, .null, .int 0, .null, .null, .null, .int 0, .int 0, .null, .null, .null, .null, .null, .null, .null, .null]), .inl (G.2.1 4, 10, .inr (.inr (.inr (.inr (fun _ => none)))))] H1 := hw.push hat ho1
  clear hat ho1 hz
  refine W.widen (k := 1) (n := 10) (Nat.le_of_ble_eq_true rfl) (Nat.le_of_ble_eq_true rfl) ?_
  refine x_putF (ci := 8) hx hb hts iwX8 tyX8 tyX8_ok nmX8 ho C.K.1 hS (hw.2 0 _ rfl) (hA 0 (by decide)) rfl 0 (by decide) (C.2.2.2.2.1 (.fieldLink RX8 11 RX8 "stable" "[LAtThePost$Horse;") (tg 347 (by decide +kernel) rfl)) (fun _ h9 => h9) rfl hin rfl (ty := tyX8 0) (by decide +kernel) rfl rfl (Nat.le_of_ble_eq_true rfl) dX8_init_10 (fun H1 locs hat ho1 hS => ?_)
  have hw : LW β G [.inr (8, [.ref (β + 1), .int 0, .null, .int 0, .null, .int 0, .null, .null, .null, .int 0, .int 0, .null, .null, .null, .null, .null, .null, .null, .null]), .inl (G.2.1 4, 10, .inr (.inr (.inr (.inr (fun _ => none)))))] H1 := hw.set 0 (Nat.le_of_ble_eq_true rfl) hat ho1
  clear hat ho1
  refine lv_aload_n hx hb dX8_init_13 rfl (lv_at hl 0 rfl) ?_
  refine lv_iconst (v := 0) hx hb dX8_init_14 (by decide) ?_
  refine x_put (ci := 8) hx hb hts iwX8 tyX8 tyX8_ok nmX8 ho C.K.1 hS (hw.2 0 _ rfl) (hA 0 (by decide)) rfl 1 (by decide) (C.2.2.2.2.1 (.fieldLink RX8 15 RX8 "horseCount" "I") (tg 348 (by decide +kernel) rfl)) (fun _ h9 => h9) rfl (ty := tyX8 1) (by decide +kernel) rfl rfl (Nat.le_of_ble_eq_true rfl) dX8_init_15 (fun H1 locs hat ho1 hS => ?_)
  have hw : LW β G [.inr (8, [.ref (β + 1), .int 0, .null, .int 0, .null, .int 0, .null, .null, .null, .int 0, .int 0, .null, .null, .null, .null, .null, .null, .null, .null]), .inl (G.2.1 4, 10, .inr (.inr (.inr (.inr (fun _ => none)))))] H1 := hw.set 0 (Nat.le_of_ble_eq_true rfl) hat ho1
  clear hat ho1
  refine lv_aload_n hx hb dX8_init_18 rfl (lv_at hl 0 rfl) ?_
  refine lv_iconst (v := 4) hx hb dX8_init_19 (by decide) ?_
  have hz := hw.1
  replace hz : _ = β + 2 := hz
  refine x_newa (G := G) (cl := vwCl) (N := 4) hx hb (hts (.arrayClass .int) (tg 60 (by decide +kernel) rfl)) C.K hS (by decide) rfl (by decide) (Nat.le_of_ble_eq_true rfl) (Nat.le_of_ble_eq_true rfl) dX8_init_20 (fun H1 hat ho1 hS => ?_)
  rw [hz]
  have hw : LW β G [.inr (8, [.ref (β + 1), .int 0, .null, .int 0, .null, .int 0, .null, .null, .null, .int 0, .int 0, .null, .null, .null, .null, .null, .null, .null, .null]), .inl (G.2.1 4, 10, .inr (.inr (.inr (.inr (fun _ => none))))), .inl (G.2.1 0, 4, .inl (fun _ => 0))] H1 := hw.push hat ho1
  clear hat ho1 hz
  refine W.widen (k := 2) (n := 14) (Nat.le_of_ble_eq_true rfl) (Nat.le_of_ble_eq_true rfl) ?_
  refine x_putF (ci := 8) hx hb hts iwX8 tyX8 tyX8_ok nmX8 ho C.K.1 hS (hw.2 0 _ rfl) (hA 0 (by decide)) rfl 2 (by decide) (C.2.2.2.2.1 (.fieldLink RX8 19 RX8 "pounds" "[I") (tg 349 (by decide +kernel) rfl)) (fun _ h9 => h9) rfl hin rfl (ty := tyX8 2) (by decide +kernel) rfl rfl (Nat.le_of_ble_eq_true rfl) dX8_init_22 (fun H1 locs hat ho1 hS => ?_)
  have hw : LW β G [.inr (8, [.ref (β + 1), .int 0, .ref (β + 2), .int 0, .null, .int 0, .null, .null, .null, .int 0, .int 0, .null, .null, .null, .null, .null, .null, .null, .null]), .inl (G.2.1 4, 10, .inr (.inr (.inr (.inr (fun _ => none))))), .inl (G.2.1 0, 4, .inl (fun _ => 0))] H1 := hw.set 0 (Nat.le_of_ble_eq_true rfl) hat ho1
  clear hat ho1
  refine lv_aload_n hx hb dX8_init_25 rfl (lv_at hl 0 rfl) ?_
  refine lv_iconst (v := 1) hx hb dX8_init_26 (by decide) ?_
  refine x_put (ci := 8) hx hb hts iwX8 tyX8 tyX8_ok nmX8 ho C.K.1 hS (hw.2 0 _ rfl) (hA 0 (by decide)) rfl 3 (by decide) (C.2.2.2.2.1 (.fieldLink RX8 23 RX8 "spread" "I") (tg 350 (by decide +kernel) rfl)) (fun _ h9 => h9) rfl (ty := tyX8 3) (by decide +kernel) rfl rfl (Nat.le_of_ble_eq_true rfl) dX8_init_27 (fun H1 locs hat ho1 hS => ?_)
  have hw : LW β G [.inr (8, [.ref (β + 1), .int 0, .ref (β + 2), .int 1, .null, .int 0, .null, .null, .null, .int 0, .int 0, .null, .null, .null, .null, .null, .null, .null, .null]), .inl (G.2.1 4, 10, .inr (.inr (.inr (.inr (fun _ => none))))), .inl (G.2.1 0, 4, .inl (fun _ => 0))] H1 := hw.set 0 (Nat.le_of_ble_eq_true rfl) hat ho1
  clear hat ho1
  refine lv_aload_n hx hb dX8_init_30 rfl (lv_at hl 0 rfl) ?_
  refine lv_bipush (v := 24) hx hb dX8_init_31 (by decide) ?_
  have hz := hw.1
  replace hz : _ = β + 3 := hz
  refine x_newq (G := G) (cl := vwCl) (t0 := 5) (N := 24) hx hb ho (hts (.classLink RX8 26 "AtThePost$Race") (tg 29 (by decide +kernel) rfl)) (va_AO.use (C.K.2.2.2.2.2.2.2.2.2 _ (by decide))) C.K rfl hS (by decide) rfl (by decide) (Nat.le_of_ble_eq_true rfl) (Nat.le_of_ble_eq_true rfl) dX8_init_33 (fun H1 hat ho1 hS => ?_)
  rw [hz]
  have hw : LW β G [.inr (8, [.ref (β + 1), .int 0, .ref (β + 2), .int 1, .null, .int 0, .null, .null, .null, .int 0, .int 0, .null, .null, .null, .null, .null, .null, .null, .null]), .inl (G.2.1 4, 10, .inr (.inr (.inr (.inr (fun _ => none))))), .inl (G.2.1 0, 4, .inl (fun _ => 0)), .inl (G.2.1 5, 24, .inr (.inr (.inr (.inr (fun _ => none)))))] H1 := hw.push hat ho1
  clear hat ho1 hz
  refine W.widen (k := 3) (n := 38) (Nat.le_of_ble_eq_true rfl) (Nat.le_of_ble_eq_true rfl) ?_
  refine x_putF (ci := 8) hx hb hts iwX8 tyX8 tyX8_ok nmX8 ho C.K.1 hS (hw.2 0 _ rfl) (hA 0 (by decide)) rfl 4 (by decide) (C.2.2.2.2.1 (.fieldLink RX8 28 RX8 "races" "[LAtThePost$Race;") (tg 351 (by decide +kernel) rfl)) (fun _ h9 => h9) rfl hin rfl (ty := tyX8 4) (by decide +kernel) rfl rfl (Nat.le_of_ble_eq_true rfl) dX8_init_36 (fun H1 locs hat ho1 hS => ?_)
  have hw : LW β G [.inr (8, [.ref (β + 1), .int 0, .ref (β + 2), .int 1, .ref (β + 3), .int 0, .null, .null, .null, .int 0, .int 0, .null, .null, .null, .null, .null, .null, .null, .null]), .inl (G.2.1 4, 10, .inr (.inr (.inr (.inr (fun _ => none))))), .inl (G.2.1 0, 4, .inl (fun _ => 0)), .inl (G.2.1 5, 24, .inr (.inr (.inr (.inr (fun _ => none)))))] H1 := hw.set 0 (Nat.le_of_ble_eq_true rfl) hat ho1
  clear hat ho1
  refine lv_aload_n hx hb dX8_init_39 rfl (lv_at hl 0 rfl) ?_
  refine lv_iconst (v := 0) hx hb dX8_init_40 (by decide) ?_
  refine x_put (ci := 8) hx hb hts iwX8 tyX8 tyX8_ok nmX8 ho C.K.1 hS (hw.2 0 _ rfl) (hA 0 (by decide)) rfl 5 (by decide) (C.2.2.2.2.1 (.fieldLink RX8 32 RX8 "raceCount" "I") (tg 352 (by decide +kernel) rfl)) (fun _ h9 => h9) rfl (ty := tyX8 5) (by decide +kernel) rfl rfl (Nat.le_of_ble_eq_true rfl) dX8_init_41 (fun H1 locs hat ho1 hS => ?_)
  have hw : LW β G [.inr (8, [.ref (β + 1), .int 0, .ref (β + 2), .int 1, .ref (β + 3), .int 0, .null, .null, .null, .int 0, .int 0, .null, .null, .null, .null, .null, .null, .null, .null]), .inl (G.2.1 4, 10, .inr (.inr (.inr (.inr (fun _ => none))))), .inl (G.2.1 0, 4, .inl (fun _ => 0)), .inl (G.2.1 5, 24, .inr (.inr (.inr (.inr (fun _ => none)))))] H1 := hw.set 0 (Nat.le_of_ble_eq_true rfl) hat ho1
  clear hat ho1
  refine lv_aload_n hx hb dX8_init_44 rfl (lv_at hl 0 rfl) ?_
  have hz := hw.1
  replace hz : _ = β + 4 := hz
  refine x_new (ci := 6) (fs := [.null, .int 0, .int 0, .int 0, .int 0, .int 0]) hx hb hts iwX6 tyX6 tyX6_ok ho (hts (.classLink RX8 35 RX6) (tg 31 (by decide +kernel) rfl)) (hts (.instantiable RX6 6) (tg 32 (by decide +kernel) rfl)) (hts (.initialized RX6) (tg 2 (by decide +kernel) rfl)) C.K.1 hS rfl (fun j hj => by rcases (show j = 0 ∨ j = 1 ∨ j = 2 ∨ j = 3 ∨ j = 4 ∨ j = 5 by omega) with rfl | rfl | rfl | rfl | rfl | rfl <;> rfl) (Nat.le_of_ble_eq_true rfl) (Nat.le_of_ble_eq_true rfl) dX8_init_45 (fun H1 hat ho1 hS => ?_)
  rw [hz]
  have hw : LW β G [.inr (8, [.ref (β + 1), .int 0, .ref (β + 2), .int 1, .ref (β + 3), .int 0, .null, .null, .null, .int 0, .int 0, .null, .null, .null, .null, .null, .null, .null, .null]), .inl (G.2.1 4, 10, .inr (.inr (.inr (.inr (fun _ => none))))), .inl (G.2.1 0, 4, .inl (fun _ => 0)), .inl (G.2.1 5, 24, .inr (.inr (.inr (.inr (fun _ => none))))), .inr (6, [.null, .int 0, .int 0, .int 0, .int 0, .int 0])] H1 := hw.push hat ho1
  clear hat ho1 hz
  refine W.widen (k := 4) (n := 44) (Nat.le_of_ble_eq_true rfl) (Nat.le_of_ble_eq_true rfl) ?_
  refine lv_dup hx hb dX8_init_48 rfl ?_
  refine xcallIN C (As := []) (rest := [.ref (β + 4), .ref (β)]) (nA := 0) (kX6_init hA) (C.K.2.2.1 (RX8, 37, yX6_init) (List.mem_of_getElem? (i := 0) rfl)) (tg 34 (by decide +kernel) rfl) (tg 2 (by decide +kernel) rfl) (tg 35 (by decide +kernel) rfl) rfl ⟨by decide +kernel, by decide +kernel, by decide +kernel⟩ rfl rfl ⟨Nat.le_of_ble_eq_true rfl, Nat.le_of_ble_eq_true rfl⟩ hw hS (fun _ q => q) rfl rfl hl.1 (Nat.le_of_ble_eq_true rfl) dX8_init_49 ⟨Nat.le_of_ble_eq_true rfl, Nat.le_of_ble_eq_true rfl⟩ (fun H1 locs hw hz hk hS => ?_)
  clear hz hk
  refine W.widen (k := 5) (n := 204) (Nat.le_of_ble_eq_true rfl) (Nat.le_of_ble_eq_true rfl) ?_
  refine x_putF (ci := 8) hx hb hts iwX8 tyX8 tyX8_ok nmX8 ho C.K.1 hS (hw.2 0 _ rfl) (hA 0 (by decide)) rfl 6 (by decide) (C.2.2.2.2.1 (.fieldLink RX8 38 RX8 "tape" "LAtThePost$Tape;") (tg 353 (by decide +kernel) rfl)) (fun _ h9 => h9) rfl hin rfl (ty := tyX8 6) (by decide +kernel) rfl rfl (Nat.le_of_ble_eq_true rfl) dX8_init_52 (fun H1 locs hat ho1 hS => ?_)
  have hw : LW β G [.inr (8, [.ref (β + 1), .int 0, .ref (β + 2), .int 1, .ref (β + 3), .int 0, .ref (β + 4), .null, .null, .int 0, .int 0, .null, .null, .null, .null, .null, .null, .null, .null]), .inl (G.2.1 4, 10, .inr (.inr (.inr (.inr (fun _ => none))))), .inl (G.2.1 0, 4, .inl (fun _ => 0)), .inl (G.2.1 5, 24, .inr (.inr (.inr (.inr (fun _ => none))))), .inr (6, [.ref (β + 5), .int 0, .int 0, .int 0, .int (-35), .int 0]), .inl (G.2.1 2, 160, .inl (fun _ => 0))] H1 := hw.set 0 (Nat.le_of_ble_eq_true rfl) hat ho1
  clear hat ho1
  refine lv_aload_n hx hb dX8_init_55 rfl (lv_at hl 0 rfl) ?_
  have hz := hw.1
  replace hz : _ = β + 6 := hz
  refine x_new (ci := 4) (fs := [.null, .null, .null, .int 0]) hx hb hts iwX4 tyX4 tyX4_ok ho (hts (.classLink RX8 42 RX4) (tg 62 (by decide +kernel) rfl)) (hts (.instantiable RX4 4) (tg 63 (by decide +kernel) rfl)) (hts (.initialized RX4) (tg 3 (by decide +kernel) rfl)) C.K.1 hS rfl (fun j hj => by rcases (show j = 0 ∨ j = 1 ∨ j = 2 ∨ j = 3 by omega) with rfl | rfl | rfl | rfl <;> rfl) (Nat.le_of_ble_eq_true rfl) (Nat.le_of_ble_eq_true rfl) dX8_init_56 (fun H1 hat ho1 hS => ?_)
  rw [hz]
  have hw : LW β G [.inr (8, [.ref (β + 1), .int 0, .ref (β + 2), .int 1, .ref (β + 3), .int 0, .ref (β + 4), .null, .null, .int 0, .int 0, .null, .null, .null, .null, .null, .null, .null, .null]), .inl (G.2.1 4, 10, .inr (.inr (.inr (.inr (fun _ => none))))), .inl (G.2.1 0, 4, .inl (fun _ => 0)), .inl (G.2.1 5, 24, .inr (.inr (.inr (.inr (fun _ => none))))), .inr (6, [.ref (β + 5), .int 0, .int 0, .int 0, .int (-35), .int 0]), .inl (G.2.1 2, 160, .inl (fun _ => 0)), .inr (4, [.null, .null, .null, .int 0])] H1 := hw.push hat ho1
  clear hat ho1 hz
  refine W.widen (k := 6) (n := 208) (Nat.le_of_ble_eq_true rfl) (Nat.le_of_ble_eq_true rfl) ?_
  refine lv_dup hx hb dX8_init_59 rfl ?_
  refine lv_aload_n hx hb dX8_init_60 rfl (lv_at hl 0 rfl) ?_
  refine va_get (ci := 8) hx hb hts iwX8 ho C.K.1 (xP1 (hw.2 0 _ rfl)) 0 rfl rfl 6 (by decide) (C.2.2.2.2.1 (.fieldLink RX8 38 RX8 "tape" "LAtThePost$Tape;") (tg 353 (by decide +kernel) rfl)) (fun _ h9 => h9) rfl dX8_init_61 ?_
  refine xcallI C (As := [.ref (β + 4)]) (rest := [.ref (β + 6), .ref (β)]) (nA := 1) (kX4_init hA) (tg 64 (by decide +kernel) rfl) (tg 65 (by decide +kernel) rfl) (tg 3 (by decide +kernel) rfl) (tg 66 (by decide +kernel) rfl) rfl ⟨by decide +kernel, by decide +kernel, by decide +kernel⟩ rfl rfl ⟨Nat.le_of_ble_eq_true rfl, Nat.le_of_ble_eq_true rfl⟩ hw hS (fun _ q => q) rfl rfl hl.1 (Nat.le_of_ble_eq_true rfl) dX8_init_64 ⟨Nat.le_of_ble_eq_true rfl, Nat.le_of_ble_eq_true rfl⟩ (fun H1 locs hw hz hk hS => ?_)
  clear hz hk
  refine W.widen (k := 8) (n := 371) (Nat.le_of_ble_eq_true rfl) (Nat.le_of_ble_eq_true rfl) ?_
  refine x_putF (ci := 8) hx hb hts iwX8 tyX8 tyX8_ok nmX8 ho C.K.1 hS (hw.2 0 _ rfl) (hA 0 (by decide)) rfl 7 (by decide) (C.2.2.2.2.1 (.fieldLink RX8 47 RX8 "reader" "LAtThePost$Reader;") (tg 354 (by decide +kernel) rfl)) (fun _ h9 => h9) rfl hin rfl (ty := tyX8 7) (by decide +kernel) rfl rfl (Nat.le_of_ble_eq_true rfl) dX8_init_67 (fun H1 locs hat ho1 hS => ?_)
  have hw : LW β G [.inr (8, [.ref (β + 1), .int 0, .ref (β + 2), .int 1, .ref (β + 3), .int 0, .ref (β + 4), .ref (β + 6), .null, .int 0, .int 0, .null, .null, .null, .null, .null, .null, .null, .null]), .inl (G.2.1 4, 10, .inr (.inr (.inr (.inr (fun _ => none))))), .inl (G.2.1 0, 4, .inl (fun _ => 0)), .inl (G.2.1 5, 24, .inr (.inr (.inr (.inr (fun _ => none))))), .inr (6, [.ref (β + 5), .int 0, .int 0, .int 0, .int (-35), .int 0]), .inl (G.2.1 2, 160, .inl (fun _ => 0)), .inr (4, [.ref (β + 4), .ref (β + 7), .ref (β + 8), .int 0]), .inl (G.2.1 0, 160, .inl (fun _ => 0)), .inl (G.2.1 0, 3, .inl (fun _ => 0))] H1 := hw.set 0 (Nat.le_of_ble_eq_true rfl) hat ho1
  clear hat ho1
  refine lv_aload_n hx hb dX8_init_70 rfl (lv_at hl 0 rfl) ?_
  refine lv_bipush (v := 6) hx hb dX8_init_71 (by decide) ?_
  have hz := hw.1
  replace hz : _ = β + 9 := hz
  refine x_newq (G := G) (cl := vwCl) (t0 := 7) (N := 6) hx hb ho (hts (.classLink RX8 51 "AtThePost$Text") (tg 81 (by decide +kernel) rfl)) (va_AO.use (C.K.2.2.2.2.2.2.2.2.2 _ (by decide))) C.K rfl hS (by decide) rfl (by decide) (Nat.le_of_ble_eq_true rfl) (Nat.le_of_ble_eq_true rfl) dX8_init_73 (fun H1 hat ho1 hS => ?_)
  rw [hz]
  have hw : LW β G [.inr (8, [.ref (β + 1), .int 0, .ref (β + 2), .int 1, .ref (β + 3), .int 0, .ref (β + 4), .ref (β + 6), .null, .int 0, .int 0, .null, .null, .null, .null, .null, .null, .null, .null]), .inl (G.2.1 4, 10, .inr (.inr (.inr (.inr (fun _ => none))))), .inl (G.2.1 0, 4, .inl (fun _ => 0)), .inl (G.2.1 5, 24, .inr (.inr (.inr (.inr (fun _ => none))))), .inr (6, [.ref (β + 5), .int 0, .int 0, .int 0, .int (-35), .int 0]), .inl (G.2.1 2, 160, .inl (fun _ => 0)), .inr (4, [.ref (β + 4), .ref (β + 7), .ref (β + 8), .int 0]), .inl (G.2.1 0, 160, .inl (fun _ => 0)), .inl (G.2.1 0, 3, .inl (fun _ => 0)), .inl (G.2.1 7, 6, .inr (.inr (.inr (.inr (fun _ => none)))))] H1 := hw.push hat ho1
  clear hat ho1 hz
  refine W.widen (k := 9) (n := 377) (Nat.le_of_ble_eq_true rfl) (Nat.le_of_ble_eq_true rfl) ?_
  refine x_putF (ci := 8) hx hb hts iwX8 tyX8 tyX8_ok nmX8 ho C.K.1 hS (hw.2 0 _ rfl) (hA 0 (by decide)) rfl 8 (by decide) (C.2.2.2.2.1 (.fieldLink RX8 53 RX8 "texts" "[LAtThePost$Text;") (tg 355 (by decide +kernel) rfl)) (fun _ h9 => h9) rfl hin rfl (ty := tyX8 8) (by decide +kernel) rfl rfl (Nat.le_of_ble_eq_true rfl) dX8_init_76 (fun H1 locs hat ho1 hS => ?_)
  have hw : LW β G [.inr (8, [.ref (β + 1), .int 0, .ref (β + 2), .int 1, .ref (β + 3), .int 0, .ref (β + 4), .ref (β + 6), .ref (β + 9), .int 0, .int 0, .null, .null, .null, .null, .null, .null, .null, .null]), .inl (G.2.1 4, 10, .inr (.inr (.inr (.inr (fun _ => none))))), .inl (G.2.1 0, 4, .inl (fun _ => 0)), .inl (G.2.1 5, 24, .inr (.inr (.inr (.inr (fun _ => none))))), .inr (6, [.ref (β + 5), .int 0, .int 0, .int 0, .int (-35), .int 0]), .inl (G.2.1 2, 160, .inl (fun _ => 0)), .inr (4, [.ref (β + 4), .ref (β + 7), .ref (β + 8), .int 0]), .inl (G.2.1 0, 160, .inl (fun _ => 0)), .inl (G.2.1 0, 3, .inl (fun _ => 0)), .inl (G.2.1 7, 6, .inr (.inr (.inr (.inr (fun _ => none)))))] H1 := hw.set 0 (Nat.le_of_ble_eq_true rfl) hat ho1
  clear hat ho1
  refine lv_aload_n hx hb dX8_init_79 rfl (lv_at hl 0 rfl) ?_
  refine lv_iconst (v := 0) hx hb dX8_init_80 (by decide) ?_
  refine x_put (ci := 8) hx hb hts iwX8 tyX8 tyX8_ok nmX8 ho C.K.1 hS (hw.2 0 _ rfl) (hA 0 (by decide)) rfl 9 (by decide) (C.2.2.2.2.1 (.fieldLink RX8 57 RX8 "textCount" "I") (tg 356 (by decide +kernel) rfl)) (fun _ h9 => h9) rfl (ty := tyX8 9) (by decide +kernel) rfl rfl (Nat.le_of_ble_eq_true rfl) dX8_init_81 (fun H1 locs hat ho1 hS => ?_)
  have hw : LW β G [.inr (8, [.ref (β + 1), .int 0, .ref (β + 2), .int 1, .ref (β + 3), .int 0, .ref (β + 4), .ref (β + 6), .ref (β + 9), .int 0, .int 0, .null, .null, .null, .null, .null, .null, .null, .null]), .inl (G.2.1 4, 10, .inr (.inr (.inr (.inr (fun _ => none))))), .inl (G.2.1 0, 4, .inl (fun _ => 0)), .inl (G.2.1 5, 24, .inr (.inr (.inr (.inr (fun _ => none))))), .inr (6, [.ref (β + 5), .int 0, .int 0, .int 0, .int (-35), .int 0]), .inl (G.2.1 2, 160, .inl (fun _ => 0)), .inr (4, [.ref (β + 4), .ref (β + 7), .ref (β + 8), .int 0]), .inl (G.2.1 0, 160, .inl (fun _ => 0)), .inl (G.2.1 0, 3, .inl (fun _ => 0)), .inl (G.2.1 7, 6, .inr (.inr (.inr (.inr (fun _ => none)))))] H1 := hw.set 0 (Nat.le_of_ble_eq_true rfl) hat ho1
  clear hat ho1
  refine lv_aload_n hx hb dX8_init_84 rfl (lv_at hl 0 rfl) ?_
  refine lv_iconst (v := 0) hx hb dX8_init_85 (by decide) ?_
  refine x_put (ci := 8) hx hb hts iwX8 tyX8 tyX8_ok nmX8 ho C.K.1 hS (hw.2 0 _ rfl) (hA 0 (by decide)) rfl 10 (by decide) (C.2.2.2.2.1 (.fieldLink RX8 60 RX8 "rule" "I") (tg 357 (by decide +kernel) rfl)) (fun _ h9 => h9) rfl (ty := tyX8 10) (by decide +kernel) rfl rfl (Nat.le_of_ble_eq_true rfl) dX8_init_86 (fun H1 locs hat ho1 hS => ?_)
  have hw : LW β G [.inr (8, [.ref (β + 1), .int 0, .ref (β + 2), .int 1, .ref (β + 3), .int 0, .ref (β + 4), .ref (β + 6), .ref (β + 9), .int 0, .int 0, .null, .null, .null, .null, .null, .null, .null, .null]), .inl (G.2.1 4, 10, .inr (.inr (.inr (.inr (fun _ => none))))), .inl (G.2.1 0, 4, .inl (fun _ => 0)), .inl (G.2.1 5, 24, .inr (.inr (.inr (.inr (fun _ => none))))), .inr (6, [.ref (β + 5), .int 0, .int 0, .int 0, .int (-35), .int 0]), .inl (G.2.1 2, 160, .inl (fun _ => 0)), .inr (4, [.ref (β + 4), .ref (β + 7), .ref (β + 8), .int 0]), .inl (G.2.1 0, 160, .inl (fun _ => 0)), .inl (G.2.1 0, 3, .inl (fun _ => 0)), .inl (G.2.1 7, 6, .inr (.inr (.inr (.inr (fun _ => none)))))] H1 := hw.set 0 (Nat.le_of_ble_eq_true rfl) hat ho1
  clear hat ho1
  refine lv_aload_n hx hb dX8_init_89 rfl (lv_at hl 0 rfl) ?_
  refine lv_iconst (v := 4) hx hb dX8_init_90 (by decide) ?_
  have hz := hw.1
  replace hz : _ = β + 10 := hz
  refine x_newq (G := G) (cl := vwCl) (t0 := 6) (N := 4) hx hb ho (hts (.classLink RX8 63 "AtThePost$Sheet") (tg 83 (by decide +kernel) rfl)) (va_AO.use (C.K.2.2.2.2.2.2.2.2.2 _ (by decide))) C.K rfl hS (by decide) rfl (by decide) (Nat.le_of_ble_eq_true rfl) (Nat.le_of_ble_eq_true rfl) dX8_init_91 (fun H1 hat ho1 hS => ?_)
  rw [hz]
  have hw : LW β G [.inr (8, [.ref (β + 1), .int 0, .ref (β + 2), .int 1, .ref (β + 3), .int 0, .ref (β + 4), .ref (β + 6), .ref (β + 9), .int 0, .int 0, .null, .null, .null, .null, .null, .null, .null, .null]), .inl (G.2.1 4, 10, .inr (.inr (.inr (.inr (fun _ => none))))), .inl (G.2.1 0, 4, .inl (fun _ => 0)), .inl (G.2.1 5, 24, .inr (.inr (.inr (.inr (fun _ => none))))), .inr (6, [.ref (β + 5), .int 0, .int 0, .int 0, .int (-35), .int 0]), .inl (G.2.1 2, 160, .inl (fun _ => 0)), .inr (4, [.ref (β + 4), .ref (β + 7), .ref (β + 8), .int 0]), .inl (G.2.1 0, 160, .inl (fun _ => 0)), .inl (G.2.1 0, 3, .inl (fun _ => 0)), .inl (G.2.1 7, 6, .inr (.inr (.inr (.inr (fun _ => none))))), .inl (G.2.1 6, 4, .inr (.inr (.inr (.inr (fun _ => none)))))] H1 := hw.push hat ho1
  clear hat ho1 hz
  refine W.widen (k := 10) (n := 381) (Nat.le_of_ble_eq_true rfl) (Nat.le_of_ble_eq_true rfl) ?_
  refine x_putF (ci := 8) hx hb hts iwX8 tyX8 tyX8_ok nmX8 ho C.K.1 hS (hw.2 0 _ rfl) (hA 0 (by decide)) rfl 11 (by decide) (C.2.2.2.2.1 (.fieldLink RX8 65 RX8 "sheets" "[LAtThePost$Sheet;") (tg 358 (by decide +kernel) rfl)) (fun _ h9 => h9) rfl hin rfl (ty := tyX8 11) (by decide +kernel) rfl rfl (Nat.le_of_ble_eq_true rfl) dX8_init_94 (fun H1 locs hat ho1 hS => ?_)
  have hw : LW β G [.inr (8, [.ref (β + 1), .int 0, .ref (β + 2), .int 1, .ref (β + 3), .int 0, .ref (β + 4), .ref (β + 6), .ref (β + 9), .int 0, .int 0, .ref (β + 10), .null, .null, .null, .null, .null, .null, .null]), .inl (G.2.1 4, 10, .inr (.inr (.inr (.inr (fun _ => none))))), .inl (G.2.1 0, 4, .inl (fun _ => 0)), .inl (G.2.1 5, 24, .inr (.inr (.inr (.inr (fun _ => none))))), .inr (6, [.ref (β + 5), .int 0, .int 0, .int 0, .int (-35), .int 0]), .inl (G.2.1 2, 160, .inl (fun _ => 0)), .inr (4, [.ref (β + 4), .ref (β + 7), .ref (β + 8), .int 0]), .inl (G.2.1 0, 160, .inl (fun _ => 0)), .inl (G.2.1 0, 3, .inl (fun _ => 0)), .inl (G.2.1 7, 6, .inr (.inr (.inr (.inr (fun _ => none))))), .inl (G.2.1 6, 4, .inr (.inr (.inr (.inr (fun _ => none)))))] H1 := hw.set 0 (Nat.le_of_ble_eq_true rfl) hat ho1
  clear hat ho1
  refine lv_aload_n hx hb dX8_init_97 rfl (lv_at hl 0 rfl) ?_
  have hz := hw.1
  replace hz : _ = β + 11 := hz
  refine x_new (ci := 2) (fs := [.int 0, .int 0, .int 0, .int 0, .int 0, .null, .null, .null, .null]) hx hb hts iwX2 tyX2 tyX2_ok ho (hts (.classLink RX8 69 RX2) (tg 85 (by decide +kernel) rfl)) (hts (.instantiable RX2 9) (tg 86 (by decide +kernel) rfl)) (hts (.initialized RX2) (tg 4 (by decide +kernel) rfl)) C.K.1 hS rfl (fun j hj => by rcases (show j = 0 ∨ j = 1 ∨ j = 2 ∨ j = 3 ∨ j = 4 ∨ j = 5 ∨ j = 6 ∨ j = 7 ∨ j = 8 by omega) with rfl | rfl | rfl | rfl | rfl | rfl | rfl | rfl | rfl <;> rfl) (Nat.le_of_ble_eq_true rfl) (Nat.le_of_ble_eq_true rfl) dX8_init_98 (fun H1 hat ho1 hS => ?_)
  rw [hz]
  have hw : LW β G [.inr (8, [.ref (β + 1), .int 0, .ref (β + 2), .int 1, .ref (β + 3), .int 0, .ref (β + 4), .ref (β + 6), .ref (β + 9), .int 0, .int 0, .ref (β + 10), .null, .null, .null, .null, .null, .null, .null]), .inl (G.2.1 4, 10, .inr (.inr (.inr (.inr (fun _ => none))))), .inl (G.2.1 0, 4, .inl (fun _ => 0)), .inl (G.2.1 5, 24, .inr (.inr (.inr (.inr (fun _ => none))))), .inr (6, [.ref (β + 5), .int 0, .int 0, .int 0, .int (-35), .int 0]), .inl (G.2.1 2, 160, .inl (fun _ => 0)), .inr (4, [.ref (β + 4), .ref (β + 7), .ref (β + 8), .int 0]), .inl (G.2.1 0, 160, .inl (fun _ => 0)), .inl (G.2.1 0, 3, .inl (fun _ => 0)), .inl (G.2.1 7, 6, .inr (.inr (.inr (.inr (fun _ => none))))), .inl (G.2.1 6, 4, .inr (.inr (.inr (.inr (fun _ => none))))), .inr (2, [.int 0, .int 0, .int 0, .int 0, .int 0, .null, .null, .null, .null])] H1 := hw.push hat ho1
  clear hat ho1 hz
  refine W.widen (k := 11) (n := 390) (Nat.le_of_ble_eq_true rfl) (Nat.le_of_ble_eq_true rfl) ?_
  refine lv_dup hx hb dX8_init_101 rfl ?_
  refine xcallIN C (As := []) (rest := [.ref (β + 11), .ref (β)]) (nA := 0) (kX2_init hA) (C.K.2.2.1 (RX8, 71, yX2_init) (List.mem_of_getElem? (i := 1) rfl)) (tg 88 (by decide +kernel) rfl) (tg 4 (by decide +kernel) rfl) (tg 89 (by decide +kernel) rfl) rfl ⟨by decide +kernel, by decide +kernel, by decide +kernel⟩ rfl rfl ⟨Nat.le_of_ble_eq_true rfl, Nat.le_of_ble_eq_true rfl⟩ hw hS (fun _ q => q) rfl rfl hl.1 (Nat.le_of_ble_eq_true rfl) dX8_init_102 ⟨Nat.le_of_ble_eq_true rfl, Nat.le_of_ble_eq_true rfl⟩ (fun H1 locs hw hz hk hS => ?_)
  clear hz hk
  refine W.widen (k := 15) (n := 424) (Nat.le_of_ble_eq_true rfl) (Nat.le_of_ble_eq_true rfl) ?_
  refine x_putF (ci := 8) hx hb hts iwX8 tyX8 tyX8_ok nmX8 ho C.K.1 hS (hw.2 0 _ rfl) (hA 0 (by decide)) rfl 12 (by decide) (C.2.2.2.2.1 (.fieldLink RX8 72 RX8 "kept" "LAtThePost$Image;") (tg 359 (by decide +kernel) rfl)) (fun _ h9 => h9) rfl hin rfl (ty := tyX8 12) (by decide +kernel) rfl rfl (Nat.le_of_ble_eq_true rfl) dX8_init_105 (fun H1 locs hat ho1 hS => ?_)
  have hw : LW β G [.inr (8, [.ref (β + 1), .int 0, .ref (β + 2), .int 1, .ref (β + 3), .int 0, .ref (β + 4), .ref (β + 6), .ref (β + 9), .int 0, .int 0, .ref (β + 10), .ref (β + 11), .null, .null, .null, .null, .null, .null]), .inl (G.2.1 4, 10, .inr (.inr (.inr (.inr (fun _ => none))))), .inl (G.2.1 0, 4, .inl (fun _ => 0)), .inl (G.2.1 5, 24, .inr (.inr (.inr (.inr (fun _ => none))))), .inr (6, [.ref (β + 5), .int 0, .int 0, .int 0, .int (-35), .int 0]), .inl (G.2.1 2, 160, .inl (fun _ => 0)), .inr (4, [.ref (β + 4), .ref (β + 7), .ref (β + 8), .int 0]), .inl (G.2.1 0, 160, .inl (fun _ => 0)), .inl (G.2.1 0, 3, .inl (fun _ => 0)), .inl (G.2.1 7, 6, .inr (.inr (.inr (.inr (fun _ => none))))), .inl (G.2.1 6, 4, .inr (.inr (.inr (.inr (fun _ => none))))), .inr (2, [.int 0, .int 0, .int 0, .int 0, .int 0, .ref (β + 12), .ref (β + 13), .ref (β + 14), .ref (β + 15)]), .inl (G.2.1 0, 4, .inl (fun _ => 0)), .inl (G.2.1 0, 10, .inl (fun _ => 0)), .inl (G.2.1 0, 10, .inl (fun _ => 0)), .inl (G.2.1 0, 10, .inl (fun _ => 0))] H1 := hw.set 0 (Nat.le_of_ble_eq_true rfl) hat ho1
  clear hat ho1
  refine lv_aload_n hx hb dX8_init_108 rfl (lv_at hl 0 rfl) ?_
  have hz := hw.1
  replace hz : _ = β + 16 := hz
  refine x_new (ci := 0) (fs := [.null, .null, .null, .null, .null, .int 0, .int 0]) hx hb hts iwX0 tyX0 tyX0_ok ho (hts (.classLink RX8 76 RX0) (tg 125 (by decide +kernel) rfl)) (hts (.instantiable RX0 7) (tg 126 (by decide +kernel) rfl)) (hts (.initialized RX0) (tg 5 (by decide +kernel) rfl)) C.K.1 hS rfl (fun j hj => by rcases (show j = 0 ∨ j = 1 ∨ j = 2 ∨ j = 3 ∨ j = 4 ∨ j = 5 ∨ j = 6 by omega) with rfl | rfl | rfl | rfl | rfl | rfl | rfl <;> rfl) (Nat.le_of_ble_eq_true rfl) (Nat.le_of_ble_eq_true rfl) dX8_init_109 (fun H1 hat ho1 hS => ?_)
  rw [hz]
  have hw : LW β G [.inr (8, [.ref (β + 1), .int 0, .ref (β + 2), .int 1, .ref (β + 3), .int 0, .ref (β + 4), .ref (β + 6), .ref (β + 9), .int 0, .int 0, .ref (β + 10), .ref (β + 11), .null, .null, .null, .null, .null, .null]), .inl (G.2.1 4, 10, .inr (.inr (.inr (.inr (fun _ => none))))), .inl (G.2.1 0, 4, .inl (fun _ => 0)), .inl (G.2.1 5, 24, .inr (.inr (.inr (.inr (fun _ => none))))), .inr (6, [.ref (β + 5), .int 0, .int 0, .int 0, .int (-35), .int 0]), .inl (G.2.1 2, 160, .inl (fun _ => 0)), .inr (4, [.ref (β + 4), .ref (β + 7), .ref (β + 8), .int 0]), .inl (G.2.1 0, 160, .inl (fun _ => 0)), .inl (G.2.1 0, 3, .inl (fun _ => 0)), .inl (G.2.1 7, 6, .inr (.inr (.inr (.inr (fun _ => none))))), .inl (G.2.1 6, 4, .inr (.inr (.inr (.inr (fun _ => none))))), .inr (2, [.int 0, .int 0, .int 0, .int 0, .int 0, .ref (β + 12), .ref (β + 13), .ref (β + 14), .ref (β + 15)]), .inl (G.2.1 0, 4, .inl (fun _ => 0)), .inl (G.2.1 0, 10, .inl (fun _ => 0)), .inl (G.2.1 0, 10, .inl (fun _ => 0)), .inl (G.2.1 0, 10, .inl (fun _ => 0)), .inr (0, [.null, .null, .null, .null, .null, .int 0, .int 0])] H1 := hw.push hat ho1
  clear hat ho1 hz
  refine W.widen (k := 16) (n := 431) (Nat.le_of_ble_eq_true rfl) (Nat.le_of_ble_eq_true rfl) ?_
  refine lv_dup hx hb dX8_init_112 rfl ?_
  refine xcallIN C (As := []) (rest := [.ref (β + 16), .ref (β)]) (nA := 0) (kX0_init hA) (C.K.2.2.1 (RX8, 78, yX0_init) (List.mem_of_getElem? (i := 2) rfl)) (tg 128 (by decide +kernel) rfl) (tg 5 (by decide +kernel) rfl) (tg 129 (by decide +kernel) rfl) rfl ⟨by decide +kernel, by decide +kernel, by decide +kernel⟩ rfl rfl ⟨Nat.le_of_ble_eq_true rfl, Nat.le_of_ble_eq_true rfl⟩ hw hS (fun _ q => q) rfl rfl hl.1 (Nat.le_of_ble_eq_true rfl) dX8_init_113 ⟨Nat.le_of_ble_eq_true rfl, Nat.le_of_ble_eq_true rfl⟩ (fun H1 locs hw hz hk hS => ?_)
  clear hz hk
  refine W.widen (k := 21) (n := 470) (Nat.le_of_ble_eq_true rfl) (Nat.le_of_ble_eq_true rfl) ?_
  refine x_putF (ci := 8) hx hb hts iwX8 tyX8 tyX8_ok nmX8 ho C.K.1 hS (hw.2 0 _ rfl) (hA 0 (by decide)) rfl 13 (by decide) (C.2.2.2.2.1 (.fieldLink RX8 79 RX8 "chances" "LAtThePost$Chances;") (tg 360 (by decide +kernel) rfl)) (fun _ h9 => h9) rfl hin rfl (ty := tyX8 13) (by decide +kernel) rfl rfl (Nat.le_of_ble_eq_true rfl) dX8_init_116 (fun H1 locs hat ho1 hS => ?_)
  have hw : LW β G [.inr (8, [.ref (β + 1), .int 0, .ref (β + 2), .int 1, .ref (β + 3), .int 0, .ref (β + 4), .ref (β + 6), .ref (β + 9), .int 0, .int 0, .ref (β + 10), .ref (β + 11), .ref (β + 16), .null, .null, .null, .null, .null]), .inl (G.2.1 4, 10, .inr (.inr (.inr (.inr (fun _ => none))))), .inl (G.2.1 0, 4, .inl (fun _ => 0)), .inl (G.2.1 5, 24, .inr (.inr (.inr (.inr (fun _ => none))))), .inr (6, [.ref (β + 5), .int 0, .int 0, .int 0, .int (-35), .int 0]), .inl (G.2.1 2, 160, .inl (fun _ => 0)), .inr (4, [.ref (β + 4), .ref (β + 7), .ref (β + 8), .int 0]), .inl (G.2.1 0, 160, .inl (fun _ => 0)), .inl (G.2.1 0, 3, .inl (fun _ => 0)), .inl (G.2.1 7, 6, .inr (.inr (.inr (.inr (fun _ => none))))), .inl (G.2.1 6, 4, .inr (.inr (.inr (.inr (fun _ => none))))), .inr (2, [.int 0, .int 0, .int 0, .int 0, .int 0, .ref (β + 12), .ref (β + 13), .ref (β + 14), .ref (β + 15)]), .inl (G.2.1 0, 4, .inl (fun _ => 0)), .inl (G.2.1 0, 10, .inl (fun _ => 0)), .inl (G.2.1 0, 10, .inl (fun _ => 0)), .inl (G.2.1 0, 10, .inl (fun _ => 0)), .inr (0, [.ref (β + 17), .ref (β + 18), .ref (β + 19), .ref (β + 20), .ref (β + 21), .int 0, .int 0]), .inl (G.2.1 0, 10, .inl (fun _ => 0)), .inl (G.2.1 0, 10, .inl (fun _ => 0)), .inl (G.2.1 0, 5, .inl (fun _ => 0)), .inl (G.2.1 0, 7, .inl (fun _ => 0)), .inl (G.2.1 0, 7, .inl (fun _ => 0))] H1 := hw.set 0 (Nat.le_of_ble_eq_true rfl) hat ho1
  clear hat ho1
  refine lv_aload_n hx hb dX8_init_119 rfl (lv_at hl 0 rfl) ?_
  refine lv_bipush (v := 6) hx hb dX8_init_120 (by decide) ?_
  have hz := hw.1
  replace hz : _ = β + 22 := hz
  refine x_newa (G := G) (cl := vwCl) (N := 6) hx hb (hts (.arrayClass .int) (tg 60 (by decide +kernel) rfl)) C.K hS (by decide) rfl (by decide) (Nat.le_of_ble_eq_true rfl) (Nat.le_of_ble_eq_true rfl) dX8_init_122 (fun H1 hat ho1 hS => ?_)
  rw [hz]
  have hw : LW β G [.inr (8, [.ref (β + 1), .int 0, .ref (β + 2), .int 1, .ref (β + 3), .int 0, .ref (β + 4), .ref (β + 6), .ref (β + 9), .int 0, .int 0, .ref (β + 10), .ref (β + 11), .ref (β + 16), .null, .null, .null, .null, .null]), .inl (G.2.1 4, 10, .inr (.inr (.inr (.inr (fun _ => none))))), .inl (G.2.1 0, 4, .inl (fun _ => 0)), .inl (G.2.1 5, 24, .inr (.inr (.inr (.inr (fun _ => none))))), .inr (6, [.ref (β + 5), .int 0, .int 0, .int 0, .int (-35), .int 0]), .inl (G.2.1 2, 160, .inl (fun _ => 0)), .inr (4, [.ref (β + 4), .ref (β + 7), .ref (β + 8), .int 0]), .inl (G.2.1 0, 160, .inl (fun _ => 0)), .inl (G.2.1 0, 3, .inl (fun _ => 0)), .inl (G.2.1 7, 6, .inr (.inr (.inr (.inr (fun _ => none))))), .inl (G.2.1 6, 4, .inr (.inr (.inr (.inr (fun _ => none))))), .inr (2, [.int 0, .int 0, .int 0, .int 0, .int 0, .ref (β + 12), .ref (β + 13), .ref (β + 14), .ref (β + 15)]), .inl (G.2.1 0, 4, .inl (fun _ => 0)), .inl (G.2.1 0, 10, .inl (fun _ => 0)), .inl (G.2.1 0, 10, .inl (fun _ => 0)), .inl (G.2.1 0, 10, .inl (fun _ => 0)), .inr (0, [.ref (β + 17), .ref (β + 18), .ref (β + 19), .ref (β + 20), .ref (β + 21), .int 0, .int 0]), .inl (G.2.1 0, 10, .inl (fun _ => 0)), .inl (G.2.1 0, 10, .inl (fun _ => 0)), .inl (G.2.1 0, 5, .inl (fun _ => 0)), .inl (G.2.1 0, 7, .inl (fun _ => 0)), .inl (G.2.1 0, 7, .inl (fun _ => 0)), .inl (G.2.1 0, 6, .inl (fun _ => 0))] H1 := hw.push hat ho1
  clear hat ho1 hz
  refine W.widen (k := 22) (n := 476) (Nat.le_of_ble_eq_true rfl) (Nat.le_of_ble_eq_true rfl) ?_
  refine x_putF (ci := 8) hx hb hts iwX8 tyX8 tyX8_ok nmX8 ho C.K.1 hS (hw.2 0 _ rfl) (hA 0 (by decide)) rfl 14 (by decide) (C.2.2.2.2.1 (.fieldLink RX8 83 RX8 "nameValues" "[I") (tg 361 (by decide +kernel) rfl)) (fun _ h9 => h9) rfl hin rfl (ty := tyX8 14) (by decide +kernel) rfl rfl (Nat.le_of_ble_eq_true rfl) dX8_init_124 (fun H1 locs hat ho1 hS => ?_)
  have hw : LW β G [.inr (8, [.ref (β + 1), .int 0, .ref (β + 2), .int 1, .ref (β + 3), .int 0, .ref (β + 4), .ref (β + 6), .ref (β + 9), .int 0, .int 0, .ref (β + 10), .ref (β + 11), .ref (β + 16), .ref (β + 22), .null, .null, .null, .null]), .inl (G.2.1 4, 10, .inr (.inr (.inr (.inr (fun _ => none))))), .inl (G.2.1 0, 4, .inl (fun _ => 0)), .inl (G.2.1 5, 24, .inr (.inr (.inr (.inr (fun _ => none))))), .inr (6, [.ref (β + 5), .int 0, .int 0, .int 0, .int (-35), .int 0]), .inl (G.2.1 2, 160, .inl (fun _ => 0)), .inr (4, [.ref (β + 4), .ref (β + 7), .ref (β + 8), .int 0]), .inl (G.2.1 0, 160, .inl (fun _ => 0)), .inl (G.2.1 0, 3, .inl (fun _ => 0)), .inl (G.2.1 7, 6, .inr (.inr (.inr (.inr (fun _ => none))))), .inl (G.2.1 6, 4, .inr (.inr (.inr (.inr (fun _ => none))))), .inr (2, [.int 0, .int 0, .int 0, .int 0, .int 0, .ref (β + 12), .ref (β + 13), .ref (β + 14), .ref (β + 15)]), .inl (G.2.1 0, 4, .inl (fun _ => 0)), .inl (G.2.1 0, 10, .inl (fun _ => 0)), .inl (G.2.1 0, 10, .inl (fun _ => 0)), .inl (G.2.1 0, 10, .inl (fun _ => 0)), .inr (0, [.ref (β + 17), .ref (β + 18), .ref (β + 19), .ref (β + 20), .ref (β + 21), .int 0, .int 0]), .inl (G.2.1 0, 10, .inl (fun _ => 0)), .inl (G.2.1 0, 10, .inl (fun _ => 0)), .inl (G.2.1 0, 5, .inl (fun _ => 0)), .inl (G.2.1 0, 7, .inl (fun _ => 0)), .inl (G.2.1 0, 7, .inl (fun _ => 0)), .inl (G.2.1 0, 6, .inl (fun _ => 0))] H1 := hw.set 0 (Nat.le_of_ble_eq_true rfl) hat ho1
  clear hat ho1
  refine lv_aload_n hx hb dX8_init_127 rfl (lv_at hl 0 rfl) ?_
  refine lv_iconst (v := 5) hx hb dX8_init_128 (by decide) ?_
  have hz := hw.1
  replace hz : _ = β + 23 := hz
  refine x_newa (G := G) (cl := vwCl) (N := 5) hx hb (hts (.arrayClass .int) (tg 60 (by decide +kernel) rfl)) C.K hS (by decide) rfl (by decide) (Nat.le_of_ble_eq_true rfl) (Nat.le_of_ble_eq_true rfl) dX8_init_129 (fun H1 hat ho1 hS => ?_)
  rw [hz]
  have hw : LW β G [.inr (8, [.ref (β + 1), .int 0, .ref (β + 2), .int 1, .ref (β + 3), .int 0, .ref (β + 4), .ref (β + 6), .ref (β + 9), .int 0, .int 0, .ref (β + 10), .ref (β + 11), .ref (β + 16), .ref (β + 22), .null, .null, .null, .null]), .inl (G.2.1 4, 10, .inr (.inr (.inr (.inr (fun _ => none))))), .inl (G.2.1 0, 4, .inl (fun _ => 0)), .inl (G.2.1 5, 24, .inr (.inr (.inr (.inr (fun _ => none))))), .inr (6, [.ref (β + 5), .int 0, .int 0, .int 0, .int (-35), .int 0]), .inl (G.2.1 2, 160, .inl (fun _ => 0)), .inr (4, [.ref (β + 4), .ref (β + 7), .ref (β + 8), .int 0]), .inl (G.2.1 0, 160, .inl (fun _ => 0)), .inl (G.2.1 0, 3, .inl (fun _ => 0)), .inl (G.2.1 7, 6, .inr (.inr (.inr (.inr (fun _ => none))))), .inl (G.2.1 6, 4, .inr (.inr (.inr (.inr (fun _ => none))))), .inr (2, [.int 0, .int 0, .int 0, .int 0, .int 0, .ref (β + 12), .ref (β + 13), .ref (β + 14), .ref (β + 15)]), .inl (G.2.1 0, 4, .inl (fun _ => 0)), .inl (G.2.1 0, 10, .inl (fun _ => 0)), .inl (G.2.1 0, 10, .inl (fun _ => 0)), .inl (G.2.1 0, 10, .inl (fun _ => 0)), .inr (0, [.ref (β + 17), .ref (β + 18), .ref (β + 19), .ref (β + 20), .ref (β + 21), .int 0, .int 0]), .inl (G.2.1 0, 10, .inl (fun _ => 0)), .inl (G.2.1 0, 10, .inl (fun _ => 0)), .inl (G.2.1 0, 5, .inl (fun _ => 0)), .inl (G.2.1 0, 7, .inl (fun _ => 0)), .inl (G.2.1 0, 7, .inl (fun _ => 0)), .inl (G.2.1 0, 6, .inl (fun _ => 0)), .inl (G.2.1 0, 5, .inl (fun _ => 0))] H1 := hw.push hat ho1
  clear hat ho1 hz
  refine W.widen (k := 23) (n := 481) (Nat.le_of_ble_eq_true rfl) (Nat.le_of_ble_eq_true rfl) ?_
  refine x_putF (ci := 8) hx hb hts iwX8 tyX8 tyX8_ok nmX8 ho C.K.1 hS (hw.2 0 _ rfl) (hA 0 (by decide)) rfl 15 (by decide) (C.2.2.2.2.1 (.fieldLink RX8 86 RX8 "placed" "[I") (tg 362 (by decide +kernel) rfl)) (fun _ h9 => h9) rfl hin rfl (ty := tyX8 15) (by decide +kernel) rfl rfl (Nat.le_of_ble_eq_true rfl) dX8_init_131 (fun H1 locs hat ho1 hS => ?_)
  have hw : LW β G [.inr (8, [.ref (β + 1), .int 0, .ref (β + 2), .int 1, .ref (β + 3), .int 0, .ref (β + 4), .ref (β + 6), .ref (β + 9), .int 0, .int 0, .ref (β + 10), .ref (β + 11), .ref (β + 16), .ref (β + 22), .ref (β + 23), .null, .null, .null]), .inl (G.2.1 4, 10, .inr (.inr (.inr (.inr (fun _ => none))))), .inl (G.2.1 0, 4, .inl (fun _ => 0)), .inl (G.2.1 5, 24, .inr (.inr (.inr (.inr (fun _ => none))))), .inr (6, [.ref (β + 5), .int 0, .int 0, .int 0, .int (-35), .int 0]), .inl (G.2.1 2, 160, .inl (fun _ => 0)), .inr (4, [.ref (β + 4), .ref (β + 7), .ref (β + 8), .int 0]), .inl (G.2.1 0, 160, .inl (fun _ => 0)), .inl (G.2.1 0, 3, .inl (fun _ => 0)), .inl (G.2.1 7, 6, .inr (.inr (.inr (.inr (fun _ => none))))), .inl (G.2.1 6, 4, .inr (.inr (.inr (.inr (fun _ => none))))), .inr (2, [.int 0, .int 0, .int 0, .int 0, .int 0, .ref (β + 12), .ref (β + 13), .ref (β + 14), .ref (β + 15)]), .inl (G.2.1 0, 4, .inl (fun _ => 0)), .inl (G.2.1 0, 10, .inl (fun _ => 0)), .inl (G.2.1 0, 10, .inl (fun _ => 0)), .inl (G.2.1 0, 10, .inl (fun _ => 0)), .inr (0, [.ref (β + 17), .ref (β + 18), .ref (β + 19), .ref (β + 20), .ref (β + 21), .int 0, .int 0]), .inl (G.2.1 0, 10, .inl (fun _ => 0)), .inl (G.2.1 0, 10, .inl (fun _ => 0)), .inl (G.2.1 0, 5, .inl (fun _ => 0)), .inl (G.2.1 0, 7, .inl (fun _ => 0)), .inl (G.2.1 0, 7, .inl (fun _ => 0)), .inl (G.2.1 0, 6, .inl (fun _ => 0)), .inl (G.2.1 0, 5, .inl (fun _ => 0))] H1 := hw.set 0 (Nat.le_of_ble_eq_true rfl) hat ho1
  clear hat ho1
  refine lv_aload_n hx hb dX8_init_134 rfl (lv_at hl 0 rfl) ?_
  refine lv_bipush (v := 10) hx hb dX8_init_135 (by decide) ?_
  have hz := hw.1
  replace hz : _ = β + 24 := hz
  refine x_newa (G := G) (cl := vwCl) (N := 10) hx hb (hts (.arrayClass .int) (tg 60 (by decide +kernel) rfl)) C.K hS (by decide) rfl (by decide) (Nat.le_of_ble_eq_true rfl) (Nat.le_of_ble_eq_true rfl) dX8_init_137 (fun H1 hat ho1 hS => ?_)
  rw [hz]
  have hw : LW β G [.inr (8, [.ref (β + 1), .int 0, .ref (β + 2), .int 1, .ref (β + 3), .int 0, .ref (β + 4), .ref (β + 6), .ref (β + 9), .int 0, .int 0, .ref (β + 10), .ref (β + 11), .ref (β + 16), .ref (β + 22), .ref (β + 23), .null, .null, .null]), .inl (G.2.1 4, 10, .inr (.inr (.inr (.inr (fun _ => none))))), .inl (G.2.1 0, 4, .inl (fun _ => 0)), .inl (G.2.1 5, 24, .inr (.inr (.inr (.inr (fun _ => none))))), .inr (6, [.ref (β + 5), .int 0, .int 0, .int 0, .int (-35), .int 0]), .inl (G.2.1 2, 160, .inl (fun _ => 0)), .inr (4, [.ref (β + 4), .ref (β + 7), .ref (β + 8), .int 0]), .inl (G.2.1 0, 160, .inl (fun _ => 0)), .inl (G.2.1 0, 3, .inl (fun _ => 0)), .inl (G.2.1 7, 6, .inr (.inr (.inr (.inr (fun _ => none))))), .inl (G.2.1 6, 4, .inr (.inr (.inr (.inr (fun _ => none))))), .inr (2, [.int 0, .int 0, .int 0, .int 0, .int 0, .ref (β + 12), .ref (β + 13), .ref (β + 14), .ref (β + 15)]), .inl (G.2.1 0, 4, .inl (fun _ => 0)), .inl (G.2.1 0, 10, .inl (fun _ => 0)), .inl (G.2.1 0, 10, .inl (fun _ => 0)), .inl (G.2.1 0, 10, .inl (fun _ => 0)), .inr (0, [.ref (β + 17), .ref (β + 18), .ref (β + 19), .ref (β + 20), .ref (β + 21), .int 0, .int 0]), .inl (G.2.1 0, 10, .inl (fun _ => 0)), .inl (G.2.1 0, 10, .inl (fun _ => 0)), .inl (G.2.1 0, 5, .inl (fun _ => 0)), .inl (G.2.1 0, 7, .inl (fun _ => 0)), .inl (G.2.1 0, 7, .inl (fun _ => 0)), .inl (G.2.1 0, 6, .inl (fun _ => 0)), .inl (G.2.1 0, 5, .inl (fun _ => 0)), .inl (G.2.1 0, 10, .inl (fun _ => 0))] H1 := hw.push hat ho1
  clear hat ho1 hz
  refine W.widen (k := 24) (n := 491) (Nat.le_of_ble_eq_true rfl) (Nat.le_of_ble_eq_true rfl) ?_
  refine x_putF (ci := 8) hx hb hts iwX8 tyX8 tyX8_ok nmX8 ho C.K.1 hS (hw.2 0 _ rfl) (hA 0 (by decide)) rfl 16 (by decide) (C.2.2.2.2.1 (.fieldLink RX8 89 RX8 "trialLeads" "[I") (tg 363 (by decide +kernel) rfl)) (fun _ h9 => h9) rfl hin rfl (ty := tyX8 16) (by decide +kernel) rfl rfl (Nat.le_of_ble_eq_true rfl) dX8_init_139 (fun H1 locs hat ho1 hS => ?_)
  have hw : LW β G [.inr (8, [.ref (β + 1), .int 0, .ref (β + 2), .int 1, .ref (β + 3), .int 0, .ref (β + 4), .ref (β + 6), .ref (β + 9), .int 0, .int 0, .ref (β + 10), .ref (β + 11), .ref (β + 16), .ref (β + 22), .ref (β + 23), .ref (β + 24), .null, .null]), .inl (G.2.1 4, 10, .inr (.inr (.inr (.inr (fun _ => none))))), .inl (G.2.1 0, 4, .inl (fun _ => 0)), .inl (G.2.1 5, 24, .inr (.inr (.inr (.inr (fun _ => none))))), .inr (6, [.ref (β + 5), .int 0, .int 0, .int 0, .int (-35), .int 0]), .inl (G.2.1 2, 160, .inl (fun _ => 0)), .inr (4, [.ref (β + 4), .ref (β + 7), .ref (β + 8), .int 0]), .inl (G.2.1 0, 160, .inl (fun _ => 0)), .inl (G.2.1 0, 3, .inl (fun _ => 0)), .inl (G.2.1 7, 6, .inr (.inr (.inr (.inr (fun _ => none))))), .inl (G.2.1 6, 4, .inr (.inr (.inr (.inr (fun _ => none))))), .inr (2, [.int 0, .int 0, .int 0, .int 0, .int 0, .ref (β + 12), .ref (β + 13), .ref (β + 14), .ref (β + 15)]), .inl (G.2.1 0, 4, .inl (fun _ => 0)), .inl (G.2.1 0, 10, .inl (fun _ => 0)), .inl (G.2.1 0, 10, .inl (fun _ => 0)), .inl (G.2.1 0, 10, .inl (fun _ => 0)), .inr (0, [.ref (β + 17), .ref (β + 18), .ref (β + 19), .ref (β + 20), .ref (β + 21), .int 0, .int 0]), .inl (G.2.1 0, 10, .inl (fun _ => 0)), .inl (G.2.1 0, 10, .inl (fun _ => 0)), .inl (G.2.1 0, 5, .inl (fun _ => 0)), .inl (G.2.1 0, 7, .inl (fun _ => 0)), .inl (G.2.1 0, 7, .inl (fun _ => 0)), .inl (G.2.1 0, 6, .inl (fun _ => 0)), .inl (G.2.1 0, 5, .inl (fun _ => 0)), .inl (G.2.1 0, 10, .inl (fun _ => 0))] H1 := hw.set 0 (Nat.le_of_ble_eq_true rfl) hat ho1
  clear hat ho1
  refine lv_aload_n hx hb dX8_init_142 rfl (lv_at hl 0 rfl) ?_
  refine lv_bipush (v := 10) hx hb dX8_init_143 (by decide) ?_
  have hz := hw.1
  replace hz : _ = β + 25 := hz
  refine x_newa (G := G) (cl := vwCl) (N := 10) hx hb (hts (.arrayClass .int) (tg 60 (by decide +kernel) rfl)) C.K hS (by decide) rfl (by decide) (Nat.le_of_ble_eq_true rfl) (Nat.le_of_ble_eq_true rfl) dX8_init_145 (fun H1 hat ho1 hS => ?_)
  rw [hz]
  have hw : LW β G [.inr (8, [.ref (β + 1), .int 0, .ref (β + 2), .int 1, .ref (β + 3), .int 0, .ref (β + 4), .ref (β + 6), .ref (β + 9), .int 0, .int 0, .ref (β + 10), .ref (β + 11), .ref (β + 16), .ref (β + 22), .ref (β + 23), .ref (β + 24), .null, .null]), .inl (G.2.1 4, 10, .inr (.inr (.inr (.inr (fun _ => none))))), .inl (G.2.1 0, 4, .inl (fun _ => 0)), .inl (G.2.1 5, 24, .inr (.inr (.inr (.inr (fun _ => none))))), .inr (6, [.ref (β + 5), .int 0, .int 0, .int 0, .int (-35), .int 0]), .inl (G.2.1 2, 160, .inl (fun _ => 0)), .inr (4, [.ref (β + 4), .ref (β + 7), .ref (β + 8), .int 0]), .inl (G.2.1 0, 160, .inl (fun _ => 0)), .inl (G.2.1 0, 3, .inl (fun _ => 0)), .inl (G.2.1 7, 6, .inr (.inr (.inr (.inr (fun _ => none))))), .inl (G.2.1 6, 4, .inr (.inr (.inr (.inr (fun _ => none))))), .inr (2, [.int 0, .int 0, .int 0, .int 0, .int 0, .ref (β + 12), .ref (β + 13), .ref (β + 14), .ref (β + 15)]), .inl (G.2.1 0, 4, .inl (fun _ => 0)), .inl (G.2.1 0, 10, .inl (fun _ => 0)), .inl (G.2.1 0, 10, .inl (fun _ => 0)), .inl (G.2.1 0, 10, .inl (fun _ => 0)), .inr (0, [.ref (β + 17), .ref (β + 18), .ref (β + 19), .ref (β + 20), .ref (β + 21), .int 0, .int 0]), .inl (G.2.1 0, 10, .inl (fun _ => 0)), .inl (G.2.1 0, 10, .inl (fun _ => 0)), .inl (G.2.1 0, 5, .inl (fun _ => 0)), .inl (G.2.1 0, 7, .inl (fun _ => 0)), .inl (G.2.1 0, 7, .inl (fun _ => 0)), .inl (G.2.1 0, 6, .inl (fun _ => 0)), .inl (G.2.1 0, 5, .inl (fun _ => 0)), .inl (G.2.1 0, 10, .inl (fun _ => 0)), .inl (G.2.1 0, 10, .inl (fun _ => 0))] H1 := hw.push hat ho1
  clear hat ho1 hz
  refine W.widen (k := 25) (n := 501) (Nat.le_of_ble_eq_true rfl) (Nat.le_of_ble_eq_true rfl) ?_
  refine x_putF (ci := 8) hx hb hts iwX8 tyX8 tyX8_ok nmX8 ho C.K.1 hS (hw.2 0 _ rfl) (hA 0 (by decide)) rfl 17 (by decide) (C.2.2.2.2.1 (.fieldLink RX8 92 RX8 "trialWins" "[I") (tg 364 (by decide +kernel) rfl)) (fun _ h9 => h9) rfl hin rfl (ty := tyX8 17) (by decide +kernel) rfl rfl (Nat.le_of_ble_eq_true rfl) dX8_init_147 (fun H1 locs hat ho1 hS => ?_)
  have hw : LW β G [.inr (8, [.ref (β + 1), .int 0, .ref (β + 2), .int 1, .ref (β + 3), .int 0, .ref (β + 4), .ref (β + 6), .ref (β + 9), .int 0, .int 0, .ref (β + 10), .ref (β + 11), .ref (β + 16), .ref (β + 22), .ref (β + 23), .ref (β + 24), .ref (β + 25), .null]), .inl (G.2.1 4, 10, .inr (.inr (.inr (.inr (fun _ => none))))), .inl (G.2.1 0, 4, .inl (fun _ => 0)), .inl (G.2.1 5, 24, .inr (.inr (.inr (.inr (fun _ => none))))), .inr (6, [.ref (β + 5), .int 0, .int 0, .int 0, .int (-35), .int 0]), .inl (G.2.1 2, 160, .inl (fun _ => 0)), .inr (4, [.ref (β + 4), .ref (β + 7), .ref (β + 8), .int 0]), .inl (G.2.1 0, 160, .inl (fun _ => 0)), .inl (G.2.1 0, 3, .inl (fun _ => 0)), .inl (G.2.1 7, 6, .inr (.inr (.inr (.inr (fun _ => none))))), .inl (G.2.1 6, 4, .inr (.inr (.inr (.inr (fun _ => none))))), .inr (2, [.int 0, .int 0, .int 0, .int 0, .int 0, .ref (β + 12), .ref (β + 13), .ref (β + 14), .ref (β + 15)]), .inl (G.2.1 0, 4, .inl (fun _ => 0)), .inl (G.2.1 0, 10, .inl (fun _ => 0)), .inl (G.2.1 0, 10, .inl (fun _ => 0)), .inl (G.2.1 0, 10, .inl (fun _ => 0)), .inr (0, [.ref (β + 17), .ref (β + 18), .ref (β + 19), .ref (β + 20), .ref (β + 21), .int 0, .int 0]), .inl (G.2.1 0, 10, .inl (fun _ => 0)), .inl (G.2.1 0, 10, .inl (fun _ => 0)), .inl (G.2.1 0, 5, .inl (fun _ => 0)), .inl (G.2.1 0, 7, .inl (fun _ => 0)), .inl (G.2.1 0, 7, .inl (fun _ => 0)), .inl (G.2.1 0, 6, .inl (fun _ => 0)), .inl (G.2.1 0, 5, .inl (fun _ => 0)), .inl (G.2.1 0, 10, .inl (fun _ => 0)), .inl (G.2.1 0, 10, .inl (fun _ => 0))] H1 := hw.set 0 (Nat.le_of_ble_eq_true rfl) hat ho1
  clear hat ho1
  refine lv_aload_n hx hb dX8_init_150 rfl (lv_at hl 0 rfl) ?_
  refine lv_bipush (v := 10) hx hb dX8_init_151 (by decide) ?_
  have hz := hw.1
  replace hz : _ = β + 26 := hz
  refine x_newa (G := G) (cl := vwCl) (N := 10) hx hb (hts (.arrayClass .int) (tg 60 (by decide +kernel) rfl)) C.K hS (by decide) rfl (by decide) (Nat.le_of_ble_eq_true rfl) (Nat.le_of_ble_eq_true rfl) dX8_init_153 (fun H1 hat ho1 hS => ?_)
  rw [hz]
  have hw : LW β G [.inr (8, [.ref (β + 1), .int 0, .ref (β + 2), .int 1, .ref (β + 3), .int 0, .ref (β + 4), .ref (β + 6), .ref (β + 9), .int 0, .int 0, .ref (β + 10), .ref (β + 11), .ref (β + 16), .ref (β + 22), .ref (β + 23), .ref (β + 24), .ref (β + 25), .null]), .inl (G.2.1 4, 10, .inr (.inr (.inr (.inr (fun _ => none))))), .inl (G.2.1 0, 4, .inl (fun _ => 0)), .inl (G.2.1 5, 24, .inr (.inr (.inr (.inr (fun _ => none))))), .inr (6, [.ref (β + 5), .int 0, .int 0, .int 0, .int (-35), .int 0]), .inl (G.2.1 2, 160, .inl (fun _ => 0)), .inr (4, [.ref (β + 4), .ref (β + 7), .ref (β + 8), .int 0]), .inl (G.2.1 0, 160, .inl (fun _ => 0)), .inl (G.2.1 0, 3, .inl (fun _ => 0)), .inl (G.2.1 7, 6, .inr (.inr (.inr (.inr (fun _ => none))))), .inl (G.2.1 6, 4, .inr (.inr (.inr (.inr (fun _ => none))))), .inr (2, [.int 0, .int 0, .int 0, .int 0, .int 0, .ref (β + 12), .ref (β + 13), .ref (β + 14), .ref (β + 15)]), .inl (G.2.1 0, 4, .inl (fun _ => 0)), .inl (G.2.1 0, 10, .inl (fun _ => 0)), .inl (G.2.1 0, 10, .inl (fun _ => 0)), .inl (G.2.1 0, 10, .inl (fun _ => 0)), .inr (0, [.ref (β + 17), .ref (β + 18), .ref (β + 19), .ref (β + 20), .ref (β + 21), .int 0, .int 0]), .inl (G.2.1 0, 10, .inl (fun _ => 0)), .inl (G.2.1 0, 10, .inl (fun _ => 0)), .inl (G.2.1 0, 5, .inl (fun _ => 0)), .inl (G.2.1 0, 7, .inl (fun _ => 0)), .inl (G.2.1 0, 7, .inl (fun _ => 0)), .inl (G.2.1 0, 6, .inl (fun _ => 0)), .inl (G.2.1 0, 5, .inl (fun _ => 0)), .inl (G.2.1 0, 10, .inl (fun _ => 0)), .inl (G.2.1 0, 10, .inl (fun _ => 0)), .inl (G.2.1 0, 10, .inl (fun _ => 0))] H1 := hw.push hat ho1
  clear hat ho1 hz
  refine W.widen (k := 26) (n := 511) (Nat.le_of_ble_eq_true rfl) (Nat.le_of_ble_eq_true rfl) ?_
  refine x_putF (ci := 8) hx hb hts iwX8 tyX8 tyX8_ok nmX8 ho C.K.1 hS (hw.2 0 _ rfl) (hA 0 (by decide)) rfl 18 (by decide) (C.2.2.2.2.1 (.fieldLink RX8 95 RX8 "trialRuns" "[I") (tg 365 (by decide +kernel) rfl)) (fun _ h9 => h9) rfl hin rfl (ty := tyX8 18) (by decide +kernel) rfl rfl (Nat.le_of_ble_eq_true rfl) dX8_init_155 (fun H1 locs hat ho1 hS => ?_)
  have hw : LW β G [.inr (8, [.ref (β + 1), .int 0, .ref (β + 2), .int 1, .ref (β + 3), .int 0, .ref (β + 4), .ref (β + 6), .ref (β + 9), .int 0, .int 0, .ref (β + 10), .ref (β + 11), .ref (β + 16), .ref (β + 22), .ref (β + 23), .ref (β + 24), .ref (β + 25), .ref (β + 26)]), .inl (G.2.1 4, 10, .inr (.inr (.inr (.inr (fun _ => none))))), .inl (G.2.1 0, 4, .inl (fun _ => 0)), .inl (G.2.1 5, 24, .inr (.inr (.inr (.inr (fun _ => none))))), .inr (6, [.ref (β + 5), .int 0, .int 0, .int 0, .int (-35), .int 0]), .inl (G.2.1 2, 160, .inl (fun _ => 0)), .inr (4, [.ref (β + 4), .ref (β + 7), .ref (β + 8), .int 0]), .inl (G.2.1 0, 160, .inl (fun _ => 0)), .inl (G.2.1 0, 3, .inl (fun _ => 0)), .inl (G.2.1 7, 6, .inr (.inr (.inr (.inr (fun _ => none))))), .inl (G.2.1 6, 4, .inr (.inr (.inr (.inr (fun _ => none))))), .inr (2, [.int 0, .int 0, .int 0, .int 0, .int 0, .ref (β + 12), .ref (β + 13), .ref (β + 14), .ref (β + 15)]), .inl (G.2.1 0, 4, .inl (fun _ => 0)), .inl (G.2.1 0, 10, .inl (fun _ => 0)), .inl (G.2.1 0, 10, .inl (fun _ => 0)), .inl (G.2.1 0, 10, .inl (fun _ => 0)), .inr (0, [.ref (β + 17), .ref (β + 18), .ref (β + 19), .ref (β + 20), .ref (β + 21), .int 0, .int 0]), .inl (G.2.1 0, 10, .inl (fun _ => 0)), .inl (G.2.1 0, 10, .inl (fun _ => 0)), .inl (G.2.1 0, 5, .inl (fun _ => 0)), .inl (G.2.1 0, 7, .inl (fun _ => 0)), .inl (G.2.1 0, 7, .inl (fun _ => 0)), .inl (G.2.1 0, 6, .inl (fun _ => 0)), .inl (G.2.1 0, 5, .inl (fun _ => 0)), .inl (G.2.1 0, 10, .inl (fun _ => 0)), .inl (G.2.1 0, 10, .inl (fun _ => 0)), .inl (G.2.1 0, 10, .inl (fun _ => 0))] H1 := hw.set 0 (Nat.le_of_ble_eq_true rfl) hat ho1
  clear hat ho1
  have hf1 := hf.keep hS (by omega)
  have hw : CW β D G (x0X β) _ := ⟨hw.1, fun k hk => hA k (by omega), fun k hk => match k, hk with
    | 0, _ => hw.2 0 _ rfl
    | 1, _ => hw.2 1 _ rfl
    | 2, _ => hw.2 2 _ rfl
    | 3, _ => hw.2 3 _ rfl
    | 4, _ => hw.2 4 _ rfl
    | 5, _ => hw.2 5 _ rfl
    | 6, _ => hw.2 6 _ rfl
    | 7, _ => hw.2 7 _ rfl
    | 8, _ => hw.2 8 _ rfl
    | 9, _ => hw.2 9 _ rfl
    | 10, _ => hw.2 10 _ rfl
    | 11, _ => hw.2 11 _ rfl
    | 12, _ => hw.2 12 _ rfl
    | 13, _ => hw.2 13 _ rfl
    | 14, _ => hw.2 14 _ rfl
    | 15, _ => hw.2 15 _ rfl
    | 16, _ => hw.2 16 _ rfl
    | 17, _ => hw.2 17 _ rfl
    | 18, _ => hw.2 18 _ rfl
    | 19, _ => hw.2 19 _ rfl
    | 20, _ => hw.2 20 _ rfl
    | 21, _ => hw.2 21 _ rfl
    | 22, _ => hw.2 22 _ rfl
    | 23, _ => hw.2 23 _ rfl
    | 24, _ => hw.2 24 _ rfl
    | 25, _ => hw.2 25 _ rfl
    | 26, _ => hw.2 26 _ rfl
    | k + 27, hk => absurd hk (by omega), fun a d h => (by cases h), hf1⟩
  have hn : ∀ q, s.heap.size ≤ q → D q := fun q h => by
    rw [hz0] at h
    by_cases q1 : β + 27 ≤ q
    · exact hn0 q q1
    · have := hA (q - β) (by omega)
      rwa [Nat.add_sub_cancel' (by omega)] at this
  have hRf : 111 ≤ rmX8_init.frames := Nat.le_refl _
  have hRl : 2633 ≤ rmX8_init.locals := Nat.le_refl _
  have hcs : 26 ≤ rmX8_init.cells ∧ 511 ≤ rmX8_init.slots := ⟨Nat.le_of_ble_eq_true rfl, Nat.le_of_ble_eq_true rfl⟩
  generalize x0X β = x at hw hm
  unfold fX8_tail at hm
  have hl : lv_has ls 2 [(0, .ref β)] := hl
  refine lv_aload_n hx hb dX8_init_158 rfl (lv_at hl 0 rfl) ?_
  refine gX8_19 C hw dX8_init_159 ?_
  refine lv_iconst (v := 2) hx hb dX8_init_162 (by decide) ?_
  refine flX8_98_2 C hw hS hl.1 (Nat.le_of_ble_eq_true rfl) (Nat.le_trans (Nat.le_of_ble_eq_true rfl) hRf) (Nat.le_trans (Nat.le_of_ble_eq_true rfl) hRl) hcs dX8_init_163 (fun H locs hw hS => ?_)
  obtain ⟨x1, ev, hm⟩ := lt_e hm
  rw [← ev] at hw
  clear ev
  refine lv_iconst (v := 0) hx hb dX8_init_166 (by decide) ?_
  refine lv_istore_n (lv' := [(1, .int 0), (0, .ref β)]) hx hb dX8_init_167 rfl hl (by decide) rfl (fun ls hl => ?_)
  obtain ⟨x9, hj, hm⟩ := bind_e hm
  refine lX8_init_168 C hRf hRl hcs hf NF _ _ _ _ _ _ hj hw hS (lv_sub hl [1, 0] rfl) (fun x9_ e0 H locs ls hw hS hl => ?_)
  cases e0
  refine lv_aload_n hx hb dX8_init_196 rfl (lv_at hl 0 rfl) ?_
  refine gX8_53 C hw dX8_init_197 ?_
  refine lv_iconst (v := 0) hx hb dX8_init_200 (by decide) ?_
  refine lv_aload_n hx hb dX8_init_201 rfl (lv_at hl 0 rfl) ?_
  refine gX8_47 C hw dX8_init_202 ?_
  obtain ⟨v10, x11, h12, hm⟩ := bind2_e hm
  refine sX8_120 C hn h12 hw hS hl.1 (Nat.le_of_ble_eq_true rfl) (Nat.le_trans (Nat.le_of_ble_eq_true rfl) hRf) (Nat.le_trans (Nat.le_of_ble_eq_true rfl) hRl) ⟨Nat.le_of_ble_eq_true rfl, Nat.le_of_ble_eq_true rfl⟩ dX8_init_205 (fun H locs hw hS => ?_)
  refine W.widen (k := 30) (n := 718) (Nat.le_of_ble_eq_true rfl) (Nat.le_of_ble_eq_true rfl) ?_
  have hcs : 30 ≤ rmX8_init.cells ∧ 718 ≤ rmX8_init.slots := ⟨Nat.le_of_ble_eq_true rfl, Nat.le_of_ble_eq_true rfl⟩
  obtain ⟨p13, hq, hz⟩ := bind_e hm
  clear hm
  subst hq
  have hm := hz
  clear hz
  obtain ⟨h14, hm⟩ := chk_e hm
  obtain ⟨h16, hm⟩ := chk_e hm
  refine asX_9 C h16 hw hS h14 dX8_init_208 (fun H locs hw hS => ?_)
  obtain ⟨x15, ev, hm⟩ := lt_e hm
  rw [← ev] at hw
  clear ev
  refine lv_aload_n hx hb dX8_init_209 rfl (lv_at hl 0 rfl) ?_
  refine lv_iconst (v := 1) hx hb dX8_init_210 (by decide) ?_
  refine pX8_57 C hw hS dX8_init_211 (fun H locs hw hS => ?_)
  obtain ⟨x17, ev, hm⟩ := lt_e hm
  rw [← ev] at hw
  clear ev
  refine lv_aload_n hx hb dX8_init_214 rfl (lv_at hl 0 rfl) ?_
  refine gX8_38 C hw dX8_init_215 ?_
  obtain ⟨x18, h19, hm⟩ := bind_e hm
  refine sX8_124 C h19 hw hS hl.1 (Nat.le_of_ble_eq_true rfl) (Nat.le_trans (Nat.le_of_ble_eq_true rfl) hRf) (Nat.le_trans (Nat.le_of_ble_eq_true rfl) hRl) hcs dX8_init_218 (fun H locs hw hS => ?_)
  obtain rfl := Option.some.inj hm
  exact xret_v C hw hS dX8_init_221
