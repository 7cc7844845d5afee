section XR3
variable {p : Program} {l : Launch} {e : Env} {R : Room} {s : State} {m : MethodId} {args : Array Value} {below : List Frame} {meth : Method} {c : Code} {H : Heap} {locs : List Loc} {cells slots : Nat} {Q : State → Prop}
variable {cc : ByteArray} {pc nL : Nat} {ls : Array Slot} {rest : List Value} {D : va_G} {cl : List vw_C} {A : Nat → Prop} {a : Nat} {tys : List (ClassId × FieldType)} {H0 : Heap}
theorem x_putF (hexec : p.tables.exec = Jvm.exec) (hb : c.code = cc) {own ref C : String} {T : u_T} {N ci index : Nat} (hts : ∀ w ∈ GT, w.before args s = true) (hin : ∀ w ∈ u_ws C T N, w ∈ GT) (ty0 : Nat → FieldType) (hty : ∀ k, k < N → parseFieldDescriptor (T k).2.2.1 = some (ty0 k)) (hnm : ∀ a, a < N → ∀ b, b < N → a ≠ b → (T a).2.1 ≠ (T b).2.1) (hown : s.vm.findClass own = some m.cls) (hK : va_K D cl tys s) (hS0 : va_S A H0 H locs) {fs : List Value} (he : va_at D cl (a, .inr (ci, fs)) H) (hAa : A a) (hc : cl[ci]? = some (C, T, N)) (k : Nat) (hk : k < N) (hlink : (Cond.fieldLink own index ref (T k).2.1 (T k).2.2.1).before args s = true) (hsame : ∀ x, s.fieldFound? (T k).1 (T k).2.1 (T k).2.2.1 = some x → s.fieldFound? ref (T k).2.1 (T k).2.2.1 = some x) (hfin : (T k).2.2.2 = true) (hin2 : meth.name = "<init>") (hdecl : (T k).1 = own) {ty : FieldType} {v : Value} (hd : parseFieldDescriptor (T k).2.2.1 = some ty) (hn : narrow ty v = v) (hfit : fits ty v = true) (hl : k < fs.length)
    (hdg : decode cc pc = .ok (.putfield index, 3)) (kk : ∀ (H1 : Heap) (locs1 : List Loc), va_at D cl (a, .inr (ci, fs.set k v)) H1 → xOff a H H1 → va_S A H0 H1 locs1 → W p l e R s m args below meth c H1 locs1 cells slots Q (F0 m (pc + 3) ls rest)) : W p l e R s m args below meth c H locs cells slots Q (F0 m pc ls (v :: .ref a :: rest)) := by
  have hap := va_apart (own := own) hts hin ty0 hty hnm hK hc
  obtain ⟨r, h1, cell, q1, q2, q3, q4⟩ := he
  have hr : r = (C, T, N) := Option.some.inj (h1.symm.trans hc)
  subst hr
  obtain ⟨hS, hfc, kC, hkC, hkind⟩ := hK.1 ci _ hc
  obtain ⟨cf, kf, fi, f, hi, hsl⟩ := hS k hk
  have hlay := hts _ (hin _ (u_in_lay hk))
  unfold u_lay at hlay
  rw [if_pos hfin] at hlay
  have hst := (u_facts hfc hkC (u_lays hts hin hk) hi).1
  have hcf : m.cls = cf := by
    obtain ⟨_, _, c', _, _, _, -, -, hf', -, -, -, hown2, -⟩ := Cond.laysFinal_spec hlay
    have e1 : c' = cf := by have := hi.symm.trans hf'; simp at this; exact this.1.symm
    rw [hdecl] at hown2
    rw [← e1]; exact Option.some.inj (hown.symm.trans hown2)
  have h6 := u_fits hfc hkC hkind (Or.inr hlay) hi hd hn hfit
  refine W.putFinK hexec hb hown hlink (hsame _ hi) hst hcf hin2 (by rw [q2]; exact h6) q1 q3 (by rw [hsl]; exact k2_hasslot (q4 k hk)) rfl rfl hdg fun H' e1 e2 e3 => ?_
  rw [hsl] at e1 ⊢
  exact kk H' _ ⟨_, hc, t_OB.to (V := updV (vp_V fs) k v) ⟨_, e1, q2, q3, t_set q4 hap hk v⟩ (fun j _ => vp_updV_set hl v j)⟩ ⟨e2, e3⟩ (hS0.put e2 e3 hAa)
theorem x_astq (hexec : p.tables.exec = Jvm.exec) (hb : c.code = cc) (hK : va_K D cl tys s) (hS : va_S A H0 H locs) (t0 : Nat) {ci : Nat} {cA : ClassId} {r : vw_C} {n v : Nat} {vs : List Value} {f : Nat → Option Nat} (ha : va_at D cl (a, .inl (cA, n, .inr (.inr (.inr (.inr f))))) H) (hAa : A a) (ht : tys[t0]? = some (cA, .object r.1)) (hv : va_at D cl (v, .inr (ci, vs)) H) (hc : cl[ci]? = some r) {i : Int32} (hin : vp_in i n) (hdg : decode cc pc = .ok (.aastore, 1))
    (kk : ∀ (H1 : Heap) (locs1 : List Loc), va_at D cl (a, .inl (cA, n, .inr (.inr (.inr (.inr (va_up f i.toNatClampNeg (some v))))))) H1 → xOff a H H1 → va_S A H0 H1 locs1 → W p l e R s m args below meth c H1 locs1 cells slots Q (F0 m (pc + 1) ls rest)) : W p l e R s m args below meth c H locs cells slots Q (F0 m pc ls (.ref v :: .int i :: .ref a :: rest)) := by
  have hlt : i.toNatClampNeg < n := Nat.not_le.mp fun q => hin (Or.inr q)
  have h0 : ¬ i < 0 := fun q => hin (Or.inl q)
  obtain ⟨r', hr', cellV, g1, g2, g3, -⟩ := hv
  have hcls := (hK.1 ci r hc).2
  obtain ⟨kA, comp, k1, k2, k3, -⟩ := (hK.2 t0 _ ht).2
  have hcomp : comp = D.1 ci := Option.some.inj (k3.symm.trans hcls.1)
  subst hcomp
  obtain ⟨kC, hkC, -⟩ := hcls.2
  refine W.aast hexec hb ha (fun q h => by cases h) (fun h => by cases h) k1 k2 rfl hkC ⟨h0, by show _ < (arrV _ _ _).slots.size; rw [arrV_size]; exact hlt⟩ g1 (fun q h => by rw [g3] at h; cases h) (by rw [g2]; exact hkC) (by rw [g2]; exact va_assign hcls) rfl rfl hdg fun H1 e z oq => ?_
  refine kk H1 _ ?_ ⟨z, oq⟩ (hS.put z oq hAa)
  show H1[a]? = some (vp_cell _ _)
  rw [e]
  rw [vp_cell_q, vp_cell_q, arrV_store]
  congr 2
  funext q
  by_cases hq : q = i.toNatClampNeg
  · subst hq
    simp [updV, va_up, va_rf]
  · simp [updV, va_up, hq]
theorem x_astqN (hexec : p.tables.exec = Jvm.exec) (hb : c.code = cc) (hK : va_K D cl tys s) (hS : va_S A H0 H locs) (t0 : Nat) {cA : ClassId} {C : String} {n : Nat} {f : Nat → Option Nat} (ha : va_at D cl (a, .inl (cA, n, .inr (.inr (.inr (.inr f))))) H) (hAa : A a) (ht : tys[t0]? = some (cA, .object C)) {i : Int32} (hin : vp_in i n) (hdg : decode cc pc = .ok (.aastore, 1))
    (kk : ∀ (H1 : Heap) (locs1 : List Loc), va_at D cl (a, .inl (cA, n, .inr (.inr (.inr (.inr (va_up f i.toNatClampNeg none)))))) H1 → xOff a H H1 → va_S A H0 H1 locs1 → W p l e R s m args below meth c H1 locs1 cells slots Q (F0 m (pc + 1) ls rest)) : W p l e R s m args below meth c H locs cells slots Q (F0 m pc ls (.null :: .int i :: .ref a :: rest)) := by
  refine va_WaastN (C := C) hexec hb ha ((hK.2 t0 _ ht).1 n (fun j => va_rf (f j))) (fun h => by cases h) (by show ¬ (i < 0 ∨ (arrV _ _ _).slots.size ≤ _); rw [arrV_size]; exact hin) rfl rfl hdg fun H1 e z oq => ?_
  refine kk H1 _ ?_ ⟨z, oq⟩ (hS.put z oq hAa)
  show H1[a]? = some (vp_cell _ _)
  rw [e]
  rw [vp_cell_q, vp_cell_q, arrV_store]
  congr 2
  funext q
  by_cases hq : q = i.toNatClampNeg
  · subst hq
    simp [updV, va_up, va_rf]
  · simp [updV, va_up, hq]
theorem x_copyi (hexec : p.tables.exec = Jvm.exec) (hb : c.code = cc) (hml : c.maxLocals = ls.size) {own : String} {index : Nat} (hown : s.vm.findClass own = some m.cls) (hlink : (Cond.methodLink own index arraycopyName).before args s = true) (hnat : (Cond.native arraycopyName).before args s = true) (hstat : (Cond.static arraycopyName).before args s = true) (hini : (Cond.initialized "java/lang/System").before args s = true)
    (hK : va_K D cl tys s) (hS : va_S A H0 H locs) (t0 t1 : Nat) {a0 : Nat} {c0 c1 : ClassId} {n0 n1 : Nat} {f g : Nat → Int32} {ty : FieldType} (ha0 : va_at D cl (a0, .inl (c0, n0, .inl f)) H) (ha1 : va_at D cl (a, .inl (c1, n1, .inl g)) H) (hAa : A a) (ht0 : tys[t0]? = some (c0, ty)) (ht1 : tys[t1]? = some (c1, ty)) (hprim : refKind ty = false)
    {sp dp n : Int32} (h1 : ¬ sp < 0) (h2 : ¬ dp < 0) (h3 : ¬ n < 0) (h4 : sp.toNatClampNeg + n.toNatClampNeg ≤ n0) (h5 : dp.toNatClampNeg + n.toNatClampNeg ≤ n1) (hfit : ∀ i, i < n.toNatClampNeg → fits ty (.int (f (sp.toNatClampNeg + i))) = true)
    (hframes : 1 ≤ R.frames) (hlocals : (rest.map fun v => v.category).sum + (nativeFrameWords "java/lang/System" "arraycopy" 5 + 11) ≤ R.locals) (hdg : decode cc pc = .ok (.invokestatic index, 3))
    (kk : ∀ (H1 : Heap) (locs1 : List Loc), va_at D cl (a, .inl (c1, n1, .inl (va_cpy f g sp.toNatClampNeg dp.toNatClampNeg n.toNatClampNeg))) H1 → xOff a H H1 → va_S A H0 H1 locs1 → W p l e R s m args below meth c H1 locs1 cells slots Q (F0 m (pc + 3) ls rest)) : W p l e R s m args below meth c H locs cells slots Q (F0 m pc ls (.int n :: .int dp :: .ref a :: .int sp :: .ref a0 :: rest)) := by
  have nn : ∀ z : Int32, ¬ z < 0 → z.toInt = (z.toNatClampNeg : Int) := by
    intro z hz
    have hz0 : (0 : Int) ≤ z.toInt := by
      have := Int32.not_lt.mp hz
      simpa using Int32.le_iff_toInt_le.mp this
    show z.toInt = ((z.toInt.toNat : Nat) : Int)
    omega
  intro T hT X
  have hc0 : H[a0]? = some (vp_cell c0 (n0, .inl f)) := ha0
  have hc1 : H[a]? = some (vp_cell c1 (n1, .inl g)) := ha1
  obtain ⟨-, k0, hk0, cm0, hkk0⟩ := (hK.2 t0 _ ht0).1 n0 (fun j => .int (f j))
  obtain ⟨-, k1, hk1, cm1, hkk1⟩ := (hK.2 t1 _ ht1).1 n1 (fun j => .int (g j))
  obtain ⟨vm', X', step⟩ := X.arraycopy hexec hown hlink hnat hstat hini (src := a0) (dst := a) (cs := vp_cell c0 (n0, .inl f)) (cd := vp_cell c1 (n1, .inl g)) (srcPos := sp) (destPos := dp) (n := n) (by rw [hT]; exact hc0) (by rw [hT]; exact hc1)
    (fun _ h => by cases h) (fun _ h => by cases h) (fun h => by cases h) (fun h => by cases h) hk0 hk1 hkk0 hkk1 (by simp [hprim]) h1 h2 h3
    (by rw [nn sp h1, nn n h3]; show ¬ _ > ((arrV c0 n0 (fun j => .int (f j))).slots.size : Int); rw [arrV_size]; omega)
    (by rw [nn dp h2, nn n h3]; show ¬ _ > ((arrV c1 n1 (fun j => .int (g j))).slots.size : Int); rw [arrV_size]; omega)
    (fun vm₁ _ i hi => by
      have e : (vp_cell c0 (n0, .inl f)).slots.getD (sp.toNatClampNeg + i) .null = .int (f (sp.toNatClampNeg + i)) := by
        show (arrV c0 n0 (fun j => .int (f j))).slots.getD _ _ = _
        rw [Array.getD_eq_getD_getElem?, arrV_read _ _ (by omega)]
        rfl
      refine ⟨?_, ?_⟩
      · rw [e]
        exact hfit i hi
      · rw [e]
        exact trivial)
    (g := F0 m pc ls (.int n :: .int dp :: .ref a :: .int sp :: .ref a0 :: rest)) rfl (by rw [hml]) (rest := rest) rfl (by rw [hb]; exact hdg) hframes (by show 2 * 0 + _ + _ ≤ _; omega)
  have e1 : copied (vp_cell c0 (n0, .inl f)) (vp_cell c1 (n1, .inl g)) sp dp n = vp_cell c1 (n1, .inl (va_cpy f g sp.toNatClampNeg dp.toNatClampNeg n.toNatClampNeg)) := va_copied (fun z => .int z) c0 c1 f g h4
  rw [e1] at X' step
  have hl : a < H.size := (Array.getElem?_eq_some_iff.mp hc1).1
  have hheap : ((T.setVm vm').setCell a (vp_cell c1 (n1, .inl (va_cpy f g sp.toNatClampNeg dp.toNatClampNeg n.toNatClampNeg)))).heap = H.setIfInBounds a (vp_cell c1 (n1, .inl (va_cpy f g sp.toNatClampNeg dp.toNatClampNeg n.toNatClampNeg))) := by rw [← hT]; rfl
  have oq : ∀ q : Nat, q ≠ a → (H.setIfInBounds a (vp_cell c1 (n1, .inl (va_cpy f g sp.toNatClampNeg dp.toNatClampNeg n.toNatClampNeg))))[q]? = H[q]? := fun q hq => by simp [Array.getElem?_setIfInBounds, Ne.symm hq]
  obtain ⟨t, a1, b1⟩ := kk _ _ (show (H.setIfInBounds a _)[a]? = some _ by simp [Array.getElem?_setIfInBounds, hl]) ⟨by simp, oq⟩ ⟨by simp; exact hS.1, fun q g1 g2 => by
      rw [oq q (fun e => g2 (by rw [e]; exact hAa))]
      exact hS.2.1 q g1 g2, fun q hq => by
      rcases List.mem_append.mp hq with h | h
      · exact hS.2.2 q h
      · obtain ⟨z, -, hz⟩ := List.mem_map.mp h
        rw [← hz]
        exact hAa⟩ _ hheap X'
  exact ⟨t, step t a1, b1⟩
end XR3
theorem off_of {a : Nat} {H H1 : Heap} (h1 : H1.size = H.size) (hk : ∀ q : Nat, q < H.size → ¬ q = a → H1[q]? = H[q]?) : xOff a H H1 := ⟨h1, fun q hq => by
  by_cases hl : q < H.size
  · exact hk q hl hq
  · rw [Array.getElem?_eq_none (by omega), Array.getElem?_eq_none (by omega)]⟩
section XSN
variable {p : Program} {l : Launch} {e : Env} {R : Room} {s : State} {m : MethodId} {args : Array Value} {below : List Frame} {meth : Method} {c : Code} {H : Heap} {locs : List Loc} {cells slots : Nat} {Q : State → Prop}
variable {cc : ByteArray} {pc nL : Nat} {ls : Array Slot} {rest : List Value} {A : Nat → Prop} {a : Nat} {ret : Option FieldType} {own : String} {G : xG} {P P' : Heap → Prop}
theorem xcallSN {y : MethodName} {b : ByteArray} {n idx nA mc ms : Nat} {ret1 : Option FieldType} {rm : Room} {A1 : Nat → Prop} {v : Option Value} {As st0 : List Value} (C : Cx p s m args meth c own cc nL ret (KK G))
    (hM : Met l y (.code y b n ret1 :: GT) rm (PcW As P (KK G)) (QcW A1 v P') mc ms A1)
    (hl : va_Nw (nestM (own, idx, y)) s) (w2 : Cond.static y ∈ GT) (w4 : Cond.initialized y.cls ∈ GT) (w5 : Cond.code y b n ret1 ∈ GT)
    (hd0 : y.cls ≠ "java/lang/invoke/MethodHandle" ∧ y.cls ≠ "java/lang/invoke/VarHandle" ∧ (parseMethodDescriptor y.desc).map (fun d => d.parameters.length) = some nA) (hrc : rm.cells = mc) (hrs : rm.slots = ms)
    (hR : rm.frames + 1 ≤ R.frames ∧ 8 + (n + 11) + rm.locals ≤ R.locals) (hP : P H) (hS : va_S A s.heap H locs) (hA : ∀ q, A1 q → A q)
    (hst : st0 = As.reverse ++ rest) (hn : As.length = nA) (hsz : ls.size = nL) (hW : (rest.map fun v => v.category).sum ≤ 8) (hdg : decode cc pc = .ok (.invokestatic idx, 3)) (hf : cells + mc ≤ R.cells ∧ slots + ms ≤ R.slots)
    (kk : ∀ (H1 : Heap) (locs1 : List Loc), P' H1 → H.size ≤ H1.size → (∀ q : Nat, q < H.size → ¬ A1 q → H1[q]? = H[q]?) → va_S A s.heap H1 locs1 → W p l e R s m args below meth c H1 locs1 (cells + mc) (slots + ms) Q (F0 m (pc + 3) ls (v.toList ++ rest))) : W p l e R s m args below meth c H locs cells slots Q (F0 m pc ls st0) := by
  have hts := C.2.2.2.2.1
  exact xcall (va_runSN C.fix hM ⟨va_cnB (host := "AtThePost") nA hts (good_GT (in_code w5)) rfl hrc hrs hl (hts _ w4) hd0 hR, hts _ w2, trivial⟩ ⟨PcW.blind, fun U hU hW => ⟨rfl, by rw [hU]; exact hP, C.K.warm hW⟩⟩ rfl hn hsz hst (by simpa [JFrame.monitorRoom] using hW) hdg hf) hS hA kk
theorem xcallI {y : MethodName} {b : ByteArray} {n idx nA mc ms : Nat} {rm : Room} {A1 : Nat → Prop} {v : Option Value} {As st0 : List Value} (C : Cx p s m args meth c own cc nL ret (KK G))
    (hM : Met l y (.code y b n none :: GT) rm (PcW (.ref a :: As) P (KK G)) (QcW A1 v P') mc ms A1)
    (w1 : Cond.methodLink own idx y ∈ GT) (w2 : Cond.instanceMethod y ∈ GT) (w4 : Cond.initialized y.cls ∈ GT) (w5 : Cond.code y b n none ∈ GT)
    (hy1 : y.name = "<init>") (hd0 : y.cls ≠ "java/lang/invoke/MethodHandle" ∧ y.cls ≠ "java/lang/invoke/VarHandle" ∧ (parseMethodDescriptor y.desc).map (fun d => d.parameters.length) = some nA) (hrc : rm.cells = mc) (hrs : rm.slots = ms)
    (hR : rm.frames + 1 ≤ R.frames ∧ 8 + (n + 11) + rm.locals ≤ R.locals) (hP : P H) (hS : va_S A s.heap H locs) (hA : ∀ q, A1 q → A q)
    (hst : st0 = As.reverse ++ .ref a :: rest) (hn : As.length = nA) (hsz : ls.size = nL) (hW : (rest.map fun v => v.category).sum ≤ 8) (hdg : decode cc pc = .ok (.invokespecial idx, 3)) (hf : cells + mc ≤ R.cells ∧ slots + ms ≤ R.slots)
    (kk : ∀ (H1 : Heap) (locs1 : List Loc), P' H1 → H.size ≤ H1.size → (∀ q : Nat, q < H.size → ¬ A1 q → H1[q]? = H[q]?) → va_S A s.heap H1 locs1 → W p l e R s m args below meth c H1 locs1 (cells + mc) (slots + ms) Q (F0 m (pc + 3) ls (v.toList ++ rest))) : W p l e R s m args below meth c H locs cells slots Q (F0 m pc ls st0) := by
  have hts := C.2.2.2.2.1
  exact xcall (va_runI C.fix hM ⟨callB_of nA hts (good_GT (in_code w5)) rfl hrc hrs (hts _ w4) (hts _ w1) hd0 hR, hy1, hts _ w2⟩ ⟨PcW.blind, fun U hU hW => ⟨rfl, by rw [hU]; exact hP, C.K.warm hW⟩⟩ rfl hn hsz hst (by simpa [JFrame.monitorRoom] using hW) hdg hf) hS hA kk
theorem xcallVR {y : MethodName} {b : ByteArray} {n idx nA mc ms : Nat} {ret1 : Option FieldType} {rm : Room} {A1 : Nat → Prop} {v : Option Value} {As st0 : List Value} {Cn : String} (C : Cx p s m args meth c own cc nL ret (KK G))
    (hM : Met l y (.code y b n ret1 :: GT) rm (PcW (.ref a :: As) P (KK G)) (QcW A1 v P') mc ms A1)
    (w1 : Cond.methodLink own idx y ∈ GT) (w2 : Cond.instanceMethod y ∈ GT) (w3 : Cond.selects Cn y y ∈ GT) (w4 : Cond.initialized Cn ∈ GT) (w5 : Cond.code y b n ret1 ∈ GT)
    (hd0 : y.cls = Cn ∧ y.cls ≠ "java/lang/invoke/MethodHandle" ∧ y.cls ≠ "java/lang/invoke/VarHandle" ∧ (parseMethodDescriptor y.desc).map (fun d => d.parameters.length) = some nA) (hrc : rm.cells = mc) (hrs : rm.slots = ms)
    (hR : rm.frames + 1 ≤ R.frames ∧ 8 + (n + 11) + rm.locals ≤ R.locals) (hrecv : ∃ cell : Cell, H[a]? = some cell ∧ cell.vm.isStatics = false ∧ s.vm.findClass Cn = some cell.cls) (hP : P H) (hS : va_S A s.heap H locs) (hA : ∀ q, A1 q → A q)
    (hst : st0 = As.reverse ++ .ref a :: rest) (hn : As.length = nA) (hsz : ls.size = nL) (hW : (rest.map fun v => v.category).sum ≤ 8) (hdg : decode cc pc = .ok (.invokevirtual idx, 3)) (hf : cells + mc ≤ R.cells ∧ slots + ms ≤ R.slots)
    (kk : ∀ (H1 : Heap) (locs1 : List Loc), P' H1 → H.size ≤ H1.size → (∀ q : Nat, q < H.size → ¬ A1 q → H1[q]? = H[q]?) → va_S A s.heap H1 locs1 → W p l e R s m args below meth c H1 locs1 (cells + mc) (slots + ms) Q (F0 m (pc + 3) ls (v.toList ++ rest))) : W p l e R s m args below meth c H locs cells slots Q (F0 m pc ls st0) := by
  have hG : GoodIn GT (wsV own idx Cn y (.code y b n ret1 :: GT)) := good_GT fun w hw => by
    rcases List.mem_append.mp hw with h | h
    · simp only [List.mem_cons, List.not_mem_nil, or_false] at h
      rcases h with rfl | rfl | rfl | rfl
      · exact w1
      · exact w2
      · exact w3
      · exact w4
    · exact in_code w5 w h
  refine xcall (va_runV C.fix hM (cwV nA C.2.2.2.2.1 hG rfl hrc hrs hd0 hR) ⟨PcW.blind, hrecv, fun U hU hW => ⟨rfl, by rw [hU]; exact hP, C.K.warm hW⟩⟩ rfl hn hsz hst (by simpa [JFrame.monitorRoom] using hW) hdg hf) hS hA kk
end XSN
/-! THE CLASS as numbers: x.1 int fields (by cell and place), x.2.1 rows of ints, x.2.2.1 rows of references, x.2.2.2.1 what was made later (by address), x.2.2.2.2 the heap's size -/
abbrev DE : Type := (Nat × List Value) ⊕ (Nat × (Nat → Int32))
abbrev XS : Type := (Nat → Nat → Int32) × (Nat → Nat → Int32) × (Nat → Nat → Option Nat) × (Nat → Option DE) × Nat
def xsS (x : XS) (k i : Nat) (v : Int32) : XS := (up2 x.1 k i v, x.2)
def xsA (x : XS) (k i : Nat) (v : Int32) : XS := (x.1, up2 x.2.1 k i v, x.2.2)
def xsF (x : XS) (k : Nat) (f : Nat → Int32) : XS := (x.1, up1 x.2.1 k f, x.2.2)
def xsR (x : XS) (k i : Nat) (v : Option Nat) : XS := (x.1, x.2.1, up2 x.2.2.1 k i v, x.2.2.2)
def xsD (x : XS) (a : Nat) (d : DE) : XS := (x.1, x.2.1, x.2.2.1, (fun j => if j = a then some d else x.2.2.2.1 j), x.2.2.2.2)
def xsN (x : XS) (d : DE) : XS := (x.1, x.2.1, x.2.2.1, (fun j => if j = x.2.2.2.2 then some d else x.2.2.2.1 j), x.2.2.2.2 + 1)
def shX (β : Nat) (G : xG) (k : Nat) (s a : Nat → Int32) (r : Nat → Option Nat) : va_E := match k with
  | 0 => .inr (8, [.ref (β + 1), .int (s 1), .ref (β + 2), .int (s 3), .ref (β + 3), .int (s 5), .ref (β + 4), .ref (β + 6), .ref (β + 9), .int (s 9), .int (s 10), .ref (β + 10), .ref (β + 11), .ref (β + 16), .ref (β + 22), .ref (β + 23), .ref (β + 24), .ref (β + 25), .ref (β + 26)])
  | 1 => .inl (G.2.1 4, 10, .inr (.inr (.inr (.inr r))))
  | 2 => .inl (G.2.1 0, 4, .inl a)
  | 3 => .inl (G.2.1 5, 24, .inr (.inr (.inr (.inr r))))
  | 4 => .inr (6, [.ref (β + 5), .int (s 1), .int (s 2), .int (s 3), .int (s 4), .int (s 5)])
  | 5 => .inl (G.2.1 2, 160, .inl a)
  | 6 => .inr (4, [.ref (β + 4), .ref (β + 7), .ref (β + 8), .int (s 3)])
  | 7 => .inl (G.2.1 0, 160, .inl a)
  | 8 => .inl (G.2.1 0, 3, .inl a)
  | 9 => .inl (G.2.1 7, 6, .inr (.inr (.inr (.inr r))))
  | 10 => .inl (G.2.1 6, 4, .inr (.inr (.inr (.inr r))))
  | 11 => .inr (2, [.int (s 0), .int (s 1), .int (s 2), .int (s 3), .int (s 4), .ref (β + 12), .ref (β + 13), .ref (β + 14), .ref (β + 15)])
  | 12 => .inl (G.2.1 0, 4, .inl a)
  | 13 => .inl (G.2.1 0, 10, .inl a)
  | 14 => .inl (G.2.1 0, 10, .inl a)
  | 15 => .inl (G.2.1 0, 10, .inl a)
  | 16 => .inr (0, [.ref (β + 17), .ref (β + 18), .ref (β + 19), .ref (β + 20), .ref (β + 21), .int (s 5), .int (s 6)])
  | 17 => .inl (G.2.1 0, 10, .inl a)
  | 18 => .inl (G.2.1 0, 10, .inl a)
  | 19 => .inl (G.2.1 0, 5, .inl a)
  | 20 => .inl (G.2.1 0, 7, .inl a)
  | 21 => .inl (G.2.1 0, 7, .inl a)
  | 22 => .inl (G.2.1 0, 6, .inl a)
  | 23 => .inl (G.2.1 0, 5, .inl a)
  | 24 => .inl (G.2.1 0, 10, .inl a)
  | 25 => .inl (G.2.1 0, 10, .inl a)
  | _ => .inl (G.2.1 0, 10, .inl a)
def toE (G : xG) (d : DE) : va_E := match d with
  | .inl o => .inr o
  | .inr (n, f) => .inl (G.2.1 0, n, .inl f)
def Fz (D : Nat → Prop) (G : xG) (H : Heap) : Prop := (∀ q, D q → G.2.2.2.1 ≤ q) ∧ ∀ a : Nat, a < G.2.2.2.1 → H[a]? = G.2.2.1[a]?
def CW (β : Nat) (D : Nat → Prop) (G : xG) (x : XS) (H : Heap) : Prop := H.size = x.2.2.2.2 ∧ (∀ k, k < 27 → D (β + k)) ∧ (∀ k, k < 27 → va_at G.1 vwCl (β + k, shX β G k (x.1 k) (x.2.1 k) (x.2.2.1 k)) H) ∧ (∀ a d, x.2.2.2.1 a = some d → D a ∧ β + 27 ≤ a ∧ a < x.2.2.2.2 ∧ va_at G.1 vwCl (a, toE G d) H) ∧ Fz D G H
theorem CW.set {β : Nat} {D : Nat → Prop} {G : xG} {x x1 : XS} {H H1 : Heap} (h : CW β D G x H) (k : Nat) (hk : k < 27) (hat : va_at G.1 vwCl (β + k, shX β G k (x1.1 k) (x1.2.1 k) (x1.2.2.1 k)) H1) (ho : xOff (β + k) H H1) (hs : ∀ j, j ≠ k → x1.1 j = x.1 j ∧ x1.2.1 j = x.2.1 j ∧ x1.2.2.1 j = x.2.2.1 j) (hd : x1.2.2.2 = x.2.2.2) : CW β D G x1 H1 := by
  obtain ⟨h1, h2, h3, h4, h5⟩ := h
  refine ⟨by rw [hd]; exact ho.1.trans h1, h2, fun j hj => ?_, fun a d ha => ?_, h5.1, fun a ha => (ho.2 a (fun z => by have := h5.1 _ (h2 k hk); omega)).trans (h5.2 a ha)⟩
  · by_cases q : j = k
    · subst q; exact hat
    · obtain ⟨e1, e2, e3⟩ := hs j q
      rw [e1, e2, e3]
      exact (h3 j hj).kept (ho.2 _ (fun z => q (Nat.add_left_cancel z)))
  · rw [hd] at ha ⊢
    obtain ⟨g1, g2, g3, g4⟩ := h4 a d ha
    exact ⟨g1, g2, g3, g4.kept (ho.2 _ (fun z => by have : a = β + k := z; omega))⟩
theorem CW.setD {β : Nat} {D : Nat → Prop} {G : xG} {x : XS} {H H1 : Heap} (h : CW β D G x H) {a : Nat} {d0 d : DE} (ha : x.2.2.2.1 a = some d0) (hat : va_at G.1 vwCl (a, toE G d) H1) (ho : xOff a H H1) : CW β D G (xsD x a d) H1 := by
  obtain ⟨h1, h2, h3, h4, h5⟩ := h
  obtain ⟨q1, q2, q3, q4⟩ := h4 a d0 ha
  refine ⟨ho.1.trans h1, h2, fun j hj => (h3 j hj).kept (ho.2 _ (fun z => by have : β + j = a := z; omega)), fun b e hb => ?_, h5.1, fun b hb => (ho.2 b (fun z => by have := h5.1 _ q1; omega)).trans (h5.2 b hb)⟩
  by_cases q : b = a
  · subst q
    have hb : some d = some e := by simpa [xsD] using hb
    cases hb
    exact ⟨q1, q2, q3, hat⟩
  · have hb : x.2.2.2.1 b = some e := by simpa [xsD, q] using hb
    obtain ⟨g1, g2, g3, g4⟩ := h4 b e hb
    exact ⟨g1, g2, g3, g4.kept (ho.2 _ q)⟩
theorem CW.setN {β : Nat} {D : Nat → Prop} {G : xG} {x : XS} {H H1 : Heap} (h : CW β D G x H) {d : DE} (hD : D H.size) (hat : va_at G.1 vwCl (H.size, toE G d) H1) (ho : xNew H H1) (hb : β + 27 ≤ H.size) : CW β D G (xsN x d) H1 := by
  obtain ⟨h1, h2, h3, h4, h5⟩ := h
  refine ⟨by rw [ho.1, h1]; rfl, h2, fun j hj => (h3 j hj).kept (ho.2 _ (by have : β + j < H.size := (h3 j hj).lt; exact this)), fun b e hb2 => ?_, h5.1, fun b hb2 => (ho.2 b (by have := h5.1 _ hD; omega)).trans (h5.2 b hb2)⟩
  rw [h1] at hD hat hb
  by_cases q : b = x.2.2.2.2
  · subst q
    have hb2 : some d = some e := by simpa [xsN] using hb2
    cases hb2
    exact ⟨hD, hb, Nat.lt_succ_self _, hat⟩
  · have hb2 : x.2.2.2.1 b = some e := by simpa [xsN, q] using hb2
    obtain ⟨g1, g2, g3, g4⟩ := h4 b e hb2
    exact ⟨g1, g2, Nat.lt_succ_of_lt g3, g4.kept (ho.2 _ (by rw [h1]; exact g3))⟩
theorem CW.setS {β : Nat} {D : Nat → Prop} {G : xG} {x : XS} {H H1 : Heap} (h : CW β D G x H) (k : Nat) (i : Nat) (v : Int32) (hat : va_at G.1 vwCl (β + k, shX β G k ((xsS x k i v).1 k) ((xsS x k i v).2.1 k) ((xsS x k i v).2.2.1 k)) H1) (ho : xOff (β + k) H H1) (hk : k < 27 := by decide) : CW β D G (xsS x k i v) H1 := h.set k hk hat ho (fun j hj => ⟨if_neg hj, rfl, rfl⟩) rfl
theorem CW.setA {β : Nat} {D : Nat → Prop} {G : xG} {x : XS} {H H1 : Heap} (h : CW β D G x H) (k : Nat) (i : Nat) (v : Int32) (hat : va_at G.1 vwCl (β + k, shX β G k ((xsA x k i v).1 k) ((xsA x k i v).2.1 k) ((xsA x k i v).2.2.1 k)) H1) (ho : xOff (β + k) H H1) (hk : k < 27 := by decide) : CW β D G (xsA x k i v) H1 := h.set k hk hat ho (fun j hj => ⟨rfl, if_neg hj, rfl⟩) rfl
theorem CW.setF {β : Nat} {D : Nat → Prop} {G : xG} {x : XS} {H H1 : Heap} (h : CW β D G x H) (k : Nat) (f : Nat → Int32) (hat : va_at G.1 vwCl (β + k, shX β G k ((xsF x k f).1 k) ((xsF x k f).2.1 k) ((xsF x k f).2.2.1 k)) H1) (ho : xOff (β + k) H H1) (hk : k < 27 := by decide) : CW β D G (xsF x k f) H1 := h.set k hk hat ho (fun j hj => ⟨rfl, if_neg hj, rfl⟩) rfl
theorem CW.setR {β : Nat} {D : Nat → Prop} {G : xG} {x : XS} {H H1 : Heap} (h : CW β D G x H) (k : Nat) (i : Nat) (v : Option Nat) (hat : va_at G.1 vwCl (β + k, shX β G k ((xsR x k i v).1 k) ((xsR x k i v).2.1 k) ((xsR x k i v).2.2.1 k)) H1) (ho : xOff (β + k) H H1) (hk : k < 27 := by decide) : CW β D G (xsR x k i v) H1 := h.set k hk hat ho (fun j hj => ⟨rfl, rfl, if_neg hj⟩) rfl
/-- what was made later: fields, rows, kinds -/
def dO (x : XS) (a ci k : Nat) : Option Value := match x.2.2.2.1 a with
  | some (.inl (c, fs)) => if c = ci then fs[k]? else none
  | _ => none
def dI (x : XS) (a ci k : Nat) : Option Int32 := match dO x a ci k with
  | some (.int v) => some v
  | _ => none
def dP (x : XS) (a ci k : Nat) : Option Nat := match dO x a ci k with
  | some (.ref v) => some v
  | _ => none
def dPut (x : XS) (a ci k : Nat) (v : Value) : Option XS := match x.2.2.2.1 a with
  | some (.inl (c, fs)) => if c = ci ∧ k < fs.length then some (xsD x a (.inl (ci, fs.set k v))) else none
  | _ => none
def dA (x : XS) (a : Nat) (i : Int32) : Option Int32 := match x.2.2.2.1 a with
  | some (.inr (n, f)) => if ib i n then some (f i.toNatClampNeg) else none
  | _ => none
def dAs (x : XS) (a : Nat) (i v : Int32) : Option XS := match x.2.2.2.1 a with
  | some (.inr (n, f)) => if ib i n then some (xsD x a (.inr (n, upd f i.toNatClampNeg v))) else none
  | _ => none
def dLen (x : XS) (a : Nat) : Option Int32 := match x.2.2.2.1 a with
  | some (.inr (n, _)) => some (Int32.ofNat n)
  | _ => none
def dK (x : XS) (a ci : Nat) : Bool := match x.2.2.2.1 a with
  | some (.inl (c, _)) => c == ci
  | _ => false
theorem dO_e {x : XS} {a ci k : Nat} {v : Value} (h : dO x a ci k = some v) : ∃ fs, x.2.2.2.1 a = some (.inl (ci, fs)) ∧ fs[k]? = some v := by
  unfold dO at h
  cases e : x.2.2.2.1 a with
  | none => rw [e] at h; cases h
  | some d =>
    rw [e] at h
    obtain ⟨c, fs⟩ | ⟨n, f⟩ := d
    · dsimp only at h
      by_cases q : c = ci
      · rw [if_pos q] at h; subst q; exact ⟨fs, rfl, h⟩
      · rw [if_neg q] at h; cases h
    · cases h
theorem dI_e {x : XS} {a ci k : Nat} {v : Int32} (h : dI x a ci k = some v) : ∃ fs, x.2.2.2.1 a = some (.inl (ci, fs)) ∧ fs[k]? = some (.int v) := by
  unfold dI at h
  cases e : dO x a ci k with
  | none => rw [e] at h; cases h
  | some w => rw [e] at h; cases w <;> first | (cases h; exact dO_e e) | cases h
theorem dP_e {x : XS} {a ci k : Nat} {v : Nat} (h : dP x a ci k = some v) : ∃ fs, x.2.2.2.1 a = some (.inl (ci, fs)) ∧ fs[k]? = some (.ref v) := by
  unfold dP at h
  cases e : dO x a ci k with
  | none => rw [e] at h; cases h
  | some w => rw [e] at h; cases w <;> first | (cases h; exact dO_e e) | cases h
theorem dPut_e {x x' : XS} {a ci k : Nat} {v : Value} (h : dPut x a ci k v = some x') : ∃ fs, x.2.2.2.1 a = some (.inl (ci, fs)) ∧ k < fs.length ∧ x' = xsD x a (.inl (ci, fs.set k v)) := by
  unfold dPut at h
  cases e : x.2.2.2.1 a with
  | none => rw [e] at h; cases h
  | some d =>
    rw [e] at h
    obtain ⟨c, fs⟩ | ⟨n, f⟩ := d
    · dsimp only at h
      by_cases q : c = ci ∧ k < fs.length
      · rw [if_pos q] at h; obtain ⟨rfl, q⟩ := q; cases h; exact ⟨fs, rfl, q, rfl⟩
      · rw [if_neg q] at h; cases h
    · cases h
theorem dA_e {x : XS} {a : Nat} {i v : Int32} (h : dA x a i = some v) : ∃ n f, x.2.2.2.1 a = some (.inr (n, f)) ∧ ib i n ∧ v = f i.toNatClampNeg := by
  unfold dA at h
  cases e : x.2.2.2.1 a with
  | none => rw [e] at h; cases h
  | some d =>
    rw [e] at h
    obtain ⟨c, fs⟩ | ⟨n, f⟩ := d
    · cases h
    · dsimp only at h
      obtain ⟨q, h⟩ := chk_e h
      cases h
      exact ⟨n, f, rfl, q, rfl⟩
theorem dAs_e {x x' : XS} {a : Nat} {i v : Int32} (h : dAs x a i v = some x') : ∃ n f, x.2.2.2.1 a = some (.inr (n, f)) ∧ ib i n ∧ x' = xsD x a (.inr (n, upd f i.toNatClampNeg v)) := by
  unfold dAs at h
  cases e : x.2.2.2.1 a with
  | none => rw [e] at h; cases h
  | some d =>
    rw [e] at h
    obtain ⟨c, fs⟩ | ⟨n, f⟩ := d
    · cases h
    · dsimp only at h
      obtain ⟨q, h⟩ := chk_e h
      cases h
      exact ⟨n, f, rfl, q, rfl⟩
theorem dLen_e {x : XS} {a : Nat} {v : Int32} (h : dLen x a = some v) : ∃ n f, x.2.2.2.1 a = some (.inr (n, f)) ∧ v = Int32.ofNat n := by
  unfold dLen at h
  cases e : x.2.2.2.1 a with
  | none => rw [e] at h; cases h
  | some d =>
    rw [e] at h
    obtain ⟨c, fs⟩ | ⟨n, f⟩ := d
    · cases h
    · cases h; exact ⟨n, f, rfl, rfl⟩
theorem dK_e {x : XS} {a ci : Nat} (h : dK x a ci = true) : ∃ fs, x.2.2.2.1 a = some (.inl (ci, fs)) := by
  unfold dK at h
  cases e : x.2.2.2.1 a with
  | none => rw [e] at h; cases h
  | some d =>
    rw [e] at h
    obtain ⟨c, fs⟩ | ⟨n, f⟩ := d
    · dsimp only at h
      rw [beq_iff_eq] at h; subst h; exact ⟨fs, rfl⟩
    · cases h
def oc {α β : Type} (e : Option α) (a : β) (f : α → β) : β := match e with
  | none => a
  | some p => f p
theorem oc_n {α β : Type} {a r : β} {f : α → β} (h : oc none a f = r) : a = r := h
theorem oc_s {α β : Type} {p : α} {a r : β} {f : α → β} (h : oc (some p) a f = r) : f p = r := h
theorem x_dald {p : Program} {l : Launch} {e : Env} {R : Room} {s : State} {m : MethodId} {args : Array Value} {below : List Frame} {meth : Method} {c : Code} {H : Heap} {locs : List Loc} {cells slots : Nat} {Q : State → Prop} {cc : ByteArray} {pc nL : Nat} {ls : Array Slot} {rest : List Value} {ret : Option FieldType}  {G : xG} {β : Nat} {D : Nat → Prop} {x : XS} {own : String} {a : Nat} {i v : Int32} (C : Cx p s m args meth c own cc nL ret (KK G)) (h : dA x a i = some v) (hw : CW β D G x H) (hd : decode cc pc = .ok (.iaload, 1)) (kk : W p l e R s m args below meth c H locs cells slots Q (F0 m (pc + 1) ls (.int v :: rest))) : W p l e R s m args below meth c H locs cells slots Q (F0 m pc ls (.int i :: .ref a :: rest)) := by
  obtain ⟨n, f, h1, h2, rfl⟩ := dA_e h
  exact va_iald C.1 C.2.1 C.K.1 (xP1 (hw.2.2.2.1 a _ h1).2.2.2) 0 0 rfl rfl h2 hd kk
theorem x_dast {p : Program} {l : Launch} {e : Env} {R : Room} {s : State} {m : MethodId} {args : Array Value} {below : List Frame} {meth : Method} {c : Code} {H : Heap} {locs : List Loc} {cells slots : Nat} {Q : State → Prop} {cc : ByteArray} {pc nL : Nat} {ls : Array Slot} {rest : List Value} {ret : Option FieldType}  {G : xG} {β : Nat} {D : Nat → Prop} {x x' : XS} {own : String} {a : Nat} {i v : Int32} (C : Cx p s m args meth c own cc nL ret (KK G)) (h : dAs x a i v = some x') (hw : CW β D G x H) (hS : va_S D s.heap H locs) (hd : decode cc pc = .ok (.iastore, 1)) (kk : ∀ (H1 : Heap) (locs1 : List Loc), CW β D G x' H1 → va_S D s.heap H1 locs1 → W p l e R s m args below meth c H1 locs1 cells slots Q (F0 m (pc + 1) ls (rest))) : W p l e R s m args below meth c H locs cells slots Q (F0 m pc ls (.int v :: .int i :: .ref a :: rest)) := by
  obtain ⟨n, f, h1, h2, rfl⟩ := dAs_e h
  exact x_iast C.1 C.2.1 C.K.1 hS 0 (hw.2.2.2.1 a _ h1).2.2.2 (hw.2.2.2.1 a _ h1).1 rfl h2 hd (fun H1 locs1 hat ho hS => kk H1 locs1 (hw.setD h1 hat ho) hS)
theorem x_dlen {p : Program} {l : Launch} {e : Env} {R : Room} {s : State} {m : MethodId} {args : Array Value} {below : List Frame} {meth : Method} {c : Code} {H : Heap} {locs : List Loc} {cells slots : Nat} {Q : State → Prop} {cc : ByteArray} {pc nL : Nat} {ls : Array Slot} {rest : List Value} {ret : Option FieldType}  {G : xG} {β : Nat} {D : Nat → Prop} {x : XS} {own : String} {a : Nat} {v : Int32} (C : Cx p s m args meth c own cc nL ret (KK G)) (h : dLen x a = some v) (hw : CW β D G x H) (hd : decode cc pc = .ok (.arraylength, 1)) (kk : W p l e R s m args below meth c H locs cells slots Q (F0 m (pc + 1) ls (.int v :: rest))) : W p l e R s m args below meth c H locs cells slots Q (F0 m pc ls (.ref a :: rest)) := by
  obtain ⟨n, f, h1, rfl⟩ := dLen_e h
  exact va_alen C.1 C.2.1 C.K.1 (xP1 (hw.2.2.2.1 a _ h1).2.2.2) 0 0 rfl rfl rfl hd kk
theorem KS_Z {G : xG} {D : Nat → Prop} {s : State} (h : KK G s) (hf : Fz D G s.heap) : va_Z "AtThePost$Horse" "ABOVE" "[I" (.ref G.2.2.2.2.2.2) D s s.heap := (h.2.2.2.2.2.1.kept (fun a _ hq => hf.2 a (Nat.lt_of_not_le hq))).narrow hf.1
theorem KS_T {G : xG} {D : Nat → Prop} {s : State} (h : KK G s) (hf : Fz D G s.heap) : va_T .int G.2.2.2.2.2.2 6 (fun j => .int (abv.getD j 0)) D s s.heap := (h.2.2.2.2.2.2.1.kept (fun a _ hq => hf.2 a (Nat.lt_of_not_le hq))).narrow hf.1
theorem KS_C {G : xG} {D : Nat → Prop} {s : State} (h : KK G s) (hf : Fz D G s.heap) : va_Z "java/lang/String" "COMPACT_STRINGS" "Z" (.int 1) D s s.heap := (h.2.2.2.2.2.2.2.1.kept (fun a _ hq => hf.2 a (Nat.lt_of_not_le hq))).narrow hf.1
theorem KS_q {G : xG} {D : Nat → Prop} {s : State} (h : KK G s) (hf : Fz D G s.heap) : ∃ w : Option Nat, va_Z "jdk/internal/util/Preconditions" "SIOOBE_FORMATTER" "Ljava/util/function/BiFunction;" (va_rf w) D s s.heap := by
  have h1 := (h.2.2.2.2.2.2.2.2.1.kept (fun a _ hq => hf.2 a (Nat.lt_of_not_le hq))).narrow hf.1
  rcases h1 with h1 | ⟨t, h1⟩
  · exact ⟨none, h1⟩
  · exact ⟨some t, h1⟩
theorem KS_S {G : xG} {D : Nat → Prop} {s : State} (h : KK G s) (hf : Fz D G s.heap) : vk_S 13 scLen scByt G.2.2.2.2.1 G.2.2.2.2.2.1 D s s.heap := (h.2.2.2.1.kept (fun a _ hq => hf.2 a (Nat.lt_of_not_le hq))).narrow hf.1
theorem KS_O {G : xG} {D : Nat → Prop} {s : State} (h : KK G s) (hf : Fz D G s.heap) {i : Nat} (hi : i < 13) : va_O "java/lang/String" (G.2.2.2.2.1 i) D s s.heap ∧ va_OF "java/lang/String" "coder" "B" (.int 0) (G.2.2.2.2.1 i) D s s.heap ∧ va_OF "java/lang/String" "value" "[B" (.ref (G.2.2.2.2.2.1 i)) (G.2.2.2.2.1 i) D s s.heap ∧ va_T .byte (G.2.2.2.2.2.1 i) (scLen.getD i 0) (fun j => .int ((scByt.getD i []).getD j 0)) D s s.heap := (KS_S h hf).1 i hi
def cpF (x : XS) (k0 n0 k1 n1 : Nat) (sp dp n : Int32) : Option XS := if ¬ sp < 0 ∧ ¬ dp < 0 ∧ ¬ n < 0 ∧ sp.toNatClampNeg + n.toNatClampNeg ≤ n0 ∧ dp.toNatClampNeg + n.toNatClampNeg ≤ n1 then some (xsF x k1 (va_cpy (x.2.1 k0) (x.2.1 k1) sp.toNatClampNeg dp.toNatClampNeg n.toNatClampNeg)) else none
theorem cpF_e {x x' : XS} {k0 n0 k1 n1 : Nat} {sp dp n : Int32} (h : cpF x k0 n0 k1 n1 sp dp n = some x') : ¬ sp < 0 ∧ ¬ dp < 0 ∧ ¬ n < 0 ∧ sp.toNatClampNeg + n.toNatClampNeg ≤ n0 ∧ dp.toNatClampNeg + n.toNatClampNeg ≤ n1 ∧ x' = xsF x k1 (va_cpy (x.2.1 k0) (x.2.1 k1) sp.toNatClampNeg dp.toNatClampNeg n.toNatClampNeg) := by
  unfold cpF at h
  obtain ⟨q, h⟩ := chk_e h
  cases h
  exact ⟨q.1, q.2.1, q.2.2.1, q.2.2.2.1, q.2.2.2.2, rfl⟩
def cpFD (x : XS) (k0 n0 b : Nat) (sp dp n : Int32) : Option XS := match x.2.2.2.1 b with
  | some (.inr (n1, g)) => if ¬ sp < 0 ∧ ¬ dp < 0 ∧ ¬ n < 0 ∧ sp.toNatClampNeg + n.toNatClampNeg ≤ n0 ∧ dp.toNatClampNeg + n.toNatClampNeg ≤ n1 then some (xsD x b (.inr (n1, va_cpy (x.2.1 k0) g sp.toNatClampNeg dp.toNatClampNeg n.toNatClampNeg))) else none
  | _ => none
theorem cpFD_e {x x' : XS} {k0 n0 b : Nat} {sp dp n : Int32} (h : cpFD x k0 n0 b sp dp n = some x') : ∃ n1 g, x.2.2.2.1 b = some (.inr (n1, g)) ∧ ¬ sp < 0 ∧ ¬ dp < 0 ∧ ¬ n < 0 ∧ sp.toNatClampNeg + n.toNatClampNeg ≤ n0 ∧ dp.toNatClampNeg + n.toNatClampNeg ≤ n1 ∧ x' = xsD x b (.inr (n1, va_cpy (x.2.1 k0) g sp.toNatClampNeg dp.toNatClampNeg n.toNatClampNeg)) := by
  unfold cpFD at h
  cases e : x.2.2.2.1 b with
  | none => rw [e] at h; cases h
  | some d =>
    rw [e] at h
    obtain ⟨c, fs⟩ | ⟨n1, g⟩ := d
    · cases h
    · dsimp only at h
      obtain ⟨q, h⟩ := chk_e h
      cases h
      exact ⟨n1, g, rfl, q.1, q.2.1, q.2.2.1, q.2.2.2.1, q.2.2.2.2, rfl⟩
def cpDD (x : XS) (a b : Nat) (sp dp n : Int32) : Option XS := match x.2.2.2.1 a with
  | some (.inr (n0, f)) => match x.2.2.2.1 b with
    | some (.inr (n1, g)) => if ¬ sp < 0 ∧ ¬ dp < 0 ∧ ¬ n < 0 ∧ sp.toNatClampNeg + n.toNatClampNeg ≤ n0 ∧ dp.toNatClampNeg + n.toNatClampNeg ≤ n1 then some (xsD x b (.inr (n1, va_cpy f g sp.toNatClampNeg dp.toNatClampNeg n.toNatClampNeg))) else none
    | _ => none
  | _ => none
theorem cpDD_e {x x' : XS} {a b : Nat} {sp dp n : Int32} (h : cpDD x a b sp dp n = some x') : ∃ n0 f n1 g, x.2.2.2.1 a = some (.inr (n0, f)) ∧ x.2.2.2.1 b = some (.inr (n1, g)) ∧ ¬ sp < 0 ∧ ¬ dp < 0 ∧ ¬ n < 0 ∧ sp.toNatClampNeg + n.toNatClampNeg ≤ n0 ∧ dp.toNatClampNeg + n.toNatClampNeg ≤ n1 ∧ x' = xsD x b (.inr (n1, va_cpy f g sp.toNatClampNeg dp.toNatClampNeg n.toNatClampNeg)) := by
  unfold cpDD at h
  cases e0 : x.2.2.2.1 a with
  | none => rw [e0] at h; cases h
  | some d0 =>
    rw [e0] at h
    obtain ⟨c, fs⟩ | ⟨n0, f⟩ := d0
    · cases h
    · dsimp only at h
      cases e : x.2.2.2.1 b with
      | none => rw [e] at h; cases h
      | some d =>
        rw [e] at h
        obtain ⟨c, fs⟩ | ⟨n1, g⟩ := d
        · cases h
        · dsimp only at h
          obtain ⟨q, h⟩ := chk_e h
          cases h
          exact ⟨n0, f, n1, g, rfl, rfl, q.1, q.2.1, q.2.2.1, q.2.2.2.1, q.2.2.2.2, rfl⟩
theorem dJ7_fill_53178_0 : decode cJ7_fill_53178 0 = .ok (.iconst 0, 1) := by decide +kernel
theorem dJ7_fill_53178_1 : decode cJ7_fill_53178 1 = .ok (.istore_n 2, 1) := by decide +kernel
theorem dJ7_fill_53178_2 : decode cJ7_fill_53178 2 = .ok (.aload_n 0, 1) := by decide +kernel
theorem dJ7_fill_53178_3 : decode cJ7_fill_53178 3 = .ok (.arraylength, 1) := by decide +kernel
theorem dJ7_fill_53178_4 : decode cJ7_fill_53178 4 = .ok (.istore_n 3, 1) := by decide +kernel
theorem dJ7_fill_53178_5 : decode cJ7_fill_53178 5 = .ok (.iload_n 2, 1) := by decide +kernel
theorem dJ7_fill_53178_6 : decode cJ7_fill_53178 6 = .ok (.iload_n 3, 1) := by decide +kernel
theorem dJ7_fill_53178_7 : decode cJ7_fill_53178 7 = .ok (.if_icmp .ge 13, 3) := by decide +kernel
theorem dJ7_fill_53178_10 : decode cJ7_fill_53178 10 = .ok (.aload_n 0, 1) := by decide +kernel
theorem dJ7_fill_53178_11 : decode cJ7_fill_53178 11 = .ok (.iload_n 2, 1) := by decide +kernel
theorem dJ7_fill_53178_12 : decode cJ7_fill_53178 12 = .ok (.iload_n 1, 1) := by decide +kernel
theorem dJ7_fill_53178_13 : decode cJ7_fill_53178 13 = .ok (.iastore, 1) := by decide +kernel
theorem dJ7_fill_53178_14 : decode cJ7_fill_53178 14 = .ok (.iinc 2 1, 3) := by decide +kernel
theorem dJ7_fill_53178_17 : decode cJ7_fill_53178 17 = .ok (.goto (-12), 3) := by decide +kernel
theorem dJ7_fill_53178_20 : decode cJ7_fill_53178 20 = .ok (.return_, 1) := by decide +kernel
/-! Arrays.fill over ints -/
theorem kfill_loop {p : Program} {l : Launch} {e : Env} {R : Room} {s : State} {m : MethodId} {args : Array Value} {below : List Frame} {meth : Method} {c : Code} {G : xG} {Q : State → Prop} {a n : Nat} {f : Nat → Int32} {v : Int32} (C : Cx p s m args meth c RJ7 cJ7_fill_53178 4 none (KK G)) (hn : n < 2 ^ 31) :
    ∀ (k i : Nat), i + k = n → ∀ (g : Nat → Int32) (H : Heap) (locs : List Loc) (ls : Array Slot), (∀ j, j < n → g j = if j < i then v else f j) → va_at G.1 vwCl (a, .inl (G.2.1 0, n, .inl g)) H → va_S (fun q => q = a) s.heap H locs → lv_has ls 4 [(2, .int (nI i)), (3, .int (nI n)), (0, .ref a), (1, .int v)] →
      (∀ (g : Nat → Int32) (H1 : Heap) (locs : List Loc) (ls : Array Slot), (∀ j, j < n → g j = v) → va_at G.1 vwCl (a, .inl (G.2.1 0, n, .inl g)) H1 → H1.size = H.size → va_S (fun q => q = a) s.heap H1 locs → W p l e R s m args below meth c H1 locs 0 0 Q (F0 m 20 ls [])) →
      W p l e R s m args below meth c H locs 0 0 Q (F0 m 5 ls []) := by
  have hx := C.1
  have hb := C.2.1
  intro k
  induction k with
  | zero =>
    intro i hi g H locs ls hg hat hS hl kk
    refine lv_iload_n hx hb dJ7_fill_53178_5 rfl (lv_at hl 0 rfl) ?_
    refine lv_iload_n hx hb dJ7_fill_53178_6 rfl (lv_at hl 1 rfl) ?_
    refine lv_icmp_ge (tgt := 20) hx hb dJ7_fill_53178_7 (by decide) (fun cc => ?_) (fun cc => ?_)
    · exact kk g _ _ _ (fun j hj => by rw [hg j hj, if_pos (by omega)]) hat rfl hS
    · exact absurd (nI_le (by omega) (by omega)) cc
  | succ k ih =>
    intro i hi g H locs ls hg hat hS hl kk
    refine lv_iload_n hx hb dJ7_fill_53178_5 rfl (lv_at hl 0 rfl) ?_
    refine lv_iload_n hx hb dJ7_fill_53178_6 rfl (lv_at hl 1 rfl) ?_
    have hin : vp_in (nI i) n := vp_in_nI (by omega) (by omega)
    refine lv_icmp_ge (tgt := 20) hx hb dJ7_fill_53178_7 (by decide) (fun cc => ?_) (fun cc => ?_)
    · exact absurd cc (by
        rw [Int32.not_le]
        exact nI_lt (by omega) (by omega))
    · refine lv_aload_n hx hb dJ7_fill_53178_10 rfl (lv_at hl 2 rfl) ?_
      refine lv_iload_n hx hb dJ7_fill_53178_11 rfl (lv_at hl 0 rfl) ?_
      refine lv_iload_n hx hb dJ7_fill_53178_12 rfl (lv_at hl 3 rfl) ?_
      refine x_iast hx hb C.K.1 hS 0 hat rfl rfl hin dJ7_fill_53178_13 (fun H1 locs1 hat1 ho hS1 => ?_)
      obtain ⟨w, ew⟩ : ∃ w : Int32, w = nI i + 1 := ⟨_, rfl⟩
      refine lv_iinc (v := w) (lv' := [(2, .int w), (3, .int (nI n)), (0, .ref a), (1, .int v)]) hx hb dJ7_fill_53178_14 hl (k := 0) rfl (by rw [ew]; rfl) (by decide) rfl (fun ls hl => ?_)
      refine lv_goto (tgt := 5) hx hb dJ7_fill_53178_17 (by decide) ?_
      have ew2 : w = nI (i + 1) := ew.trans (nI_1 i)
      subst ew2
      refine ih (i + 1) (by omega) _ _ _ _ (fun j hj => ?_) hat1 hS1 hl (fun g2 H2 l2 ls2 a1 a2 a3 a4 => kk g2 H2 l2 ls2 a1 a2 (a3.trans ho.1) a4)
      rw [nI_clamp (by omega)]
      unfold upd
      by_cases q : j = i
      · rw [if_pos q, if_pos (by omega)]
      · rw [if_neg q, hg j hj]
        by_cases q2 : j < i
        · rw [if_pos q2, if_pos (by omega)]
        · rw [if_neg q2, if_neg (by omega)]
theorem arr_congr {cA : ClassId} {n : Nat} {f g : Nat → Int32} (h : ∀ j, j < n → f j = g j) : vp_cell cA (n, .inl f) = vp_cell cA (n, .inl g) := by
  rw [vp_cell_i, vp_cell_i]
  unfold arrV
  congr 1
  apply Array.ext
  · simp
  · intro i h1 h2
    simp at h1
    simp [h i h1]
set_option maxRecDepth 100000 in
theorem kfill {l : Launch} {G : xG} {a n N : Nat} {f : Nat → Int32} {v : Int32} (hn : n < 2 ^ 31) : Met l yJ7_fill_53178 (.code yJ7_fill_53178 cJ7_fill_53178 4 none :: GT) { frames := 0, cells := 0, slots := 0, locals := 0 } (PcW [.ref a, .int v] (fun H => H.size = N ∧ va_at G.1 vwCl (a, .inl (G.2.1 0, n, .inl f)) H) (KK G)) (QcW (fun q => q = a) none (fun H => H.size = N ∧ va_at G.1 vwCl (a, .inl (G.2.1 0, n, .inl (fun _ => v))) H)) 0 0 (fun q => q = a) := by
  refine xpro (own := RJ7) (by decide +kernel) rfl (Nat.le_of_ble_eq_true rfl) ?_
  intro p e s m args below meth c C hw ls hl
  obtain ⟨hN, hat⟩ := hw
  have hx := C.1
  have hb := C.2.1
  have hS : va_S (fun q => q = a) s.heap s.heap [] := va_S.rf
  have hl : lv_has ls 4 [(0, .ref a), (1, .int v)] := hl
  refine lv_iconst (v := 0) hx hb dJ7_fill_53178_0 (by decide) ?_
  refine lv_istore_n (lv' := [(2, .int 0), (0, .ref a), (1, .int v)]) hx hb dJ7_fill_53178_1 rfl hl (by decide) rfl (fun ls hl => ?_)
  refine lv_aload_n hx hb dJ7_fill_53178_2 rfl (lv_at hl 1 rfl) ?_
  refine va_alen (v := nI n) hx hb C.K.1 (xP1 hat) 0 0 rfl rfl rfl dJ7_fill_53178_3 ?_
  refine lv_istore_n (lv' := [(3, .int (nI n)), (2, .int 0), (0, .ref a), (1, .int v)]) hx hb dJ7_fill_53178_4 rfl hl (by decide) rfl (fun ls hl => ?_)
  refine kfill_loop (n := n) (f := f) (v := v) C hn n 0 (by omega) f _ _ _ (fun j hj => by rw [if_neg (by omega)]) hat hS (lv_sub hl [1, 0, 2, 3] rfl) (fun g H1 locs ls hg hat1 hz hS1 => ?_)
  refine xret_v C ⟨hz.trans hN, ?_⟩ hS1 dJ7_fill_53178_20
  show H1[a]? = some (vp_cell _ _)
  rw [arr_congr (g := g) (fun j hj => (hg j hj).symm)]
  exact hat1
