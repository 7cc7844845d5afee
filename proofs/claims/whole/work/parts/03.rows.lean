/-! OUR ROWS: one word list for all methods, contracts over any picture P of the heap, rows at single cells -/
def GT : List Cond := lw_tbl.filter goodWord
theorem mem_GT {w : Cond} (h : w ∈ lw_tbl) (g : goodWord w = true) : w ∈ GT := List.mem_filter.mpr ⟨h, g⟩
theorem GT_good {w : Cond} (h : w ∈ GT) : goodWord w = true := (List.mem_filter.mp h).2
theorem tb {w : Cond} (i : Nat) (h : tables_1[i]? = some w) : w ∈ lw_tbl := List.mem_append_right _ (List.mem_of_getElem? h)
theorem tg {w : Cond} (i : Nat) (h : tables_1[i]? = some w) (g : goodWord w = true) : w ∈ GT := mem_GT (tb i h) g
theorem sg {w : Cond} (h : w ∈ k2_sels lw_privs) (g : goodWord w = true) : w ∈ GT := mem_GT (List.mem_append_left _ h) g
theorem in_tb {ws : List Cond} (ps : List Nat) (hp : ws = ps.filterMap (fun i => tables_1[i]?)) (hg : ws.all goodWord = true) : ∀ w ∈ ws, w ∈ GT := by
  intro w hw
  have h1 := List.all_eq_true.mp hg w hw
  rw [hp] at hw
  obtain ⟨i, -, hi⟩ := List.mem_filterMap.mp hw
  exact tg i hi h1
theorem good_GT {ws : List Cond} (h : ∀ w ∈ ws, w ∈ GT) : GoodIn GT ws := fun w hw => ⟨h w hw, good_of_word (GT_good (h w hw))⟩
theorem in_code {w0 : Cond} (h : w0 ∈ GT) : ∀ w ∈ w0 :: GT, w ∈ GT := fun w hw => by
  rcases List.mem_cons.mp hw with rfl | h2
  · exact h
  · exact h2
/-- a method's contract over pictures of the heap -/
def PcW (av : List Value) (P : Heap → Prop) (K : State → Prop) : Array Value → State → Prop := va_Pc av (fun U => P U.heap ∧ K U)
def QcW (A : Nat → Prop) (v : Option Value) (P : Heap → Prop) : Array Value → State → Outcome → State → Prop := fun _ st oc t => oc = .returned v ∧ P t.heap ∧ va_F A st t
/-- what a method's body rests on -/
def Cx (p : Program) (s : State) (m : MethodId) (args : Array Value) (meth : Method) (c : Code) (own : String) (cc : ByteArray) (nL : Nat) (ret : Option FieldType) (K : State → Prop) : Prop :=
  p.tables.exec = Jvm.exec ∧ c.code = cc ∧ c.maxLocals = nL ∧ s.vm.findClass own = some m.cls ∧ (∀ w ∈ GT, w.before args s = true) ∧ meth.sig.returnType = ret ∧ meth.locks = false ∧ K s
/-- what is known of the classes: G.1 the classes' numbers and slots, G.2.1 the array classes, then the heap as it was at first, its size below which nothing is written, the texts' addresses and their bytes', the address of ABOVE -/
abbrev xG : Type := va_G × (Nat → ClassId) × Heap × Nat × (Nat → Nat) × (Nat → Nat) × Nat
def tysG (cA : Nat → ClassId) : List (ClassId × FieldType) := [(cA 0, .int), (cA 1, .long), (cA 2, .char), (cA 3, .boolean), (cA 4, .object "AtThePost$Horse"), (cA 5, .object "AtThePost$Race"), (cA 6, .object "AtThePost$Sheet"), (cA 7, .object "AtThePost$Text")]
def nestF (q : String × Nat × String × String × String) : Cond := .fieldLinkNest q.1 q.2.1 q.2.2.1 q.2.2.2.1 q.2.2.2.2 "AtThePost"
def nestM (q : String × Nat × MethodName) : Cond := .methodLinkNest q.1 q.2.1 q.2.2 "AtThePost"
def scL : List (String × Nat × String) := [(RX8, 104, "next lead + 3 - place ; hold 2 ; say strength - lead ;"), (RX6, 55, "strength"), (RX6, 61, "lead"), (RX6, 63, "won"), (RX6, 65, "place"), (RX6, 67, "age"), (RX6, 69, "ground"), (RX6, 71, "next"), (RX6, 73, "hold"), (RX6, 75, "say"), (RX6, 77, "or"), (RX6, 79, "and"), (RX6, 81, "not")]
def scLen : List Nat := [54, 8, 4, 3, 5, 3, 6, 4, 4, 3, 2, 3, 3]
def scByt : List (List Int32) := [[110, 101, 120, 116, 32, 108, 101, 97, 100, 32, 43, 32, 51, 32, 45, 32, 112, 108, 97, 99, 101, 32, 59, 32, 104, 111, 108, 100, 32, 50, 32, 59, 32, 115, 97, 121, 32, 115, 116, 114, 101, 110, 103, 116, 104, 32, 45, 32, 108, 101, 97, 100, 32, 59], [115, 116, 114, 101, 110, 103, 116, 104], [108, 101, 97, 100], [119, 111, 110], [112, 108, 97, 99, 101], [97, 103, 101], [103, 114, 111, 117, 110, 100], [110, 101, 120, 116], [104, 111, 108, 100], [115, 97, 121], [111, 114], [97, 110, 100], [110, 111, 116]]
def abv : List Int32 := [-1, 0, 0, 0, 1, 3]
def aoL : List String := ["AtThePost$Horse", "AtThePost$Race", "AtThePost$Sheet", "AtThePost$Text"]
def KS (G : xG) (U : State) : Prop := vk_S 13 scLen scByt G.2.2.2.2.1 G.2.2.2.2.2.1 (fun q => G.2.2.2.1 ≤ q) U G.2.2.1 ∧ (∀ (i : Nat) (q : String × Nat × String), scL[i]? = some q → vk_R q.1 q.2.1 q.2.2 (G.2.2.2.2.1 i) U) ∧ va_Z "AtThePost$Horse" "ABOVE" "[I" (.ref G.2.2.2.2.2.2) (fun q => G.2.2.2.1 ≤ q) U G.2.2.1 ∧ va_T .int G.2.2.2.2.2.2 6 (fun j => .int (abv.getD j 0)) (fun q => G.2.2.2.1 ≤ q) U G.2.2.1 ∧ va_Z "java/lang/String" "COMPACT_STRINGS" "Z" (.int 1) (fun q => G.2.2.2.1 ≤ q) U G.2.2.1 ∧ va_Zq "jdk/internal/util/Preconditions" "SIOOBE_FORMATTER" "Ljava/util/function/BiFunction;" (fun q => G.2.2.2.1 ≤ q) U G.2.2.1 ∧ ∀ C ∈ aoL, va_AO C U
def KK (G : xG) (U : State) : Prop := va_K G.1 vwCl (tysG G.2.1) U ∧ (∀ q ∈ nF, va_Nw (nestF q) U) ∧ (∀ q ∈ nM, va_Nw (nestM q) U) ∧ KS G U
theorem KK.warm {G : xG} {s U : State} (h : KK G s) (hW : s.WarmedH U.vm) : KK G U := ⟨va_K.moved hW.alike h.1, fun q hq => va_Nw.warmF hW (h.2.1 q hq), fun q hq => va_Nw.warmM hW (h.2.2.1 q hq), h.2.2.2.1.moved hW.alike, fun i q hq => (h.2.2.2.2.1 i q hq).warm hW, h.2.2.2.2.2.1.moved hW.alike, h.2.2.2.2.2.2.1.moved hW.alike, h.2.2.2.2.2.2.2.1.moved hW.alike, h.2.2.2.2.2.2.2.2.1.moved hW.alike, fun C hC => va_AO.moved hW.alike (h.2.2.2.2.2.2.2.2.2 C hC)⟩
theorem KK.calling {G : xG} {U : State} (h : KK G U) (g : JFrame) (mk : MethodId) (a : Array Value) : KK G (U.calling g mk a) := ⟨va_K.moved (u := U) (U := U.calling g mk a) (Vm.Alike.refl U.vm) h.1, fun q hq => va_Nw.same (u := U) rfl rfl (h.2.1 q hq), fun q hq => va_Nw.same (u := U) rfl rfl (h.2.2.1 q hq), vk_S.moved (u := U) (U := U.calling g mk a) (Vm.Alike.refl U.vm) h.2.2.2.1, fun i q hq => vk_R.same (u := U) (U := U.calling g mk a) rfl (h.2.2.2.2.1 i q hq), va_Z.moved (u := U) (U := U.calling g mk a) (Vm.Alike.refl U.vm) h.2.2.2.2.2.1, va_T.moved (u := U) (U := U.calling g mk a) (Vm.Alike.refl U.vm) h.2.2.2.2.2.2.1, va_Z.moved (u := U) (U := U.calling g mk a) (Vm.Alike.refl U.vm) h.2.2.2.2.2.2.2.1, va_Zq.moved (u := U) (U := U.calling g mk a) (Vm.Alike.refl U.vm) h.2.2.2.2.2.2.2.2.1, fun C hC => va_AO.moved (u := U) (U := U.calling g mk a) (Vm.Alike.refl U.vm) (h.2.2.2.2.2.2.2.2.2 C hC)⟩
theorem PcW.blind {av : List Value} {P : Heap → Prop} {G : xG} : FrameBlind (PcW av P (KK G)) := fun a U g mk q => ⟨q.1, q.2.1, q.2.2.calling g mk a⟩
theorem xpro {l : Launch} {y : MethodName} {b : ByteArray} {n : Nat} {ret : Option FieldType} {rm : Room} {av : List Value} {P P' : Heap → Prop} {G : xG} {A : Nat → Prop} {v : Option Value} {mc ms : Nat} {own : String} (hy : plainName y.cls = true) (hown : y.cls = own) (hcat : (lg_sl av).length ≤ n)
    (body : ∀ (p : Program) (e : Env) (s : State) (m : MethodId) (args : Array Value) (below : List Frame) (meth : Method) (c : Code), Cx p s m args meth c own b n ret (KK G) → P s.heap → ∀ ls : Array Slot, lv_has ls n (lv_args 0 av) →
      W p l e rm s m args below meth c s.heap [] 0 0 (MQ below (QcW A v P') args s mc ms A) (F0 m 0 ls [])) : Met l y (.code y b n ret :: GT) rm (PcW av P (KK G)) (QcW A v P') mc ms A := by
  refine Met.ofW (cc := b) (maxL := n) (ret := ret) hy rfl ?_
  intro p e s m args below meth c s₁ B hml hv
  obtain ⟨rfl, hP, hK⟩ := hv
  have hts := atoms_spec (ws := .code y b n ret :: GT) B.pre
  have ho : s.vm.findClass y.cls = some m.cls := findClass_of_methodNamed B.named
  rw [hown] at ho
  have hl := lv_entry av (n := n) hcat
  rw [lg_entry_eq]
  generalize (lg_sl av ++ List.replicate (n - (lg_sl av).length) Slot.unset).toArray = ls at hl ⊢
  exact body p e s m av.toArray below meth c ⟨B.exec, B.bytes, hml, ho, fun w hw => hts w (List.mem_cons_of_mem _ hw), B.returns, B.notSynchronized, hK⟩ hP ls hl
theorem xproI {l : Launch} {y : MethodName} {b : ByteArray} {n : Nat} {ret : Option FieldType} {rm : Room} {av : List Value} {P P' : Heap → Prop} {G : xG} {A : Nat → Prop} {v : Option Value} {mc ms : Nat} {own : String} (hy : plainName y.cls = true) (hown : y.cls = own) (hcat : (lg_sl av).length ≤ n)
    (body : ∀ (p : Program) (e : Env) (s : State) (m : MethodId) (args : Array Value) (below : List Frame) (meth : Method) (c : Code), Cx p s m args meth c own b n ret (KK G) → meth.name = y.name → P s.heap → ∀ ls : Array Slot, lv_has ls n (lv_args 0 av) →
      W p l e rm s m args below meth c s.heap [] 0 0 (MQ below (QcW A v P') args s mc ms A) (F0 m 0 ls [])) : Met l y (.code y b n ret :: GT) rm (PcW av P (KK G)) (QcW A v P') mc ms A := by
  refine Met.ofW (cc := b) (maxL := n) (ret := ret) hy rfl ?_
  intro p e s m args below meth c s₁ B hml hv
  obtain ⟨rfl, hP, hK⟩ := hv
  have hts := atoms_spec (ws := .code y b n ret :: GT) B.pre
  have ho : s.vm.findClass y.cls = some m.cls := findClass_of_methodNamed B.named
  rw [hown] at ho
  have hl := lv_entry av (n := n) hcat
  rw [lg_entry_eq]
  generalize (lg_sl av ++ List.replicate (n - (lg_sl av).length) Slot.unset).toArray = ls at hl ⊢
  exact body p e s m av.toArray below meth c ⟨B.exec, B.bytes, hml, ho, fun w hw => hts w (List.mem_cons_of_mem _ hw), B.returns, B.notSynchronized, hK⟩ (name_of_methodNamed B.named B.method).1 hP ls hl
/-- binding -/
def lt {α β : Type} (v : α) (f : α → Option β) : Option β := f v
theorem chk_e {α : Type} {P : Prop} [Decidable P] {A : Option α} {r : α} (h : (if P then A else none) = some r) : P ∧ A = some r := by
  by_cases q : P
  · rw [if_pos q] at h; exact ⟨q, h⟩
  · rw [if_neg q] at h; cases h
theorem ite_p {α : Type} {P : Prop} [Decidable P] {A B r : α} (q : P) (h : (if P then A else B) = r) : A = r := by rw [if_pos q] at h; exact h
theorem ite_n {α : Type} {P : Prop} [Decidable P] {A B r : α} (q : ¬ P) (h : (if P then A else B) = r) : B = r := by rw [if_neg q] at h; exact h
theorem bind_e {α β : Type} {x : Option α} {f : α → Option β} {r : β} (h : x.bind f = some r) : ∃ a, x = some a ∧ f a = some r := by
  cases x with
  | none => cases h
  | some a => exact ⟨a, rfl, h⟩
def bI (b : Bool) : Int32 := if b then 1 else 0
theorem bI_0 (b : Bool) : bI b = 0 ↔ ¬ b = true := by cases b <;> decide
theorem bI_fits (b : Bool) : fits .boolean (.int (bI b)) = true := by cases b <;> rfl
theorem bI_nar (b : Bool) : narrow .boolean (.int (bI b)) = .int (bI b) := by cases b <;> rfl
/-- the heap but for one cell -/
def xOff (a : Nat) (H H1 : Heap) : Prop := H1.size = H.size ∧ ∀ q : Nat, q ≠ a → H1[q]? = H[q]?
/-- the heap and one cell more -/
def xNew (H H1 : Heap) : Prop := H1.size = H.size + 1 ∧ ∀ q : Nat, q < H.size → H1[q]? = H[q]?
theorem xP1 {D : va_G} {cl : List vw_C} {q : Nat × va_E} {H : Heap} (h : va_at D cl q H) : va_P D cl [q] H := fun k x hk => by
  cases k with
  | zero => simp at hk; cases hk; exact h
  | succ k => simp at hk
section XR
variable {p : Program} {l : Launch} {e : Env} {R : Room} {s : State} {m : MethodId} {args : Array Value} {below : List Frame} {meth : Method} {c : Code} {H : Heap} {locs : List Loc} {cells slots : Nat} {Q : State → Prop}
variable {cc : ByteArray} {pc nL : Nat} {ls : Array Slot} {rest : List Value} {D : va_G} {cl : List vw_C} {A : Nat → Prop} {a : Nat} {tys : List (ClassId × FieldType)} {H0 : Heap} {ret : Option FieldType} {own : String} {G : xG} {P P' : Heap → Prop}
theorem topi_lt {α : Type} {x : Int32} {f : Int32 → Option α} {r : α} {g : Int32 → JFrame} (h : lt x f = some r) (k : ∀ y : Int32, f y = some r → W p l e R s m args below meth c H locs cells slots Q (g y)) : W p l e R s m args below meth c H locs cells slots Q (g x) := k x h
theorem xret_i {v : Int32} (C : Cx p s m args meth c own cc nL (some .int) (KK G)) (hP : P' H) (hS : va_S A s.heap H locs) (hd : decode cc pc = .ok (.ireturn, 1)) : W p l e R s m args below meth c H locs cells slots (MQ below (QcW A (some (.int v)) P') args s cells slots A) (F0 m pc ls [.int v]) :=
  W.iret C.1 C.2.1 C.2.2.2.2.2.1 (fun t ht hW => ⟨rfl, by rw [ht]; exact hP, hS.F ht⟩) hS.2.2 hd C.2.2.2.2.2.2.1
theorem xret_z {v : Int32} (C : Cx p s m args meth c own cc nL (some .boolean) (KK G)) (hn : narrow .boolean (.int v) = .int v) (hP : P' H) (hS : va_S A s.heap H locs) (hd : decode cc pc = .ok (.ireturn, 1)) : W p l e R s m args below meth c H locs cells slots (MQ below (QcW A (some (.int v)) P') args s cells slots A) (F0 m pc ls [.int v]) :=
  W.zret C.1 C.2.1 C.2.2.2.2.2.1 hn (fun t ht hW => ⟨rfl, by rw [ht]; exact hP, hS.F ht⟩) hS.2.2 hd C.2.2.2.2.2.2.1
theorem xret_l {v : Int64} (C : Cx p s m args meth c own cc nL (some .long) (KK G)) (hP : P' H) (hS : va_S A s.heap H locs) (hd : decode cc pc = .ok (.lreturn, 1)) : W p l e R s m args below meth c H locs cells slots (MQ below (QcW A (some (.long v)) P') args s cells slots A) (F0 m pc ls [.long v]) :=
  W.lret C.1 C.2.1 C.2.2.2.2.2.1 (fun t ht hW => ⟨rfl, by rw [ht]; exact hP, hS.F ht⟩) hS.2.2 hd C.2.2.2.2.2.2.1
theorem xret_v (C : Cx p s m args meth c own cc nL none (KK G)) (hP : P' H) (hS : va_S A s.heap H locs) (hd : decode cc pc = .ok (.return_, 1)) : W p l e R s m args below meth c H locs cells slots (MQ below (QcW A none P') args s cells slots A) (F0 m pc ls []) :=
  W.vret C.1 C.2.1 C.2.2.2.2.2.1 (fun t ht hW => ⟨rfl, by rw [ht]; exact hP, hS.F ht⟩) hS.2.2 hd C.2.2.2.2.2.2.1
theorem xret_a {v : Option Nat} {n : String} (C : Cx p s m args meth c own cc nL (some (.object n)) (KK G)) (hP : P' H) (hS : va_S A s.heap H locs) (hd : decode cc pc = .ok (.areturn, 1)) : W p l e R s m args below meth c H locs cells slots (MQ below (QcW A (some (va_rf v)) P') args s cells slots A) (F0 m pc ls [va_rf v]) :=
  W.aret C.1 C.2.1 C.2.2.2.2.2.1 (Or.inl ⟨_, rfl⟩) (by cases v; exact Or.inl rfl; exact Or.inr ⟨_, rfl⟩) (fun t ht hW => ⟨rfl, by rw [ht]; exact hP, hS.F ht⟩) hS.2.2 hd C.2.2.2.2.2.2.1
theorem xret_ar {v : Option Nat} (C : Cx p s m args meth c own cc nL (some (.array .int)) (KK G)) (hP : P' H) (hS : va_S A s.heap H locs) (hd : decode cc pc = .ok (.areturn, 1)) : W p l e R s m args below meth c H locs cells slots (MQ below (QcW A (some (va_rf v)) P') args s cells slots A) (F0 m pc ls [va_rf v]) :=
  W.aret C.1 C.2.1 C.2.2.2.2.2.1 (Or.inr ⟨_, rfl⟩) (by cases v; exact Or.inl rfl; exact Or.inr ⟨_, rfl⟩) (fun t ht hW => ⟨rfl, by rw [ht]; exact hP, hS.F ht⟩) hS.2.2 hd C.2.2.2.2.2.2.1
theorem xret_n {v : Int32} {ty : FieldType} (C : Cx p s m args meth c own cc nL (some ty) (KK G)) (hn : narrow ty (.int v) = .int v) (hP : P' H) (hS : va_S A s.heap H locs) (hd : decode cc pc = .ok (.ireturn, 1)) : W p l e R s m args below meth c H locs cells slots (MQ below (QcW A (some (.int v)) P') args s cells slots A) (F0 m pc ls [.int v]) :=
  W.zret C.1 C.2.1 C.2.2.2.2.2.1 hn (fun t ht hW => ⟨rfl, by rw [ht]; exact hP, hS.F ht⟩) hS.2.2 hd C.2.2.2.2.2.2.1
/-- behind a call -/
theorem xcall {A1 : Nat → Prop} {v : Option Value} {mc ms : Nat} {st0 : List Value} {av : Array Value} (hr : va_Run p l e R s m args below meth c H locs cells slots mc ms (F0 m pc ls st0) rest (QcW A1 v P' av) A1) (hS : va_S A s.heap H locs) (hA : ∀ q, A1 q → A q)
    (kk : ∀ (H1 : Heap) (locs1 : List Loc), P' H1 → H.size ≤ H1.size → (∀ q : Nat, q < H.size → ¬ A1 q → H1[q]? = H[q]?) → va_S A s.heap H1 locs1 → W p l e R s m args below meth c H1 locs1 (cells + mc) (slots + ms) Q (F0 m (pc + 3) ls (v.toList ++ rest))) : W p l e R s m args below meth c H locs cells slots Q (F0 m pc ls st0) := by
  intro T hT X
  obtain ⟨v', st₀, t, T', L, h0, X', hL, e1, e2, ⟨hv, hp, hz, hk⟩, st⟩ := hr T hT X
  cases hv
  rw [h0] at hz hk
  rw [← e1] at hp
  obtain ⟨t2, a1, b1⟩ := kk T'.heap (locs ++ L) hp (by rw [e1]; exact hz) (fun q h1 h2 => by rw [e1]; exact hk q h1 h2)
    ⟨Nat.le_trans hS.1 (by rw [e1]; exact hz), fun q h1 h2 => by rw [e1, hk q (Nat.lt_of_lt_of_le h1 hS.1) (fun z => h2 (hA q z))]; exact hS.2.1 q h1 h2, fun q hq => by
      rcases List.mem_append.mp hq with h | h
      · exact hS.2.2 q h
      · exact hA _ (hL q h)⟩ T' rfl X'
  exact ⟨t2, st t2 a1, b1⟩
theorem Cx.fix (C : Cx p s m args meth c own cc nL ret (KK G)) : CallFix p m c cc nL s args GT own := ⟨C.1, C.2.1, C.2.2.1, C.2.2.2.1, C.2.2.2.2.1⟩
theorem Cx.K (C : Cx p s m args meth c own cc nL ret (KK G)) : KK G s := C.2.2.2.2.2.2.2
theorem xcallV {y : MethodName} {b : ByteArray} {n idx nA mc ms ci : Nat} {ret1 : Option FieldType} {rm : Room} {A1 : Nat → Prop} {v : Option Value} {As st0 : List Value} {Cn : String} {T : u_T} {N : Nat} {fs : List Value} (C : Cx p s m args meth c own cc nL ret (KK G))
    (hM : Met l y (.code y b n ret1 :: GT) rm (PcW (.ref a :: As) P (KK G)) (QcW A1 v P') mc ms A1)
    (w1 : Cond.methodLink own idx y ∈ GT) (w2 : Cond.instanceMethod y ∈ GT) (w3 : Cond.selects Cn y y ∈ GT) (w4 : Cond.initialized Cn ∈ GT) (w5 : Cond.code y b n ret1 ∈ GT)
    (hd0 : y.cls = Cn ∧ y.cls ≠ "java/lang/invoke/MethodHandle" ∧ y.cls ≠ "java/lang/invoke/VarHandle" ∧ (parseMethodDescriptor y.desc).map (fun d => d.parameters.length) = some nA) (hci : vwCl[ci]? = some (Cn, T, N)) (hrc : rm.cells = mc) (hrs : rm.slots = ms)
    (hR : rm.frames + 1 ≤ R.frames ∧ 8 + (n + 11) + rm.locals ≤ R.locals) (hrecv : va_at G.1 vwCl (a, .inr (ci, fs)) H) (hP : P H) (hS : va_S A s.heap H locs) (hA : ∀ q, A1 q → A q)
    (hst : st0 = As.reverse ++ .ref a :: rest) (hn : As.length = nA) (hsz : ls.size = nL) (hW : (rest.map fun v => v.category).sum ≤ 8) (hdg : decode cc pc = .ok (.invokevirtual idx, 3)) (hf : cells + mc ≤ R.cells ∧ slots + ms ≤ R.slots)
    (kk : ∀ (H1 : Heap) (locs1 : List Loc), P' H1 → H.size ≤ H1.size → (∀ q : Nat, q < H.size → ¬ A1 q → H1[q]? = H[q]?) → va_S A s.heap H1 locs1 → W p l e R s m args below meth c H1 locs1 (cells + mc) (slots + ms) Q (F0 m (pc + 3) ls (v.toList ++ rest))) : W p l e R s m args below meth c H locs cells slots Q (F0 m pc ls st0) := by
  have hG : GoodIn GT (wsV own idx Cn y (.code y b n ret1 :: GT)) := good_GT fun w hw => by
    rcases List.mem_append.mp hw with h | h
    · simp only [List.mem_cons, List.not_mem_nil, or_false] at h
      rcases h with rfl | rfl | rfl | rfl
      · exact w1
      · exact w2
      · exact w3
      · exact w4
    · exact in_code w5 w h
  refine xcall (va_runV C.fix hM (cwV nA C.2.2.2.2.1 hG rfl hrc hrs hd0 hR) ⟨PcW.blind, va_recv C.K.1 (xP1 hrecv) (q0 := 0) hci rfl, fun U hU hW => ⟨rfl, by rw [hU]; exact hP, C.K.warm hW⟩⟩ rfl hn hsz hst (by simpa [JFrame.monitorRoom] using hW) hdg hf) hS hA kk
theorem xcallS {y : MethodName} {b : ByteArray} {n idx nA mc ms : Nat} {ret1 : Option FieldType} {rm : Room} {A1 : Nat → Prop} {v : Option Value} {As st0 : List Value} (C : Cx p s m args meth c own cc nL ret (KK G))
    (hM : Met l y (.code y b n ret1 :: GT) rm (PcW As P (KK G)) (QcW A1 v P') mc ms A1)
    (w1 : Cond.methodLink own idx y ∈ GT) (w2 : Cond.static y ∈ GT) (w4 : Cond.initialized y.cls ∈ GT) (w5 : Cond.code y b n ret1 ∈ GT)
    (hd0 : y.cls ≠ "java/lang/invoke/MethodHandle" ∧ y.cls ≠ "java/lang/invoke/VarHandle" ∧ (parseMethodDescriptor y.desc).map (fun d => d.parameters.length) = some nA) (hrc : rm.cells = mc) (hrs : rm.slots = ms)
    (hR : rm.frames + 1 ≤ R.frames ∧ 8 + (n + 11) + rm.locals ≤ R.locals) (hP : P H) (hS : va_S A s.heap H locs) (hA : ∀ q, A1 q → A q)
    (hst : st0 = As.reverse ++ rest) (hn : As.length = nA) (hsz : ls.size = nL) (hW : (rest.map fun v => v.category).sum ≤ 8) (hdg : decode cc pc = .ok (.invokestatic idx, 3)) (hf : cells + mc ≤ R.cells ∧ slots + ms ≤ R.slots)
    (kk : ∀ (H1 : Heap) (locs1 : List Loc), P' H1 → H.size ≤ H1.size → (∀ q : Nat, q < H.size → ¬ A1 q → H1[q]? = H[q]?) → va_S A s.heap H1 locs1 → W p l e R s m args below meth c H1 locs1 (cells + mc) (slots + ms) Q (F0 m (pc + 3) ls (v.toList ++ rest))) : W p l e R s m args below meth c H locs cells slots Q (F0 m pc ls st0) := by
  have hts := C.2.2.2.2.1
  exact xcall (va_runS C.fix hM ⟨callB_of nA hts (good_GT (in_code w5)) rfl hrc hrs (hts _ w4) (hts _ w1) hd0 hR, hts _ w2⟩ ⟨PcW.blind, fun U hU hW => ⟨rfl, by rw [hU]; exact hP, C.K.warm hW⟩⟩ rfl hn hsz hst (by simpa [JFrame.monitorRoom] using hW) hdg hf) hS hA kk
/-- a field set: the cell anew, all else as it was -/
theorem x_put (hexec : p.tables.exec = Jvm.exec) (hb : c.code = cc) {own ref C : String} {T : u_T} {N ci index : Nat} (hts : ∀ w ∈ GT, w.before args s = true) (hin : ∀ w ∈ u_ws C T N, w ∈ GT) (ty0 : Nat → FieldType) (hty : ∀ k, k < N → parseFieldDescriptor (T k).2.2.1 = some (ty0 k)) (hnm : ∀ a, a < N → ∀ b, b < N → a ≠ b → (T a).2.1 ≠ (T b).2.1) (hown : s.vm.findClass own = some m.cls) (hK : va_K D cl tys s) (hS0 : va_S A H0 H locs) {fs : List Value} (he : va_at D cl (a, .inr (ci, fs)) H) (hAa : A a) (hc : cl[ci]? = some (C, T, N)) (k : Nat) (hk : k < N) (hlink : (Cond.fieldLink own index ref (T k).2.1 (T k).2.2.1).before args s = true) (hsame : ∀ x, s.fieldFound? (T k).1 (T k).2.1 (T k).2.2.1 = some x → s.fieldFound? ref (T k).2.1 (T k).2.2.1 = some x) (hfin : (T k).2.2.2 = false) {ty : FieldType} {v : Value} (hd : parseFieldDescriptor (T k).2.2.1 = some ty) (hn : narrow ty v = v) (hfit : fits ty v = true) (hl : k < fs.length)
    (hdg : decode cc pc = .ok (.putfield index, 3)) (kk : ∀ (H1 : Heap) (locs1 : List Loc), va_at D cl (a, .inr (ci, fs.set k v)) H1 → xOff a H H1 → va_S A H0 H1 locs1 → W p l e R s m args below meth c H1 locs1 cells slots Q (F0 m (pc + 3) ls rest)) : W p l e R s m args below meth c H locs cells slots Q (F0 m pc ls (v :: .ref a :: rest)) := by
  have hap := va_apart (own := own) hts hin ty0 hty hnm hK hc
  obtain ⟨r, h1, cell, q1, q2, q3, q4⟩ := he
  have hr : r = (C, T, N) := Option.some.inj (h1.symm.trans hc)
  subst hr
  obtain ⟨hS, hfc, kC, hkC, hkind⟩ := hK.1 ci _ hc
  obtain ⟨cf, kf, fi, f, hi, hsl⟩ := hS k hk
  have hlay := hts _ (hin _ (u_in_lay hk))
  unfold u_lay at hlay
  rw [if_neg (by rw [hfin]; decide)] at hlay
  have hst := (u_facts hfc hkC (u_lays hts hin hk) hi).1
  have h6 := u_store hfc hkC hkind hlay hi hd hn hfit
  refine W.putK hexec hb (f := f) ⟨hown, hlink, ⟨_, _, _, hsame _ hi⟩, hst⟩ (by rw [q2]; exact h6) q1 q3 (by rw [hsl]; exact k2_hasslot (q4 k hk)) rfl rfl hdg fun H' e1 e2 e3 => ?_
  rw [hsl] at e1 ⊢
  exact kk H' _ ⟨_, hc, t_OB.to (V := updV (vp_V fs) k v) ⟨_, e1, q2, q3, t_set q4 hap hk v⟩ (fun j _ => vp_updV_set hl v j)⟩ ⟨e2, e3⟩ (hS0.put e2 e3 hAa)
theorem x_putN (hexec : p.tables.exec = Jvm.exec) (hb : c.code = cc) {own ref C host : String} {T : u_T} {N ci index : Nat} (hts : ∀ w ∈ GT, w.before args s = true) (hin : ∀ w ∈ u_ws C T N, w ∈ GT) (ty0 : Nat → FieldType) (hty : ∀ k, k < N → parseFieldDescriptor (T k).2.2.1 = some (ty0 k)) (hnm : ∀ a, a < N → ∀ b, b < N → a ≠ b → (T a).2.1 ≠ (T b).2.1) (hown : s.vm.findClass own = some m.cls) (hK : va_K D cl tys s) (hS0 : va_S A H0 H locs) {fs : List Value} (he : va_at D cl (a, .inr (ci, fs)) H) (hAa : A a) (hc : cl[ci]? = some (C, T, N)) (k : Nat) (hk : k < N) (hlink : (Cond.fieldLinkNest own index ref (T k).2.1 (T k).2.2.1 host).before args s = true) (hsame : ∀ x, s.fieldFound? (T k).1 (T k).2.1 (T k).2.2.1 = some x → s.fieldFound? ref (T k).2.1 (T k).2.2.1 = some x) (hfin : (T k).2.2.2 = false) {ty : FieldType} {v : Value} (hd : parseFieldDescriptor (T k).2.2.1 = some ty) (hn : narrow ty v = v) (hfit : fits ty v = true) (hl : k < fs.length)
    (hdg : decode cc pc = .ok (.putfield index, 3)) (kk : ∀ (H1 : Heap) (locs1 : List Loc), va_at D cl (a, .inr (ci, fs.set k v)) H1 → xOff a H H1 → va_S A H0 H1 locs1 → W p l e R s m args below meth c H1 locs1 cells slots Q (F0 m (pc + 3) ls rest)) : W p l e R s m args below meth c H locs cells slots Q (F0 m pc ls (v :: .ref a :: rest)) := by
  have hap := va_apart (own := own) hts hin ty0 hty hnm hK hc
  obtain ⟨r, h1, cell, q1, q2, q3, q4⟩ := he
  have hr : r = (C, T, N) := Option.some.inj (h1.symm.trans hc)
  subst hr
  obtain ⟨hS, hfc, kC, hkC, hkind⟩ := hK.1 ci _ hc
  obtain ⟨cf, kf, fi, f, hi, hsl⟩ := hS k hk
  have hlay := hts _ (hin _ (u_in_lay hk))
  unfold u_lay at hlay
  rw [if_neg (by rw [hfin]; decide)] at hlay
  have hst := (u_facts hfc hkC (u_lays hts hin hk) hi).1
  have h6 := u_store hfc hkC hkind hlay hi hd hn hfit
  refine va_WputK hexec hb (f := f) hown hlink (hsame _ hi) hst (by rw [q2]; exact h6) q1 q3 (by rw [hsl]; exact k2_hasslot (q4 k hk)) rfl rfl hdg fun H' e1 e2 e3 => ?_
  rw [hsl] at e1 ⊢
  exact kk H' _ ⟨_, hc, t_OB.to (V := updV (vp_V fs) k v) ⟨_, e1, q2, q3, t_set q4 hap hk v⟩ (fun j _ => vp_updV_set hl v j)⟩ ⟨e2, e3⟩ (hS0.put e2 e3 hAa)
/-- an item of a row of ints set -/
theorem x_iast (hexec : p.tables.exec = Jvm.exec) (hb : c.code = cc) (hK : va_K D cl tys s) (hS : va_S A H0 H locs) (t0 : Nat) {cA : ClassId} {n : Nat} {f : Nat → Int32} (he : va_at D cl (a, .inl (cA, n, .inl f)) H) (hAa : A a) (ht : tys[t0]? = some (cA, .int)) {i : Int32} {x : Int32} (hin : vp_in i n) (hdg : decode cc pc = .ok (.iastore, 1))
    (kk : ∀ (H1 : Heap) (locs1 : List Loc), va_at D cl (a, .inl (cA, n, .inl (upd f i.toNatClampNeg x))) H1 → xOff a H H1 → va_S A H0 H1 locs1 → W p l e R s m args below meth c H1 locs1 cells slots Q (F0 m (pc + 1) ls rest)) : W p l e R s m args below meth c H locs cells slots Q (F0 m pc ls (.int x :: .int i :: .ref a :: rest)) := by
  refine W.iast hexec hb he ((hK.2 t0 _ ht).1 n (fun j => .int (f j))) (fun q => by cases q) (by show ¬ (i < 0 ∨ (arrV _ _ _).slots.size ≤ _); rw [arrV_size]; exact hin) rfl rfl hdg fun H1 e z oq => ?_
  refine kk H1 _ ?_ ⟨z, oq⟩ (hS.put z oq hAa)
  show H1[a]? = some (vp_cell _ _)
  rw [e]
  rw [vp_cell_i, vp_cell_i, arrV_store]
  congr 2
  funext q
  by_cases hq : q = i.toNatClampNeg
  · subst hq
    simp [updV, upd]
  · simp [updV, upd, hq]
end XR
section XR2
variable {p : Program} {l : Launch} {e : Env} {R : Room} {s : State} {m : MethodId} {args : Array Value} {below : List Frame} {meth : Method} {c : Code} {H : Heap} {locs : List Loc} {cells slots : Nat} {Q : State → Prop}
variable {cc : ByteArray} {pc nL : Nat} {ls : Array Slot} {rest : List Value} {D : va_G} {cl : List vw_C} {A : Nat → Prop} {a : Nat} {tys : List (ClassId × FieldType)} {H0 : Heap}
theorem x_zast (hexec : p.tables.exec = Jvm.exec) (hb : c.code = cc) (hK : va_K D cl tys s) (hS : va_S A H0 H locs) (t0 : Nat) {cA : ClassId} {n : Nat} {f : Nat → Int32} (he : va_at D cl (a, .inl (cA, n, .inl f)) H) (hAa : A a) (ht : tys[t0]? = some (cA, .boolean)) {i : Int32} {x : Int32} (hin : vp_in i n) (hdg : decode cc pc = .ok (.bastore, 1))
    (kk : ∀ (H1 : Heap) (locs1 : List Loc), va_at D cl (a, .inl (cA, n, .inl (upd f i.toNatClampNeg (vp_nar .boolean x)))) H1 → xOff a H H1 → va_S A H0 H1 locs1 → W p l e R s m args below meth c H1 locs1 cells slots Q (F0 m (pc + 1) ls rest)) : W p l e R s m args below meth c H locs cells slots Q (F0 m pc ls (.int x :: .int i :: .ref a :: rest)) := by
  refine W.zast hexec hb he ((hK.2 t0 _ ht).1 n (fun j => .int (f j))) (fun q => by cases q) (by show ¬ (i < 0 ∨ (arrV _ _ _).slots.size ≤ _); rw [arrV_size]; exact hin) rfl rfl hdg fun H1 e z oq => ?_
  refine kk H1 _ ?_ ⟨z, oq⟩ (hS.put z oq hAa)
  show H1[a]? = some (vp_cell _ _)
  rw [e]
  rw [vp_cell_i, vp_cell_i, arrV_store]
  congr 2
  funext q
  by_cases hq : q = i.toNatClampNeg
  · subst hq
    simp [updV, upd, vp_nar]
    try rfl
  · simp [updV, upd, hq]
theorem x_cast (hexec : p.tables.exec = Jvm.exec) (hb : c.code = cc) (hK : va_K D cl tys s) (hS : va_S A H0 H locs) (t0 : Nat) {cA : ClassId} {n : Nat} {f : Nat → Int32} (he : va_at D cl (a, .inl (cA, n, .inl f)) H) (hAa : A a) (ht : tys[t0]? = some (cA, .char)) {i : Int32} {x : Int32} (hin : vp_in i n) (hdg : decode cc pc = .ok (.castore, 1))
    (kk : ∀ (H1 : Heap) (locs1 : List Loc), va_at D cl (a, .inl (cA, n, .inl (upd f i.toNatClampNeg (vp_nar .char x)))) H1 → xOff a H H1 → va_S A H0 H1 locs1 → W p l e R s m args below meth c H1 locs1 cells slots Q (F0 m (pc + 1) ls rest)) : W p l e R s m args below meth c H locs cells slots Q (F0 m pc ls (.int x :: .int i :: .ref a :: rest)) := by
  refine W.cast hexec hb he ((hK.2 t0 _ ht).1 n (fun j => .int (f j))) (fun q => by cases q) (by show ¬ (i < 0 ∨ (arrV _ _ _).slots.size ≤ _); rw [arrV_size]; exact hin) rfl rfl hdg fun H1 e z oq => ?_
  refine kk H1 _ ?_ ⟨z, oq⟩ (hS.put z oq hAa)
  show H1[a]? = some (vp_cell _ _)
  rw [e]
  rw [vp_cell_i, vp_cell_i, arrV_store]
  congr 2
  funext q
  by_cases hq : q = i.toNatClampNeg
  · subst hq
    simp [updV, upd, vp_nar]
    try rfl
  · simp [updV, upd, hq]
theorem x_last (hexec : p.tables.exec = Jvm.exec) (hb : c.code = cc) (hK : va_K D cl tys s) (hS : va_S A H0 H locs) (t0 : Nat) {cA : ClassId} {n : Nat} {f : Nat → Int64} (he : va_at D cl (a, .inl (cA, n, .inr (.inl f))) H) (hAa : A a) (ht : tys[t0]? = some (cA, .long)) {i : Int32} {x : Int64} (hin : vp_in i n) (hdg : decode cc pc = .ok (.lastore, 1))
    (kk : ∀ (H1 : Heap) (locs1 : List Loc), va_at D cl (a, .inl (cA, n, .inr (.inl (vp_updL f i.toNatClampNeg x)))) H1 → xOff a H H1 → va_S A H0 H1 locs1 → W p l e R s m args below meth c H1 locs1 cells slots Q (F0 m (pc + 1) ls rest)) : W p l e R s m args below meth c H locs cells slots Q (F0 m pc ls (.long x :: .int i :: .ref a :: rest)) := by
  refine W.last hexec hb he ((hK.2 t0 _ ht).1 n (fun j => .long (f j))) (fun q => by cases q) (by show ¬ (i < 0 ∨ (arrV _ _ _).slots.size ≤ _); rw [arrV_size]; exact hin) rfl rfl hdg fun H1 e z oq => ?_
  refine kk H1 _ ?_ ⟨z, oq⟩ (hS.put z oq hAa)
  show H1[a]? = some (vp_cell _ _)
  rw [e]
  rw [vp_cell_l, vp_cell_l, arrV_store]
  congr 2
  funext q
  by_cases hq : q = i.toNatClampNeg
  · subst hq
    simp [updV, vp_updL]
  · simp [updV, vp_updL, hq]
/-- a reference or null, out of and into the locals -/
theorem x_aload_nq {e0 : Option Nat} (hexec : p.tables.exec = Jvm.exec) (hb : c.code = cc) {k : Fin 4} {i : Nat} (hdg : decode cc pc = .ok (.aload_n k, 1)) (hi : (k : Nat) = i) (hl : ls[i]? = some (.val (va_rf e0))) (kk : W p l e R s m args below meth c H locs cells slots Q (F0 m (pc + 1) ls (va_rf e0 :: rest))) : W p l e R s m args below meth c H locs cells slots Q (F0 m pc ls rest) := by
  cases e0 with
  | none => exact lv_aload_nN hexec hb hdg hi hl kk
  | some a => exact lv_aload_n hexec hb hdg hi hl kk
theorem x_aloadq {e0 : Option Nat} (hexec : p.tables.exec = Jvm.exec) (hb : c.code = cc) {i : Nat} (hdg : decode cc pc = .ok (.aload i, 2)) (hl : ls[i]? = some (.val (va_rf e0))) (kk : W p l e R s m args below meth c H locs cells slots Q (F0 m (pc + 2) ls (va_rf e0 :: rest))) : W p l e R s m args below meth c H locs cells slots Q (F0 m pc ls rest) := by
  cases e0 with
  | none => exact lv_aloadN hexec hb hdg hl kk
  | some a => exact lv_aload hexec hb hdg hl kk
theorem x_astore_nq {e0 : Option Nat} (hexec : p.tables.exec = Jvm.exec) (hb : c.code = cc) {k : Fin 4} {i nL : Nat} {lv lv' : List (Nat × Value)} (hdg : decode cc pc = .ok (.astore_n k, 1)) (hi : (k : Nat) = i) (h : lv_has ls nL lv) (hn : i < nL) (hl : (i, va_rf e0) :: lv.filter (fun q => !(q.1 == i) && !(q.1 + 1 == i && q.2.category == 2)) = lv') (kk : ∀ ls' : Array Slot, lv_has ls' nL lv' → W p l e R s m args below meth c H locs cells slots Q (F0 m (pc + 1) ls' rest)) : W p l e R s m args below meth c H locs cells slots Q (F0 m pc ls (va_rf e0 :: rest)) := by
  cases e0 with
  | none => exact lv_astore_nN hexec hb hdg hi h hn hl kk
  | some a => exact lv_astore_n hexec hb hdg hi h hn hl kk
theorem x_astoreq {e0 : Option Nat} (hexec : p.tables.exec = Jvm.exec) (hb : c.code = cc) {i nL : Nat} {lv lv' : List (Nat × Value)} (hdg : decode cc pc = .ok (.astore i, 2)) (h : lv_has ls nL lv) (hn : i < nL) (hl : (i, va_rf e0) :: lv.filter (fun q => !(q.1 == i) && !(q.1 + 1 == i && q.2.category == 2)) = lv') (kk : ∀ ls' : Array Slot, lv_has ls' nL lv' → W p l e R s m args below meth c H locs cells slots Q (F0 m (pc + 2) ls' rest)) : W p l e R s m args below meth c H locs cells slots Q (F0 m pc ls (va_rf e0 :: rest)) := by
  cases e0 with
  | none => exact lv_astoreN hexec hb hdg h hn hl kk
  | some a => exact lv_astore hexec hb hdg h hn hl kk
/-- a boolean asked for -/
theorem x_ifeqB {b : Bool} (hexec : p.tables.exec = Jvm.exec) (hb : c.code = cc) {off : Int} {tgt : Nat} (hdg : decode cc pc = .ok (.ifCond .eq off, 3)) (ht : (pc : Int) + off = (tgt : Int)) (kt : ¬ b = true → W p l e R s m args below meth c H locs cells slots Q (F0 m tgt ls rest)) (kf : b = true → W p l e R s m args below meth c H locs cells slots Q (F0 m (pc + 3) ls rest)) : W p l e R s m args below meth c H locs cells slots Q (F0 m pc ls (.int (bI b) :: rest)) :=
  lv_if_eq hexec hb hdg ht (fun h => kt ((bI_0 b).mp h)) (fun h => kf (Classical.byContradiction fun z => h ((bI_0 b).mpr z)))
theorem x_ifneB {b : Bool} (hexec : p.tables.exec = Jvm.exec) (hb : c.code = cc) {off : Int} {tgt : Nat} (hdg : decode cc pc = .ok (.ifCond .ne off, 3)) (ht : (pc : Int) + off = (tgt : Int)) (kt : b = true → W p l e R s m args below meth c H locs cells slots Q (F0 m tgt ls rest)) (kf : ¬ b = true → W p l e R s m args below meth c H locs cells slots Q (F0 m (pc + 3) ls rest)) : W p l e R s m args below meth c H locs cells slots Q (F0 m pc ls (.int (bI b) :: rest)) :=
  lv_if_ne hexec hb hdg ht (fun h => kt (Classical.byContradiction fun z => h ((bI_0 b).mpr z))) (fun h => kf ((bI_0 b).mp h))
end XR2
abbrev ib (i : Int32) (n : Nat) : Prop := ¬ (i < 0 ∨ n ≤ i.toNatClampNeg)
abbrev irm (x y : Int32) : Int32 := x - x / y * y
abbrev lrm (x y : Int64) : Int64 := x - x / y * y
def NF : Nat := 1000
def MF : Nat := 100
theorem lt_e {α β : Type} {v : α} {f : α → Option β} {r : β} (h : lt v f = some r) : ∃ a, a = v ∧ f a = some r := ⟨v, rfl, h⟩
def bs {α β γ : Type} (x : Option (α ⊕ β)) (f : α → Option γ) (g : β → Option γ) : Option γ := match x with
  | some (.inl a) => f a
  | some (.inr b) => g b
  | none => none
theorem bs_e {α β γ : Type} {x : Option (α ⊕ β)} {f : α → Option γ} {g : β → Option γ} {r : γ} (h : bs x f g = some r) : (∃ a, x = some (.inl a) ∧ f a = some r) ∨ ∃ b, x = some (.inr b) ∧ g b = some r := by
  cases x with
  | none => cases h
  | some q =>
    cases q with
    | inl a => exact Or.inl ⟨a, rfl, h⟩
    | inr b => exact Or.inr ⟨b, rfl, h⟩
def bind2 {τ1 τ2 γ : Type} (x : Option (τ1 × τ2)) (f : τ1 → τ2 → Option γ) : Option γ := match x with
  | some (a1, a2) => f a1 a2
  | none => none
theorem bind2_e {τ1 τ2 γ : Type} {x : Option (τ1 × τ2)} {f : τ1 → τ2 → Option γ} {r : γ} (h : bind2 x f = some r) : ∃ a1 a2, x = some (a1, a2) ∧ f a1 a2 = some r := by
  cases x with
  | none => cases h
  | some q => obtain ⟨a1, a2⟩ := q; exact ⟨a1, a2, rfl, h⟩
def bind3 {τ1 τ2 τ3 γ : Type} (x : Option (τ1 × τ2 × τ3)) (f : τ1 → τ2 → τ3 → Option γ) : Option γ := match x with
  | some (a1, a2, a3) => f a1 a2 a3
  | none => none
theorem bind3_e {τ1 τ2 τ3 γ : Type} {x : Option (τ1 × τ2 × τ3)} {f : τ1 → τ2 → τ3 → Option γ} {r : γ} (h : bind3 x f = some r) : ∃ a1 a2 a3, x = some (a1, a2, a3) ∧ f a1 a2 a3 = some r := by
  cases x with
  | none => cases h
  | some q => obtain ⟨a1, a2, a3⟩ := q; exact ⟨a1, a2, a3, rfl, h⟩
def bind4 {τ1 τ2 τ3 τ4 γ : Type} (x : Option (τ1 × τ2 × τ3 × τ4)) (f : τ1 → τ2 → τ3 → τ4 → Option γ) : Option γ := match x with
  | some (a1, a2, a3, a4) => f a1 a2 a3 a4
  | none => none
theorem bind4_e {τ1 τ2 τ3 τ4 γ : Type} {x : Option (τ1 × τ2 × τ3 × τ4)} {f : τ1 → τ2 → τ3 → τ4 → Option γ} {r : γ} (h : bind4 x f = some r) : ∃ a1 a2 a3 a4, x = some (a1, a2, a3, a4) ∧ f a1 a2 a3 a4 = some r := by
  cases x with
  | none => cases h
  | some q => obtain ⟨a1, a2, a3, a4⟩ := q; exact ⟨a1, a2, a3, a4, rfl, h⟩
def bind5 {τ1 τ2 τ3 τ4 τ5 γ : Type} (x : Option (τ1 × τ2 × τ3 × τ4 × τ5)) (f : τ1 → τ2 → τ3 → τ4 → τ5 → Option γ) : Option γ := match x with
  | some (a1, a2, a3, a4, a5) => f a1 a2 a3 a4 a5
  | none => none
theorem bind5_e {τ1 τ2 τ3 τ4 τ5 γ : Type} {x : Option (τ1 × τ2 × τ3 × τ4 × τ5)} {f : τ1 → τ2 → τ3 → τ4 → τ5 → Option γ} {r : γ} (h : bind5 x f = some r) : ∃ a1 a2 a3 a4 a5, x = some (a1, a2, a3, a4, a5) ∧ f a1 a2 a3 a4 a5 = some r := by
  cases x with
  | none => cases h
  | some q => obtain ⟨a1, a2, a3, a4, a5⟩ := q; exact ⟨a1, a2, a3, a4, a5, rfl, h⟩
def bind6 {τ1 τ2 τ3 τ4 τ5 τ6 γ : Type} (x : Option (τ1 × τ2 × τ3 × τ4 × τ5 × τ6)) (f : τ1 → τ2 → τ3 → τ4 → τ5 → τ6 → Option γ) : Option γ := match x with
  | some (a1, a2, a3, a4, a5, a6) => f a1 a2 a3 a4 a5 a6
  | none => none
theorem bind6_e {τ1 τ2 τ3 τ4 τ5 τ6 γ : Type} {x : Option (τ1 × τ2 × τ3 × τ4 × τ5 × τ6)} {f : τ1 → τ2 → τ3 → τ4 → τ5 → τ6 → Option γ} {r : γ} (h : bind6 x f = some r) : ∃ a1 a2 a3 a4 a5 a6, x = some (a1, a2, a3, a4, a5, a6) ∧ f a1 a2 a3 a4 a5 a6 = some r := by
  cases x with
  | none => cases h
  | some q => obtain ⟨a1, a2, a3, a4, a5, a6⟩ := q; exact ⟨a1, a2, a3, a4, a5, a6, rfl, h⟩
def bind7 {τ1 τ2 τ3 τ4 τ5 τ6 τ7 γ : Type} (x : Option (τ1 × τ2 × τ3 × τ4 × τ5 × τ6 × τ7)) (f : τ1 → τ2 → τ3 → τ4 → τ5 → τ6 → τ7 → Option γ) : Option γ := match x with
  | some (a1, a2, a3, a4, a5, a6, a7) => f a1 a2 a3 a4 a5 a6 a7
  | none => none
theorem bind7_e {τ1 τ2 τ3 τ4 τ5 τ6 τ7 γ : Type} {x : Option (τ1 × τ2 × τ3 × τ4 × τ5 × τ6 × τ7)} {f : τ1 → τ2 → τ3 → τ4 → τ5 → τ6 → τ7 → Option γ} {r : γ} (h : bind7 x f = some r) : ∃ a1 a2 a3 a4 a5 a6 a7, x = some (a1, a2, a3, a4, a5, a6, a7) ∧ f a1 a2 a3 a4 a5 a6 a7 = some r := by
  cases x with
  | none => cases h
  | some q => obtain ⟨a1, a2, a3, a4, a5, a6, a7⟩ := q; exact ⟨a1, a2, a3, a4, a5, a6, a7, rfl, h⟩
def bind8 {τ1 τ2 τ3 τ4 τ5 τ6 τ7 τ8 γ : Type} (x : Option (τ1 × τ2 × τ3 × τ4 × τ5 × τ6 × τ7 × τ8)) (f : τ1 → τ2 → τ3 → τ4 → τ5 → τ6 → τ7 → τ8 → Option γ) : Option γ := match x with
  | some (a1, a2, a3, a4, a5, a6, a7, a8) => f a1 a2 a3 a4 a5 a6 a7 a8
  | none => none
theorem bind8_e {τ1 τ2 τ3 τ4 τ5 τ6 τ7 τ8 γ : Type} {x : Option (τ1 × τ2 × τ3 × τ4 × τ5 × τ6 × τ7 × τ8)} {f : τ1 → τ2 → τ3 → τ4 → τ5 → τ6 → τ7 → τ8 → Option γ} {r : γ} (h : bind8 x f = some r) : ∃ a1 a2 a3 a4 a5 a6 a7 a8, x = some (a1, a2, a3, a4, a5, a6, a7, a8) ∧ f a1 a2 a3 a4 a5 a6 a7 a8 = some r := by
  cases x with
  | none => cases h
  | some q => obtain ⟨a1, a2, a3, a4, a5, a6, a7, a8⟩ := q; exact ⟨a1, a2, a3, a4, a5, a6, a7, a8, rfl, h⟩
def bind9 {τ1 τ2 τ3 τ4 τ5 τ6 τ7 τ8 τ9 γ : Type} (x : Option (τ1 × τ2 × τ3 × τ4 × τ5 × τ6 × τ7 × τ8 × τ9)) (f : τ1 → τ2 → τ3 → τ4 → τ5 → τ6 → τ7 → τ8 → τ9 → Option γ) : Option γ := match x with
  | some (a1, a2, a3, a4, a5, a6, a7, a8, a9) => f a1 a2 a3 a4 a5 a6 a7 a8 a9
  | none => none
theorem bind9_e {τ1 τ2 τ3 τ4 τ5 τ6 τ7 τ8 τ9 γ : Type} {x : Option (τ1 × τ2 × τ3 × τ4 × τ5 × τ6 × τ7 × τ8 × τ9)} {f : τ1 → τ2 → τ3 → τ4 → τ5 → τ6 → τ7 → τ8 → τ9 → Option γ} {r : γ} (h : bind9 x f = some r) : ∃ a1 a2 a3 a4 a5 a6 a7 a8 a9, x = some (a1, a2, a3, a4, a5, a6, a7, a8, a9) ∧ f a1 a2 a3 a4 a5 a6 a7 a8 a9 = some r := by
  cases x with
  | none => cases h
  | some q => obtain ⟨a1, a2, a3, a4, a5, a6, a7, a8, a9⟩ := q; exact ⟨a1, a2, a3, a4, a5, a6, a7, a8, a9, rfl, h⟩
theorem topI {p : Program} {l : Launch} {e : Env} {R : Room} {s : State} {m : MethodId} {args : Array Value} {below : List Frame} {meth : Method} {c : Code} {H : Heap} {locs : List Loc} {cells slots : Nat} {Q : State → Prop} {pc : Nat} {ls : Array Slot} {rest : List Value} {γ : Type} {r : γ} {x : Int32} {f : Int32 → Option γ} (h : lt x f = some r) (k : ∀ y : Int32, f y = some r → W p l e R s m args below meth c H locs cells slots Q (F0 m pc ls (.int y :: rest))) : W p l e R s m args below meth c H locs cells slots Q (F0 m pc ls (.int x :: rest)) := k x h
theorem topJ {p : Program} {l : Launch} {e : Env} {R : Room} {s : State} {m : MethodId} {args : Array Value} {below : List Frame} {meth : Method} {c : Code} {H : Heap} {locs : List Loc} {cells slots : Nat} {Q : State → Prop} {pc : Nat} {ls : Array Slot} {rest : List Value} {γ : Type} {r : γ} {x : Int64} {f : Int64 → Option γ} (h : lt x f = some r) (k : ∀ y : Int64, f y = some r → W p l e R s m args below meth c H locs cells slots Q (F0 m pc ls (.long y :: rest))) : W p l e R s m args below meth c H locs cells slots Q (F0 m pc ls (.long x :: rest)) := k x h
theorem topB {p : Program} {l : Launch} {e : Env} {R : Room} {s : State} {m : MethodId} {args : Array Value} {below : List Frame} {meth : Method} {c : Code} {H : Heap} {locs : List Loc} {cells slots : Nat} {Q : State → Prop} {pc : Nat} {ls : Array Slot} {rest : List Value} {γ : Type} {r : γ} {x : Bool} {f : Bool → Option γ} (h : lt x f = some r) (k : ∀ y : Bool, f y = some r → W p l e R s m args below meth c H locs cells slots Q (F0 m pc ls (.int (bI y) :: rest))) : W p l e R s m args below meth c H locs cells slots Q (F0 m pc ls (.int (bI x) :: rest)) := k x h
theorem topR {p : Program} {l : Launch} {e : Env} {R : Room} {s : State} {m : MethodId} {args : Array Value} {below : List Frame} {meth : Method} {c : Code} {H : Heap} {locs : List Loc} {cells slots : Nat} {Q : State → Prop} {pc : Nat} {ls : Array Slot} {rest : List Value} {γ : Type} {r : γ} {x : Option Nat} {f : Option Nat → Option γ} (h : lt x f = some r) (k : ∀ y : Option Nat, f y = some r → W p l e R s m args below meth c H locs cells slots Q (F0 m pc ls (va_rf y :: rest))) : W p l e R s m args below meth c H locs cells slots Q (F0 m pc ls (va_rf x :: rest)) := k x h
theorem inj2 {τ1 τ2 : Type} {a1 b1 : τ1} {a2 b2 : τ2} (h : some (a1, a2) = some (b1, b2)) : a1 = b1 ∧ a2 = b2 := ⟨congrArg (fun q => q.1) (Option.some.inj h), congrArg (fun q => q.2) (Option.some.inj h)⟩
theorem inj3 {τ1 τ2 τ3 : Type} {a1 b1 : τ1} {a2 b2 : τ2} {a3 b3 : τ3} (h : some (a1, a2, a3) = some (b1, b2, b3)) : a1 = b1 ∧ a2 = b2 ∧ a3 = b3 := ⟨congrArg (fun q => q.1) (Option.some.inj h), congrArg (fun q => q.2.1) (Option.some.inj h), congrArg (fun q => q.2.2) (Option.some.inj h)⟩
theorem inj4 {τ1 τ2 τ3 τ4 : Type} {a1 b1 : τ1} {a2 b2 : τ2} {a3 b3 : τ3} {a4 b4 : τ4} (h : some (a1, a2, a3, a4) = some (b1, b2, b3, b4)) : a1 = b1 ∧ a2 = b2 ∧ a3 = b3 ∧ a4 = b4 := ⟨congrArg (fun q => q.1) (Option.some.inj h), congrArg (fun q => q.2.1) (Option.some.inj h), congrArg (fun q => q.2.2.1) (Option.some.inj h), congrArg (fun q => q.2.2.2) (Option.some.inj h)⟩
theorem inj5 {τ1 τ2 τ3 τ4 τ5 : Type} {a1 b1 : τ1} {a2 b2 : τ2} {a3 b3 : τ3} {a4 b4 : τ4} {a5 b5 : τ5} (h : some (a1, a2, a3, a4, a5) = some (b1, b2, b3, b4, b5)) : a1 = b1 ∧ a2 = b2 ∧ a3 = b3 ∧ a4 = b4 ∧ a5 = b5 := ⟨congrArg (fun q => q.1) (Option.some.inj h), congrArg (fun q => q.2.1) (Option.some.inj h), congrArg (fun q => q.2.2.1) (Option.some.inj h), congrArg (fun q => q.2.2.2.1) (Option.some.inj h), congrArg (fun q => q.2.2.2.2) (Option.some.inj h)⟩
theorem inj6 {τ1 τ2 τ3 τ4 τ5 τ6 : Type} {a1 b1 : τ1} {a2 b2 : τ2} {a3 b3 : τ3} {a4 b4 : τ4} {a5 b5 : τ5} {a6 b6 : τ6} (h : some (a1, a2, a3, a4, a5, a6) = some (b1, b2, b3, b4, b5, b6)) : a1 = b1 ∧ a2 = b2 ∧ a3 = b3 ∧ a4 = b4 ∧ a5 = b5 ∧ a6 = b6 := ⟨congrArg (fun q => q.1) (Option.some.inj h), congrArg (fun q => q.2.1) (Option.some.inj h), congrArg (fun q => q.2.2.1) (Option.some.inj h), congrArg (fun q => q.2.2.2.1) (Option.some.inj h), congrArg (fun q => q.2.2.2.2.1) (Option.some.inj h), congrArg (fun q => q.2.2.2.2.2) (Option.some.inj h)⟩
theorem inj7 {τ1 τ2 τ3 τ4 τ5 τ6 τ7 : Type} {a1 b1 : τ1} {a2 b2 : τ2} {a3 b3 : τ3} {a4 b4 : τ4} {a5 b5 : τ5} {a6 b6 : τ6} {a7 b7 : τ7} (h : some (a1, a2, a3, a4, a5, a6, a7) = some (b1, b2, b3, b4, b5, b6, b7)) : a1 = b1 ∧ a2 = b2 ∧ a3 = b3 ∧ a4 = b4 ∧ a5 = b5 ∧ a6 = b6 ∧ a7 = b7 := ⟨congrArg (fun q => q.1) (Option.some.inj h), congrArg (fun q => q.2.1) (Option.some.inj h), congrArg (fun q => q.2.2.1) (Option.some.inj h), congrArg (fun q => q.2.2.2.1) (Option.some.inj h), congrArg (fun q => q.2.2.2.2.1) (Option.some.inj h), congrArg (fun q => q.2.2.2.2.2.1) (Option.some.inj h), congrArg (fun q => q.2.2.2.2.2.2) (Option.some.inj h)⟩
theorem inj8 {τ1 τ2 τ3 τ4 τ5 τ6 τ7 τ8 : Type} {a1 b1 : τ1} {a2 b2 : τ2} {a3 b3 : τ3} {a4 b4 : τ4} {a5 b5 : τ5} {a6 b6 : τ6} {a7 b7 : τ7} {a8 b8 : τ8} (h : some (a1, a2, a3, a4, a5, a6, a7, a8) = some (b1, b2, b3, b4, b5, b6, b7, b8)) : a1 = b1 ∧ a2 = b2 ∧ a3 = b3 ∧ a4 = b4 ∧ a5 = b5 ∧ a6 = b6 ∧ a7 = b7 ∧ a8 = b8 := ⟨congrArg (fun q => q.1) (Option.some.inj h), congrArg (fun q => q.2.1) (Option.some.inj h), congrArg (fun q => q.2.2.1) (Option.some.inj h), congrArg (fun q => q.2.2.2.1) (Option.some.inj h), congrArg (fun q => q.2.2.2.2.1) (Option.some.inj h), congrArg (fun q => q.2.2.2.2.2.1) (Option.some.inj h), congrArg (fun q => q.2.2.2.2.2.2.1) (Option.some.inj h), congrArg (fun q => q.2.2.2.2.2.2.2) (Option.some.inj h)⟩
theorem inj9 {τ1 τ2 τ3 τ4 τ5 τ6 τ7 τ8 τ9 : Type} {a1 b1 : τ1} {a2 b2 : τ2} {a3 b3 : τ3} {a4 b4 : τ4} {a5 b5 : τ5} {a6 b6 : τ6} {a7 b7 : τ7} {a8 b8 : τ8} {a9 b9 : τ9} (h : some (a1, a2, a3, a4, a5, a6, a7, a8, a9) = some (b1, b2, b3, b4, b5, b6, b7, b8, b9)) : a1 = b1 ∧ a2 = b2 ∧ a3 = b3 ∧ a4 = b4 ∧ a5 = b5 ∧ a6 = b6 ∧ a7 = b7 ∧ a8 = b8 ∧ a9 = b9 := ⟨congrArg (fun q => q.1) (Option.some.inj h), congrArg (fun q => q.2.1) (Option.some.inj h), congrArg (fun q => q.2.2.1) (Option.some.inj h), congrArg (fun q => q.2.2.2.1) (Option.some.inj h), congrArg (fun q => q.2.2.2.2.1) (Option.some.inj h), congrArg (fun q => q.2.2.2.2.2.1) (Option.some.inj h), congrArg (fun q => q.2.2.2.2.2.2.1) (Option.some.inj h), congrArg (fun q => q.2.2.2.2.2.2.2.1) (Option.some.inj h), congrArg (fun q => q.2.2.2.2.2.2.2.2) (Option.some.inj h)⟩
def up2 {α : Type} (f : Nat → Nat → α) (k i : Nat) (v : α) : Nat → Nat → α := fun j => if j = k then (fun z => if z = i then v else f k z) else f j
def up1 {α : Type} (f : Nat → Nat → α) (k : Nat) (g : Nat → α) : Nat → Nat → α := fun j => if j = k then g else f j
abbrev imax (a b : Int32) : Int32 := if a < b then b else a
abbrev imin (a b : Int32) : Int32 := if b < a then b else a
abbrev iabs (a : Int32) : Int32 := if 0 ≤ a then a else 0 - a
theorem nar_c {v : Int32} (h : vp_nar .char v = v) : narrow .char (.int v) = .int v := by
  unfold vp_nar at h
  cases e : narrow .char (.int v) <;> rw [e] at h <;> first | (rw [← h]; done) | (dsimp only at h; subst h; rfl) | skip
  all_goals (revert e; simp [narrow])
theorem nar_b {v : Int32} (h : vp_nar .byte v = v) : narrow .byte (.int v) = .int v := by
  unfold vp_nar at h
  cases e : narrow .byte (.int v) <;> rw [e] at h <;> first | (rw [← h]; done) | (dsimp only at h; subst h; rfl) | skip
  all_goals (revert e; simp [narrow])
