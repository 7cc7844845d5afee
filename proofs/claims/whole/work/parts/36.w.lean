/-! THE CLAIM OUT OF ONE WALK OF THE LAW'S BODY. Your part is whole_start (and what it stands on); all else here is the same for every law, but numbers. -/
def R_law : String := "AtThePostLaw"
def lw_P (b : Addr) (xs : List Int32) (args : Array Value) (s : State) : Prop := args = #[.ref b] ∧ s.IntsAt b xs ∧ xs.length ≤ 3072 ∧ (Jvm.Cond.and given_1 narrow_1).before args s = true
def lw_Q (_ : Array Value) (s : State) (o : Outcome) (t : State) : Prop := o = .returned (some (.int 1)) ∧ Framed s o t [] 600000 7302250
def lw_Z (below : List Frame) (a : Array Value) (s : State) : State → Prop := fun t => ∃ o, t.status = .running ∧ Ended t below o ∧ lw_Q a s o t
/-- the law's own end, with 1 on the stack, nothing written that was there before, its room as the claim has it -/
theorem lw_ret {p : Program} {l : Launch} {e : Env} {s : State} {m : MethodId} {below : List Frame} {meth : Method} {c : Code} {b : Nat} (hx : p.tables.exec = Jvm.exec) (hb : c.code = code) (hr : meth.sig.returnType = ret) (hlocks : meth.locks = false) {pc : Nat} {H : Heap} {ls : Array Slot} (hdg : decode code pc = .ok (.ireturn, 1)) : W p l e room_1 s m #[Value.ref b] below meth c H [] 600000 7302250 (lw_Z below #[Value.ref b] s) (F0 m pc ls [.int 1]) := by
  intro T hT X
  obtain ⟨fs, hret, hrun, hended, hW, hframe⟩ := X.leave (v := some (.int 1)) (hlocks := hlocks) (fun h => by rw [hr] at h; cases h)
  have hmeth' : T.vm.method? m = some meth := X.method'
  refine ⟨T.setFrames fs, ?_, .returned (some (.int 1)), hrun, hended, rfl, ⟨_, rfl⟩, hW, hframe⟩
  jvm_step X.here [X.here.top, hx, hb, hdg, hmeth', hr, ret, narrow_b1]
  (try refine ⟨rfl, ?_⟩); (try refine ⟨rfl, ?_⟩)
  first | (intro acts; rw [hret _ acts rfl rfl rfl]) | rw [hret _ _ rfl rfl rfl]
  exact Steps.refl _
/-- what holds at the law's entry: the machine, the code, the tables' words (any of lw_tbl by 'hts w (by decide +kernel)'), the script of L ints xs at the cell b, what the Statement gives of the start (any of its parts by flat_of_before) -/
def lw_At (p : Program) (s : State) (m : MethodId) (meth : Method) (c : Code) (b L : Nat) (xs : Nat → Int32) : Prop :=
  p.tables.exec = Jvm.exec ∧ c.code = code ∧ meth.sig.returnType = ret ∧ c.maxLocals = 4 ∧ s.vm.findClass R_law = some m.cls ∧ (∀ w ∈ lw_tbl, w.before #[Value.ref b] s = true) ∧ va_X b L xs s s.heap ∧ b < s.heap.size ∧ meth.locks = false ∧ (Jvm.Cond.and given_1 narrow_1).before #[Value.ref b] s = true
/-- the two sides' states at the law's start -/
def grow (x : XS) (n : Nat) : XS := (x.1, x.2.1, x.2.2.1, x.2.2.2.1, n)
def INIT (Rel : XS → MS → Prop) : Prop := ∀ β : Nat, ∃ (x0 : XS) (y0 : MS), fX8_tail (x0X β) = some x0 ∧ x0.2.2.2.2 = β + 31 ∧ fX9_tail x0M = some y0 ∧ Rel (grow x0 (β + 61)) y0
set_option maxHeartbeats 4000000 in
set_option maxRecDepth 100000 in
theorem whole_of {Rel : XS → MS → Prop} (SS : STALL Rel) (HI : INIT Rel) {p : Program} {e : Env} {s : State} {m : MethodId} {below : List Frame} {meth : Method} {c : Code} (l : Launch) {b L : Nat} {xs : Nat → Int32} (hL : L ≤ 3072) (C0 : lw_At p s m meth c b L xs) : W p l e room_1 s m #[Value.ref b] below meth c s.heap [] 0 0 (lw_Z below #[Value.ref b] s) (entryFrame m ([Value.ref b] : List Value).toArray 4) := by
  obtain ⟨hx, hb, hr, hml, hown, htw, hX, hbl, hlocks, hgv⟩ := id C0
  obtain ⟨G, hG1, hG2, hK⟩ := kk_start htw hgv
  have hts : ∀ w ∈ GT, w.before #[Value.ref b] s = true := fun w hw => htw w (List.mem_filter.mp hw).1
  have C : Cx p s m #[Value.ref b] meth c RL code 4 ret (KK G) := ⟨hx, hb, hml, hown, hts, hr, hlocks, hK⟩
  obtain ⟨β, eβ⟩ : ∃ β : Nat, β = s.heap.size := ⟨_, rfl⟩
  obtain ⟨x0, y0, hx0, hn0, hy0, hR⟩ := HI β
  have hbA : ¬ (fun q : Nat => β ≤ q) b := by
    show ¬ β ≤ b
    omega
  have hS : va_S (fun q : Nat => β ≤ q) s.heap s.heap [] := va_S.rf
  have hl := lv_entry ([.ref b]) (n := 4) (Nat.le_of_ble_eq_true rfl)
  rw [lg_entry_eq]
  generalize (lg_sl ([.ref b]) ++ List.replicate (4 - (lg_sl ([.ref b])).length) Slot.unset).toArray = ls at hl ⊢
  have hl : lv_has ls 4 [(0, .ref b)] := hl
  have hF0 : Fz (fun q => β ≤ q) G s.heap := ⟨fun q hq => by rw [hG2, ← eβ]; exact hq, fun a _ => by rw [hG1]⟩
  refine x_new (ci := 8) (fs := [.null, .int 0, .null, .int 0, .null, .int 0, .null, .null, .null, .int 0, .int 0, .null, .null, .null, .null, .null, .null, .null, .null]) hx hb hts iwX8 tyX8 tyX8_ok hown (hts (.classLink RL 7 RX8) (tg 19 (by decide +kernel) rfl)) (hts (.instantiable RX8 19) (tg 20 (by decide +kernel) rfl)) (hts (.initialized RX8) (tg 1 (by decide +kernel) rfl)) C.K.1 hS rfl (fun j hj => by rcases (show j = 0 ∨ j = 1 ∨ j = 2 ∨ j = 3 ∨ j = 4 ∨ j = 5 ∨ j = 6 ∨ j = 7 ∨ j = 8 ∨ j = 9 ∨ j = 10 ∨ j = 11 ∨ j = 12 ∨ j = 13 ∨ j = 14 ∨ j = 15 ∨ j = 16 ∨ j = 17 ∨ j = 18 by omega) with rfl | rfl | rfl | rfl | rfl | rfl | rfl | rfl | rfl | rfl | rfl | rfl | rfl | rfl | rfl | rfl | rfl | rfl | rfl <;> rfl) (Nat.le_of_ble_eq_true rfl) (Nat.le_of_ble_eq_true rfl) dL_law_0 (fun H1 hat ho1 hS => ?_)
  rw [← eβ] at hat ⊢
  have hw : LW β G [.inr (8, [.null, .int 0, .null, .int 0, .null, .int 0, .null, .null, .null, .int 0, .int 0, .null, .null, .null, .null, .null, .null, .null, .null])] H1 := ⟨by rw [ho1.1, ← eβ]; rfl, fun k e he => by
    have hk : k < 1 := (List.getElem?_eq_some_iff.mp he).1
    have hk0 : k = 0 := by omega
    subst hk0
    cases he
    exact hat⟩
  have hF1 : Fz (fun q => β ≤ q) G H1 := hF0.keep hS (by rw [hG2]; exact Nat.le_refl _)
  refine W.widen (k := 1) (n := 19) (Nat.le_of_ble_eq_true rfl) (Nat.le_of_ble_eq_true rfl) ?_
  refine lv_dup hx hb dL_law_3 rfl ?_
  refine xcallI C (As := []) (rest := [.ref β]) (nA := 0) (kX8_init (G := G) (β := β) (D := fun q => β ≤ q) (fun k _ => Nat.le_add_right _ _) (fun q hq => Nat.le_trans (Nat.le_add_right _ _) hq) (by rw [hG2, eβ]; exact Nat.le_refl _) hx0) (tg 21 (by decide +kernel) rfl) (tg 22 (by decide +kernel) rfl) (tg 1 (by decide +kernel) rfl) (tg 23 (by decide +kernel) rfl) rfl ⟨by decide +kernel, by decide +kernel, by decide +kernel⟩ rfl rfl ⟨Nat.le_of_ble_eq_true rfl, Nat.le_of_ble_eq_true rfl⟩ ⟨hw, hF1⟩ hS (fun _ q => q) rfl rfl hl.1 (Nat.le_of_ble_eq_true rfl) dL_law_4 ⟨Nat.le_of_ble_eq_true rfl, Nat.le_of_ble_eq_true rfl⟩ (fun H2 locs hw2 hz hk hS => ?_)
  clear hz hk hw hat ho1 hF0 hF1
  refine W.widen (k := 31) (n := 737) (Nat.le_of_ble_eq_true rfl) (Nat.le_of_ble_eq_true rfl) ?_
  refine lv_astore_n (lv' := [(1, .ref β), (0, .ref b)]) hx hb dL_law_7 rfl hl (by decide) rfl (fun ls hl => ?_)
  have hz2 : H2.size = β + 31 := hw2.1.trans hn0
  refine x_new (ci := 9) (fs := [.int 0, .null, .null, .int 0, .int 0, .null, .int 0, .null, .null, .null, .null, .null, .null, .int 0, .null, .int 0, .null, .null, .null, .int 0, .int 0, .null, .int 0, .int 0, .int 0, .int 0, .long 0, .int 0, .int 0, .int 0, .int 0, .int 0, .int 0, .int 0, .int 0, .int 0, .null, .null, .null, .null, .null, .int 0, .null, .null, .null, .null, .null, .null, .int 0, .int 0, .int 0, .int 0, .int 0, .null, .null, .null, .null]) hx hb hts iwX9 tyX9 tyX9_ok hown (hts (.classLink RL 10 RX9) (tg 899 (by decide +kernel) rfl)) (hts (.instantiable RX9 57) (tg 900 (by decide +kernel) rfl)) (hts (.initialized RX9) (tg 14 (by decide +kernel) rfl)) C.K.1 hS rfl (fun j hj => by rcases (show j = 0 ∨ j = 1 ∨ j = 2 ∨ j = 3 ∨ j = 4 ∨ j = 5 ∨ j = 6 ∨ j = 7 ∨ j = 8 ∨ j = 9 ∨ j = 10 ∨ j = 11 ∨ j = 12 ∨ j = 13 ∨ j = 14 ∨ j = 15 ∨ j = 16 ∨ j = 17 ∨ j = 18 ∨ j = 19 ∨ j = 20 ∨ j = 21 ∨ j = 22 ∨ j = 23 ∨ j = 24 ∨ j = 25 ∨ j = 26 ∨ j = 27 ∨ j = 28 ∨ j = 29 ∨ j = 30 ∨ j = 31 ∨ j = 32 ∨ j = 33 ∨ j = 34 ∨ j = 35 ∨ j = 36 ∨ j = 37 ∨ j = 38 ∨ j = 39 ∨ j = 40 ∨ j = 41 ∨ j = 42 ∨ j = 43 ∨ j = 44 ∨ j = 45 ∨ j = 46 ∨ j = 47 ∨ j = 48 ∨ j = 49 ∨ j = 50 ∨ j = 51 ∨ j = 52 ∨ j = 53 ∨ j = 54 ∨ j = 55 ∨ j = 56 by omega) with rfl | rfl | rfl | rfl | rfl | rfl | rfl | rfl | rfl | rfl | rfl | rfl | rfl | rfl | rfl | rfl | rfl | rfl | rfl | rfl | rfl | rfl | rfl | rfl | rfl | rfl | rfl | rfl | rfl | rfl | rfl | rfl | rfl | rfl | rfl | rfl | rfl | rfl | rfl | rfl | rfl | rfl | rfl | rfl | rfl | rfl | rfl | rfl | rfl | rfl | rfl | rfl | rfl | rfl | rfl | rfl | rfl <;> rfl) (Nat.le_of_ble_eq_true rfl) (Nat.le_of_ble_eq_true rfl) dL_law_8 (fun H3 hat ho3 hS => ?_)
  rw [hz2] at hat ⊢
  have hw : LW (β + 31) G [.inr (9, [.int 0, .null, .null, .int 0, .int 0, .null, .int 0, .null, .null, .null, .null, .null, .null, .int 0, .null, .int 0, .null, .null, .null, .int 0, .int 0, .null, .int 0, .int 0, .int 0, .int 0, .long 0, .int 0, .int 0, .int 0, .int 0, .int 0, .int 0, .int 0, .int 0, .int 0, .null, .null, .null, .null, .null, .int 0, .null, .null, .null, .null, .null, .null, .int 0, .int 0, .int 0, .int 0, .int 0, .null, .null, .null, .null])] H3 := ⟨by rw [ho3.1, hz2]; rfl, fun k e he => by
    have hk : k < 1 := (List.getElem?_eq_some_iff.mp he).1
    have hk0 : k = 0 := by omega
    subst hk0
    cases he
    exact hat⟩
  refine W.widen (k := 32) (n := 794) (Nat.le_of_ble_eq_true rfl) (Nat.le_of_ble_eq_true rfl) ?_
  refine lv_dup hx hb dL_law_11 rfl ?_
  refine xcallI C (As := []) (rest := [.ref (β + 31)]) (nA := 0) (kX9_init (G := G) (β := β + 31) (N := β + 61) (by omega) hy0) (tg 901 (by decide +kernel) rfl) (tg 902 (by decide +kernel) rfl) (tg 14 (by decide +kernel) rfl) (tg 903 (by decide +kernel) rfl) rfl ⟨by decide +kernel, by decide +kernel, by decide +kernel⟩ rfl rfl ⟨Nat.le_of_ble_eq_true rfl, Nat.le_of_ble_eq_true rfl⟩ hw hS (fun q hq => by have := hq.1; show β ≤ q; omega) rfl rfl hl.1 (Nat.le_of_ble_eq_true rfl) dL_law_12 ⟨Nat.le_of_ble_eq_true rfl, Nat.le_of_ble_eq_true rfl⟩ (fun H4 locs hw4 hz hk hS => ?_)
  refine W.widen (k := 61) (n := 2553) (Nat.le_of_ble_eq_true rfl) (Nat.le_of_ble_eq_true rfl) ?_
  refine lv_astore_n (lv' := [(2, .ref (β + 31)), (1, .ref β), (0, .ref b)]) hx hb dL_law_15 rfl hl (by decide) rfl (fun ls hl => ?_)
  refine lv_iconst (v := 0) hx hb dL_law_16 (by decide) ?_
  refine lv_istore_n (lv' := [(3, .int 0), (2, .ref (β + 31)), (1, .ref β), (0, .ref b)]) hx hb dL_law_17 rfl hl (by decide) rfl (fun ls hl => ?_)
  have kept : ∀ q : Nat, q < β + 31 → H4[q]? = H2[q]? := fun q hq => (hk q (by have := ho3.1; omega) (fun h => by have := h.1; omega)).trans (ho3.2 q (by omega))
  have hp : LPc β G (grow x0 (β + 61)) y0 H4 := by
    obtain ⟨g1, g2, g3, g4, g5, g6⟩ := hw2
    have hz4 : H4.size = β + 61 := hw4.1
    refine ⟨⟨hz4, fun k hk => Or.inl ⟨Nat.le_add_right _ _, by omega⟩, fun k hk => (g3 k hk).kept (kept _ (by omega)), fun a d ha => ?_, fun q hq => ?_, fun a ha => ?_⟩, hw4, by omega⟩
    · obtain ⟨q1, q2, q3, q4⟩ := g4 a d ha
      have q3' : a < β + 31 := by rw [← hn0]; exact q3
      refine ⟨Or.inl ⟨by omega, q3'⟩, q2, ?_, q4.kept (kept _ q3')⟩
      show a < β + 61
      omega
    · refine g5 q ?_
      rcases hq with h | h
      · exact h.1
      · show β ≤ q
        omega
    · have ha' : a < β := by rw [eβ, ← hG2]; exact ha
      exact (kept a (by omega)).trans (g6 a ha)
  refine law_loop SS C (A := fun q => β ≤ q) (fun q hq => by rcases hq with h | h; exact h.1; show β ≤ q; omega) (fun q hq => by have := hq.1; show β ≤ q; omega) hX hbl hbA hL (L / 6 + 2) 0 61 2553 (grow x0 (β + 61)) y0 H4 locs ls (Nat.zero_le _) (by omega) (by omega) (by omega) hp hR hS (lv_sub hl [3, 2, 1, 0] rfl) ?_
  intro H locs ls cells slots hS h1 h2
  refine va_forget (fun q hq => by have := hS.2.2 q hq; rw [← eβ]; exact this) ?_
  refine lv_iconst (v := 1) hx hb dL_law_1391 (by decide) ?_
  refine W.widen (k := 600000) (n := 7302250) h1 h2 ?_
  exact lw_ret hx hb hr hlocks dL_law_1392
