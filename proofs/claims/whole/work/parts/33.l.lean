def ST0 (Rel : XS → MS → Prop) : Prop := ∀ (x : XS) (y : MS) (a1 : Int32) (a2 : Int32) (a3 : Int32), Rel x y → ∃ (r : Int32) (x' : XS) (y' : MS), fX8_horse x a1 a2 a3 = some (r, x') ∧ fX9_horse y a1 a2 a3 = some (r, y') ∧ Rel x' y'
def ST1 (Rel : XS → MS → Prop) : Prop := ∀ (x : XS) (y : MS) (a1 : Int32) (a2 : Int32) (a3 : Int32), Rel x y → ∃ (r : Int32) (x' : XS) (y' : MS), fX8_set x a1 a2 a3 = some (r, x') ∧ fX9_set y a1 a2 a3 = some (r, y') ∧ Rel x' y'
def ST2 (Rel : XS → MS → Prop) : Prop := ∀ (x : XS) (y : MS) (a1 : Int32) (a2 : Int32), Rel x y → ∃ (r : Int32) (x' : XS) (y' : MS), fX8_pound x a1 a2 = some (r, x') ∧ fX9_pound y a1 a2 = some (r, y') ∧ Rel x' y'
def ST3 (Rel : XS → MS → Prop) : Prop := ∀ (x : XS) (y : MS) (a1 : Int32) (a2 : Int32) (a3 : Int32), Rel x y → ∃ (r : Int64), fX8_form x a1 a2 a3 = some r ∧ fX9_form y a1 a2 a3 = some r ∧ Rel x y
def ST4 (Rel : XS → MS → Prop) : Prop := ∀ (x : XS) (y : MS) (a1 : Int32) (a2 : Int32), Rel x y → ∃ (r : Int32) (x' : XS) (y' : MS), fX8_told x a1 a2 = some (r, x') ∧ fX9_told y a1 a2 = some (r, y') ∧ Rel x' y'
def ST5 (Rel : XS → MS → Prop) : Prop := ∀ (x : XS) (y : MS) (a1 : Int32) (a2 : Int32) (a3 : Int32) (a4 : Int32), Rel x y → ∃ (r : Int64) (x' : XS) (y' : MS), fX8_wins x a1 a2 a3 a4 = some (r, x') ∧ fX9_wins y a1 a2 a3 a4 = some (r, y') ∧ Rel x' y'
def ST6 (Rel : XS → MS → Prop) : Prop := ∀ (x : XS) (y : MS) (a1 : Int32) (a2 : Int32) (a3 : Int32) (a4 : Int32), Rel x y → ∃ (r : Int64) (x' : XS) (y' : MS), fX8_comes x a1 a2 a3 a4 = some (r, x') ∧ fX9_comes y a1 a2 a3 a4 = some (r, y') ∧ Rel x' y'
def ST7 (Rel : XS → MS → Prop) : Prop := ∀ (x : XS) (y : MS) (a1 : Int32) (a2 : Int32) (a3 : Int32) (a4 : Int32) (a5 : Int32), Rel x y → ∃ (r : Int64) (x' : XS) (y' : MS), fX8_worse x a1 a2 a3 a4 a5 = some (r, x') ∧ fX9_worse y a1 a2 a3 a4 a5 = some (r, y') ∧ Rel x' y'
def ST8 (Rel : XS → MS → Prop) : Prop := ∀ (x : XS) (y : MS) (a1 : Int32) (a2 : Int32) (a3 : Int32), Rel x y → ∃ (r : Int64) (x' : XS) (y' : MS), fX8_even x a1 a2 a3 = some (r, x') ∧ fX9_even y a1 a2 a3 = some (r, y') ∧ Rel x' y'
def ST9 (Rel : XS → MS → Prop) : Prop := ∀ (x : XS) (y : MS) (a1 : Int32) (a2 : Int32) (a3 : Int32), Rel x y → ∃ (r : Int64) (x' : XS) (y' : MS), fX8_near x a1 a2 a3 = some (r, x') ∧ fX9_near y a1 a2 a3 = some (r, y') ∧ Rel x' y'
def ST10 (Rel : XS → MS → Prop) : Prop := ∀ (x : XS) (y : MS) (a1 : Int32) (a2 : Int32), Rel x y → ∃ (r : Int32) (x' : XS) (y' : MS), fX8_lay x a1 a2 = some (r, x') ∧ fX9_lay y a1 a2 = some (r, y') ∧ Rel x' y'
def ST11 (Rel : XS → MS → Prop) : Prop := ∀ (x : XS) (y : MS) (a1 : Int32) (a2 : Int64), Rel x y → ∃ (r : Int32) (x' : XS) (y' : MS), fX8_feed x a1 a2 = some (r, x') ∧ fX9_feed y a1 a2 = some (r, y') ∧ Rel x' y'
def ST12 (Rel : XS → MS → Prop) : Prop := ∀ (x : XS) (y : MS), Rel x y → ∃ (r : Int32) (x' : XS) (y' : MS), fX8_text x = some (r, x') ∧ fX9_text y = some (r, y') ∧ Rel x' y'
def ST13 (Rel : XS → MS → Prop) : Prop := ∀ (x : XS) (y : MS) (a1 : Int32), Rel x y → ∃ (r : Int32) (x' : XS) (y' : MS), fX8_force x a1 = some (r, x') ∧ fX9_force y a1 = some (r, y') ∧ Rel x' y'
def ST14 (Rel : XS → MS → Prop) : Prop := ∀ (x : XS) (y : MS) (a1 : Int32) (a2 : Int32) (a3 : Int32), Rel x y → ∃ (r : Int32) (x' : XS) (y' : MS), fX8_race x a1 a2 a3 = some (r, x') ∧ fX9_race y a1 a2 a3 = some (r, y') ∧ Rel x' y'
def ST15 (Rel : XS → MS → Prop) : Prop := ∀ (x : XS) (y : MS) (a1 : Int32) (a2 : Int32), Rel x y → ∃ (r : Int32), fX8_raceTold x a1 a2 = some r ∧ fX9_raceTold y a1 a2 = some r ∧ Rel x y
def ST16 (Rel : XS → MS → Prop) : Prop := ∀ (x : XS) (y : MS) (a1 : Int32) (a2 : Int32), Rel x y → ∃ (r : Int32), fX8_against x a1 a2 = some r ∧ fX9_against y a1 a2 = some r ∧ Rel x y
def ST17 (Rel : XS → MS → Prop) : Prop := ∀ (x : XS) (y : MS) (a1 : Int32), Rel x y → ∃ (r : Int32), fX8_learnt x a1 = some r ∧ fX9_learnt y a1 = some r ∧ Rel x y
def ST18 (Rel : XS → MS → Prop) : Prop := ∀ (x : XS) (y : MS) (a1 : Int32) (a2 : Int32) (a3 : Int32), Rel x y → ∃ (r : Int32), fX8_pair x a1 a2 a3 = some r ∧ fX9_pair y a1 a2 a3 = some r ∧ Rel x y
def ST19 (Rel : XS → MS → Prop) : Prop := ∀ (x : XS) (y : MS) (a1 : Int32) (a2 : Int32) (a3 : Int32) (a4 : Int32) (a5 : Int32), Rel x y → ∃ (r : Int64) (x' : XS) (y' : MS), fX8_holding x a1 a2 a3 a4 a5 = some (r, x') ∧ fX9_holding y a1 a2 a3 a4 a5 = some (r, y') ∧ Rel x' y'
def ST20 (Rel : XS → MS → Prop) : Prop := ∀ (x : XS) (y : MS) (a1 : Int32) (a2 : Int32) (a3 : Int32), Rel x y → ∃ (r : Int32), fX8_yards x a1 a2 a3 = some r ∧ fX9_yards y a1 a2 a3 = some r ∧ Rel x y
def ST21 (Rel : XS → MS → Prop) : Prop := ∀ (x : XS) (y : MS) (a1 : Int32) (a2 : Int32) (a3 : Int32) (a4 : Int32) (a5 : Int32), Rel x y → ∃ (r : Int32) (x' : XS) (y' : MS), fX8_season x a1 a2 a3 a4 a5 = some (r, x') ∧ fX9_season y a1 a2 a3 a4 a5 = some (r, y') ∧ Rel x' y'
def ST22 (Rel : XS → MS → Prop) : Prop := ∀ (x : XS) (y : MS), Rel x y → ∃ (r : Int32) (x' : XS) (y' : MS), fX8_image x = some (r, x') ∧ fX9_image y = some (r, y') ∧ Rel x' y'
def ST23 (Rel : XS → MS → Prop) : Prop := ∀ (x : XS) (y : MS), Rel x y → ∃ (r : Int32) (x' : XS) (y' : MS), fX8_back x = some (r, x') ∧ fX9_back y = some (r, y') ∧ Rel x' y'
def ST24 (Rel : XS → MS → Prop) : Prop := ∀ (x : XS) (y : MS) (a1 : Int32), Rel x y → ∃ (r : Int32), fX8_count x a1 = some r ∧ fX9_count y a1 = some r ∧ Rel x y
def ST25 (Rel : XS → MS → Prop) : Prop := ∀ (x : XS) (y : MS) (a1 : Int32) (a2 : Int32) (a3 : Int32), Rel x y → ∃ (r : Int32) (x' : XS) (y' : MS), fX8_sheet x a1 a2 a3 = some (r, x') ∧ fX9_sheet y a1 a2 a3 = some (r, y') ∧ Rel x' y'
def ST26 (Rel : XS → MS → Prop) : Prop := ∀ (x : XS) (y : MS) (a1 : Int32) (a2 : Int32) (a3 : Int32), Rel x y → ∃ (r : Int32) (x' : XS) (y' : MS), fX8_cell x a1 a2 a3 = some (r, x') ∧ fX9_cell y a1 a2 a3 = some (r, y') ∧ Rel x' y'
def ST27 (Rel : XS → MS → Prop) : Prop := ∀ (x : XS) (y : MS) (a1 : Int32) (a2 : Int32) (a3 : Int32) (a4 : Int32) (a5 : Int32), Rel x y → ∃ (r : Int32) (x' : XS) (y' : MS), fX8_copy x a1 a2 a3 a4 a5 = some (r, x') ∧ fX9_copy y a1 a2 a3 a4 a5 = some (r, y') ∧ Rel x' y'
def ST28 (Rel : XS → MS → Prop) : Prop := ∀ (x : XS) (y : MS) (a1 : Int32) (a2 : Int32) (a3 : Int32) (a4 : Int32), Rel x y → ∃ (r : Int32) (x' : XS) (y' : MS), fX8_horses x a1 a2 a3 a4 = some (r, x') ∧ fX9_horses y a1 a2 a3 a4 = some (r, y') ∧ Rel x' y'
def ST29 (Rel : XS → MS → Prop) : Prop := ∀ (x : XS) (y : MS) (a1 : Int32) (a2 : Int32), Rel x y → ∃ (r : Int32), fX8_taken x a1 a2 = some r ∧ fX9_taken y a1 a2 = some r ∧ Rel x y
set_option maxHeartbeats 4000000 in
set_option maxRecDepth 100000 in
theorem LC0 {p : Program} {l : Launch} {e : Env} {s : State} {m : MethodId} {args : Array Value} {below : List Frame} {meth : Method} {c : Code} {Q : State → Prop} {G : xG} {β b L i cells slots : Nat} {A : Nat → Prop} {xs : Nat → Int32} {ret : Option FieldType} {Rel : XS → MS → Prop} {x : XS} {y : MS} {H : Heap} {locs : List Loc} {ls : Array Slot} (S0 : ST0 Rel) (C : Cx p s m args meth c RL code 4 ret (KK G)) (hDA : ∀ q, DL β q → A q) (hMA : ∀ q, AM (β + 31) q → A q) (hX : va_X b L xs s s.heap) (hbl : b < s.heap.size) (hbA : ¬ A b) (hi : i + 6 ≤ L) (hL : L ≤ 3072) (hcs : cells + 11 ≤ room_1.cells ∧ slots + 207 ≤ room_1.slots) (hp : LPc β G x y H) (hr : Rel x y) (hS : va_S A s.heap H locs) (hl : lv_has ls 4 [(0, .ref b), (1, .ref β), (2, .ref (β + 31)), (3, .int (nI i))]) (kk : ∀ (x : XS) (y : MS) (H : Heap) (locs : List Loc), LPc β G x y H → Rel x y → va_S A s.heap H locs → W p l e room_1 s m args below meth c H locs (cells + 11) (slots + 207) Q (F0 m 1385 ls [])) : W p l e room_1 s m args below meth c H locs cells slots Q (F0 m 168 ls []) := by
  have hx := C.1
  have hb := C.2.1
  have ho := C.2.2.2.1
  have hts := C.2.2.2.2.1
  obtain ⟨r, x1, y1, h1, h2, hr⟩ := S0 x y (xs (nI i + nI 1).toNatClampNeg) (xs (nI i + nI 2).toNatClampNeg) (xs (nI i + nI 3).toNatClampNeg) hr
  refine lv_aload_n hx hb dL_law_168 rfl (lv_at hl 1 rfl) ?_
  refine lv_aload_n hx hb dL_law_169 rfl (lv_at hl 0 rfl) ?_
  refine lv_iload_n hx hb dL_law_170 rfl (lv_at hl 3 rfl) ?_
  refine lv_iconst (v := nI 1) hx hb dL_law_171 (by decide) ?_
  refine lv_iadd hx hb dL_law_172 ?_
  refine va_sld hx hb hX hbl hbA hS (lw_idx hi (by decide) hL) dL_law_173 ?_
  refine lv_aload_n hx hb dL_law_174 rfl (lv_at hl 0 rfl) ?_
  refine lv_iload_n hx hb dL_law_175 rfl (lv_at hl 3 rfl) ?_
  refine lv_iconst (v := nI 2) hx hb dL_law_176 (by decide) ?_
  refine lv_iadd hx hb dL_law_177 ?_
  refine va_sld hx hb hX hbl hbA hS (lw_idx hi (by decide) hL) dL_law_178 ?_
  refine lv_aload_n hx hb dL_law_179 rfl (lv_at hl 0 rfl) ?_
  refine lv_iload_n hx hb dL_law_180 rfl (lv_at hl 3 rfl) ?_
  refine lv_iconst (v := nI 3) hx hb dL_law_181 (by decide) ?_
  refine lv_iadd hx hb dL_law_182 ?_
  refine va_sld hx hb hX hbl hbA hS (lw_idx hi (by decide) hL) dL_law_183 ?_
  refine sL_13 (γ := 0) (N := 0) C (hA := fun q hq => hDA q hq) (hn := fun q h => Or.inr (Nat.le_trans hp.2.2 (by rw [hp.1.1]; exact h))) h1 hp.1 hS hl.1 (Nat.le_of_ble_eq_true rfl) (Nat.le_of_ble_eq_true rfl) (Nat.le_of_ble_eq_true rfl) (by omega) dL_law_184 (fun H1 locs hw hz hk hS => ?_)
  replace hp := hp.x hw hz hk
  clear hw hz hk
  refine lv_aload_n hx hb dL_law_187 rfl (lv_at hl 2 rfl) ?_
  refine lv_aload_n hx hb dL_law_188 rfl (lv_at hl 0 rfl) ?_
  refine lv_iload_n hx hb dL_law_189 rfl (lv_at hl 3 rfl) ?_
  refine lv_iconst (v := nI 1) hx hb dL_law_190 (by decide) ?_
  refine lv_iadd hx hb dL_law_191 ?_
  refine va_sld hx hb hX hbl hbA hS (lw_idx hi (by decide) hL) dL_law_192 ?_
  refine lv_aload_n hx hb dL_law_193 rfl (lv_at hl 0 rfl) ?_
  refine lv_iload_n hx hb dL_law_194 rfl (lv_at hl 3 rfl) ?_
  refine lv_iconst (v := nI 2) hx hb dL_law_195 (by decide) ?_
  refine lv_iadd hx hb dL_law_196 ?_
  refine va_sld hx hb hX hbl hbA hS (lw_idx hi (by decide) hL) dL_law_197 ?_
  refine lv_aload_n hx hb dL_law_198 rfl (lv_at hl 0 rfl) ?_
  refine lv_iload_n hx hb dL_law_199 rfl (lv_at hl 3 rfl) ?_
  refine lv_iconst (v := nI 3) hx hb dL_law_200 (by decide) ?_
  refine lv_iadd hx hb dL_law_201 ?_
  refine va_sld hx hb hX hbl hbA hS (lw_idx hi (by decide) hL) dL_law_202 ?_
  refine sL_17 (β := 0) (D := fun _ => False) C (hA := fun q hq => hMA q hq) h2 hp.2.1 hS hl.1 (Nat.le_of_ble_eq_true rfl) (Nat.le_of_ble_eq_true rfl) (Nat.le_of_ble_eq_true rfl) (by omega) dL_law_203 (fun H1 locs hw hz hk hS => ?_)
  replace hp := hp.m hw hk
  clear hw hz hk
  refine lv_icmp_eq (tgt := 1385) hx hb dL_law_206 (by decide) (fun cc => ?_) (fun cc => ?_)
  · refine W.widen (k := cells + 11) (n := slots + 207) (by omega) (by omega) ?_
    exact kk _ _ _ _ hp hr hS
  · exact absurd rfl cc
set_option maxHeartbeats 4000000 in
set_option maxRecDepth 100000 in
theorem LC1 {p : Program} {l : Launch} {e : Env} {s : State} {m : MethodId} {args : Array Value} {below : List Frame} {meth : Method} {c : Code} {Q : State → Prop} {G : xG} {β b L i cells slots : Nat} {A : Nat → Prop} {xs : Nat → Int32} {ret : Option FieldType} {Rel : XS → MS → Prop} {x : XS} {y : MS} {H : Heap} {locs : List Loc} {ls : Array Slot} (S0 : ST1 Rel) (C : Cx p s m args meth c RL code 4 ret (KK G)) (hDA : ∀ q, DL β q → A q) (hMA : ∀ q, AM (β + 31) q → A q) (hX : va_X b L xs s s.heap) (hbl : b < s.heap.size) (hbA : ¬ A b) (hi : i + 6 ≤ L) (hL : L ≤ 3072) (hcs : cells + 11 ≤ room_1.cells ∧ slots + 207 ≤ room_1.slots) (hp : LPc β G x y H) (hr : Rel x y) (hS : va_S A s.heap H locs) (hl : lv_has ls 4 [(0, .ref b), (1, .ref β), (2, .ref (β + 31)), (3, .int (nI i))]) (kk : ∀ (x : XS) (y : MS) (H : Heap) (locs : List Loc), LPc β G x y H → Rel x y → va_S A s.heap H locs → W p l e room_1 s m args below meth c H locs (cells + 11) (slots + 207) Q (F0 m 1385 ls [])) : W p l e room_1 s m args below meth c H locs cells slots Q (F0 m 211 ls []) := by
  have hx := C.1
  have hb := C.2.1
  have ho := C.2.2.2.1
  have hts := C.2.2.2.2.1
  obtain ⟨r, x1, y1, h1, h2, hr⟩ := S0 x y (xs (nI i + nI 1).toNatClampNeg) (xs (nI i + nI 2).toNatClampNeg) (xs (nI i + nI 3).toNatClampNeg) hr
  refine lv_aload_n hx hb dL_law_211 rfl (lv_at hl 1 rfl) ?_
  refine lv_aload_n hx hb dL_law_212 rfl (lv_at hl 0 rfl) ?_
  refine lv_iload_n hx hb dL_law_213 rfl (lv_at hl 3 rfl) ?_
  refine lv_iconst (v := nI 1) hx hb dL_law_214 (by decide) ?_
  refine lv_iadd hx hb dL_law_215 ?_
  refine va_sld hx hb hX hbl hbA hS (lw_idx hi (by decide) hL) dL_law_216 ?_
  refine lv_aload_n hx hb dL_law_217 rfl (lv_at hl 0 rfl) ?_
  refine lv_iload_n hx hb dL_law_218 rfl (lv_at hl 3 rfl) ?_
  refine lv_iconst (v := nI 2) hx hb dL_law_219 (by decide) ?_
  refine lv_iadd hx hb dL_law_220 ?_
  refine va_sld hx hb hX hbl hbA hS (lw_idx hi (by decide) hL) dL_law_221 ?_
  refine lv_aload_n hx hb dL_law_222 rfl (lv_at hl 0 rfl) ?_
  refine lv_iload_n hx hb dL_law_223 rfl (lv_at hl 3 rfl) ?_
  refine lv_iconst (v := nI 3) hx hb dL_law_224 (by decide) ?_
  refine lv_iadd hx hb dL_law_225 ?_
  refine va_sld hx hb hX hbl hbA hS (lw_idx hi (by decide) hL) dL_law_226 ?_
  refine sL_18 (γ := 0) (N := 0) C (hA := fun q hq => hDA q hq) h1 hp.1 hS hl.1 (Nat.le_of_ble_eq_true rfl) (Nat.le_of_ble_eq_true rfl) (Nat.le_of_ble_eq_true rfl) (by omega) dL_law_227 (fun H1 locs hw hz hk hS => ?_)
  replace hp := hp.x hw hz hk
  clear hw hz hk
  refine lv_aload_n hx hb dL_law_230 rfl (lv_at hl 2 rfl) ?_
  refine lv_aload_n hx hb dL_law_231 rfl (lv_at hl 0 rfl) ?_
  refine lv_iload_n hx hb dL_law_232 rfl (lv_at hl 3 rfl) ?_
  refine lv_iconst (v := nI 1) hx hb dL_law_233 (by decide) ?_
  refine lv_iadd hx hb dL_law_234 ?_
  refine va_sld hx hb hX hbl hbA hS (lw_idx hi (by decide) hL) dL_law_235 ?_
  refine lv_aload_n hx hb dL_law_236 rfl (lv_at hl 0 rfl) ?_
  refine lv_iload_n hx hb dL_law_237 rfl (lv_at hl 3 rfl) ?_
  refine lv_iconst (v := nI 2) hx hb dL_law_238 (by decide) ?_
  refine lv_iadd hx hb dL_law_239 ?_
  refine va_sld hx hb hX hbl hbA hS (lw_idx hi (by decide) hL) dL_law_240 ?_
  refine lv_aload_n hx hb dL_law_241 rfl (lv_at hl 0 rfl) ?_
  refine lv_iload_n hx hb dL_law_242 rfl (lv_at hl 3 rfl) ?_
  refine lv_iconst (v := nI 3) hx hb dL_law_243 (by decide) ?_
  refine lv_iadd hx hb dL_law_244 ?_
  refine va_sld hx hb hX hbl hbA hS (lw_idx hi (by decide) hL) dL_law_245 ?_
  refine sL_21 (β := 0) (D := fun _ => False) C (hA := fun q hq => hMA q hq) h2 hp.2.1 hS hl.1 (Nat.le_of_ble_eq_true rfl) (Nat.le_of_ble_eq_true rfl) (Nat.le_of_ble_eq_true rfl) (by omega) dL_law_246 (fun H1 locs hw hz hk hS => ?_)
  replace hp := hp.m hw hk
  clear hw hz hk
  refine lv_icmp_eq (tgt := 1385) hx hb dL_law_249 (by decide) (fun cc => ?_) (fun cc => ?_)
  · refine W.widen (k := cells + 11) (n := slots + 207) (by omega) (by omega) ?_
    exact kk _ _ _ _ hp hr hS
  · exact absurd rfl cc
set_option maxHeartbeats 4000000 in
set_option maxRecDepth 100000 in
theorem LC2 {p : Program} {l : Launch} {e : Env} {s : State} {m : MethodId} {args : Array Value} {below : List Frame} {meth : Method} {c : Code} {Q : State → Prop} {G : xG} {β b L i cells slots : Nat} {A : Nat → Prop} {xs : Nat → Int32} {ret : Option FieldType} {Rel : XS → MS → Prop} {x : XS} {y : MS} {H : Heap} {locs : List Loc} {ls : Array Slot} (S0 : ST2 Rel) (C : Cx p s m args meth c RL code 4 ret (KK G)) (hDA : ∀ q, DL β q → A q) (hMA : ∀ q, AM (β + 31) q → A q) (hX : va_X b L xs s s.heap) (hbl : b < s.heap.size) (hbA : ¬ A b) (hi : i + 6 ≤ L) (hL : L ≤ 3072) (hcs : cells + 11 ≤ room_1.cells ∧ slots + 207 ≤ room_1.slots) (hp : LPc β G x y H) (hr : Rel x y) (hS : va_S A s.heap H locs) (hl : lv_has ls 4 [(0, .ref b), (1, .ref β), (2, .ref (β + 31)), (3, .int (nI i))]) (kk : ∀ (x : XS) (y : MS) (H : Heap) (locs : List Loc), LPc β G x y H → Rel x y → va_S A s.heap H locs → W p l e room_1 s m args below meth c H locs (cells + 11) (slots + 207) Q (F0 m 1385 ls [])) : W p l e room_1 s m args below meth c H locs cells slots Q (F0 m 254 ls []) := by
  have hx := C.1
  have hb := C.2.1
  have ho := C.2.2.2.1
  have hts := C.2.2.2.2.1
  obtain ⟨r, x1, y1, h1, h2, hr⟩ := S0 x y (xs (nI i + nI 1).toNatClampNeg) (xs (nI i + nI 2).toNatClampNeg) hr
  refine lv_aload_n hx hb dL_law_254 rfl (lv_at hl 1 rfl) ?_
  refine lv_aload_n hx hb dL_law_255 rfl (lv_at hl 0 rfl) ?_
  refine lv_iload_n hx hb dL_law_256 rfl (lv_at hl 3 rfl) ?_
  refine lv_iconst (v := nI 1) hx hb dL_law_257 (by decide) ?_
  refine lv_iadd hx hb dL_law_258 ?_
  refine va_sld hx hb hX hbl hbA hS (lw_idx hi (by decide) hL) dL_law_259 ?_
  refine lv_aload_n hx hb dL_law_260 rfl (lv_at hl 0 rfl) ?_
  refine lv_iload_n hx hb dL_law_261 rfl (lv_at hl 3 rfl) ?_
  refine lv_iconst (v := nI 2) hx hb dL_law_262 (by decide) ?_
  refine lv_iadd hx hb dL_law_263 ?_
  refine va_sld hx hb hX hbl hbA hS (lw_idx hi (by decide) hL) dL_law_264 ?_
  refine sL_22 (γ := 0) (N := 0) C (hA := fun q hq => hDA q hq) h1 hp.1 hS hl.1 (Nat.le_of_ble_eq_true rfl) (Nat.le_of_ble_eq_true rfl) (Nat.le_of_ble_eq_true rfl) (by omega) dL_law_265 (fun H1 locs hw hz hk hS => ?_)
  replace hp := hp.x hw hz hk
  clear hw hz hk
  refine lv_aload_n hx hb dL_law_268 rfl (lv_at hl 2 rfl) ?_
  refine lv_aload_n hx hb dL_law_269 rfl (lv_at hl 0 rfl) ?_
  refine lv_iload_n hx hb dL_law_270 rfl (lv_at hl 3 rfl) ?_
  refine lv_iconst (v := nI 1) hx hb dL_law_271 (by decide) ?_
  refine lv_iadd hx hb dL_law_272 ?_
  refine va_sld hx hb hX hbl hbA hS (lw_idx hi (by decide) hL) dL_law_273 ?_
  refine lv_aload_n hx hb dL_law_274 rfl (lv_at hl 0 rfl) ?_
  refine lv_iload_n hx hb dL_law_275 rfl (lv_at hl 3 rfl) ?_
  refine lv_iconst (v := nI 2) hx hb dL_law_276 (by decide) ?_
  refine lv_iadd hx hb dL_law_277 ?_
  refine va_sld hx hb hX hbl hbA hS (lw_idx hi (by decide) hL) dL_law_278 ?_
  refine sL_26 (β := 0) (D := fun _ => False) C (hA := fun q hq => hMA q hq) h2 hp.2.1 hS hl.1 (Nat.le_of_ble_eq_true rfl) (Nat.le_of_ble_eq_true rfl) (Nat.le_of_ble_eq_true rfl) (by omega) dL_law_279 (fun H1 locs hw hz hk hS => ?_)
  replace hp := hp.m hw hk
  clear hw hz hk
  refine lv_icmp_eq (tgt := 1385) hx hb dL_law_282 (by decide) (fun cc => ?_) (fun cc => ?_)
  · refine W.widen (k := cells + 11) (n := slots + 207) (by omega) (by omega) ?_
    exact kk _ _ _ _ hp hr hS
  · exact absurd rfl cc
set_option maxHeartbeats 4000000 in
set_option maxRecDepth 100000 in
theorem LC3 {p : Program} {l : Launch} {e : Env} {s : State} {m : MethodId} {args : Array Value} {below : List Frame} {meth : Method} {c : Code} {Q : State → Prop} {G : xG} {β b L i cells slots : Nat} {A : Nat → Prop} {xs : Nat → Int32} {ret : Option FieldType} {Rel : XS → MS → Prop} {x : XS} {y : MS} {H : Heap} {locs : List Loc} {ls : Array Slot} (S0 : ST3 Rel) (C : Cx p s m args meth c RL code 4 ret (KK G)) (hDA : ∀ q, DL β q → A q) (hMA : ∀ q, AM (β + 31) q → A q) (hX : va_X b L xs s s.heap) (hbl : b < s.heap.size) (hbA : ¬ A b) (hi : i + 6 ≤ L) (hL : L ≤ 3072) (hcs : cells + 11 ≤ room_1.cells ∧ slots + 207 ≤ room_1.slots) (hp : LPc β G x y H) (hr : Rel x y) (hS : va_S A s.heap H locs) (hl : lv_has ls 4 [(0, .ref b), (1, .ref β), (2, .ref (β + 31)), (3, .int (nI i))]) (kk : ∀ (x : XS) (y : MS) (H : Heap) (locs : List Loc), LPc β G x y H → Rel x y → va_S A s.heap H locs → W p l e room_1 s m args below meth c H locs (cells + 11) (slots + 207) Q (F0 m 1385 ls [])) : W p l e room_1 s m args below meth c H locs cells slots Q (F0 m 287 ls []) := by
  have hx := C.1
  have hb := C.2.1
  have ho := C.2.2.2.1
  have hts := C.2.2.2.2.1
  obtain ⟨r, h1, h2, hr⟩ := S0 x y (xs (nI i + nI 1).toNatClampNeg) (xs (nI i + nI 2).toNatClampNeg) (xs (nI i + nI 3).toNatClampNeg) hr
  refine lv_aload_n hx hb dL_law_287 rfl (lv_at hl 1 rfl) ?_
  refine lv_aload_n hx hb dL_law_288 rfl (lv_at hl 0 rfl) ?_
  refine lv_iload_n hx hb dL_law_289 rfl (lv_at hl 3 rfl) ?_
  refine lv_iconst (v := nI 1) hx hb dL_law_290 (by decide) ?_
  refine lv_iadd hx hb dL_law_291 ?_
  refine va_sld hx hb hX hbl hbA hS (lw_idx hi (by decide) hL) dL_law_292 ?_
  refine lv_aload_n hx hb dL_law_293 rfl (lv_at hl 0 rfl) ?_
  refine lv_iload_n hx hb dL_law_294 rfl (lv_at hl 3 rfl) ?_
  refine lv_iconst (v := nI 2) hx hb dL_law_295 (by decide) ?_
  refine lv_iadd hx hb dL_law_296 ?_
  refine va_sld hx hb hX hbl hbA hS (lw_idx hi (by decide) hL) dL_law_297 ?_
  refine lv_aload_n hx hb dL_law_298 rfl (lv_at hl 0 rfl) ?_
  refine lv_iload_n hx hb dL_law_299 rfl (lv_at hl 3 rfl) ?_
  refine lv_iconst (v := nI 3) hx hb dL_law_300 (by decide) ?_
  refine lv_iadd hx hb dL_law_301 ?_
  refine va_sld hx hb hX hbl hbA hS (lw_idx hi (by decide) hL) dL_law_302 ?_
  refine sL_27 (γ := 0) (N := 0) C (hA := fun q hq => hDA q hq) h1 hp.1 hS hl.1 (Nat.le_of_ble_eq_true rfl) (Nat.le_of_ble_eq_true rfl) (Nat.le_of_ble_eq_true rfl) (by omega) dL_law_303 (fun H1 locs hw hz hk hS => ?_)
  replace hp := hp.x hw hz hk
  clear hw hz hk
  refine lv_aload_n hx hb dL_law_306 rfl (lv_at hl 2 rfl) ?_
  refine lv_aload_n hx hb dL_law_307 rfl (lv_at hl 0 rfl) ?_
  refine lv_iload_n hx hb dL_law_308 rfl (lv_at hl 3 rfl) ?_
  refine lv_iconst (v := nI 1) hx hb dL_law_309 (by decide) ?_
  refine lv_iadd hx hb dL_law_310 ?_
  refine va_sld hx hb hX hbl hbA hS (lw_idx hi (by decide) hL) dL_law_311 ?_
  refine lv_aload_n hx hb dL_law_312 rfl (lv_at hl 0 rfl) ?_
  refine lv_iload_n hx hb dL_law_313 rfl (lv_at hl 3 rfl) ?_
  refine lv_iconst (v := nI 2) hx hb dL_law_314 (by decide) ?_
  refine lv_iadd hx hb dL_law_315 ?_
  refine va_sld hx hb hX hbl hbA hS (lw_idx hi (by decide) hL) dL_law_316 ?_
  refine lv_aload_n hx hb dL_law_317 rfl (lv_at hl 0 rfl) ?_
  refine lv_iload_n hx hb dL_law_318 rfl (lv_at hl 3 rfl) ?_
  refine lv_iconst (v := nI 3) hx hb dL_law_319 (by decide) ?_
  refine lv_iadd hx hb dL_law_320 ?_
  refine va_sld hx hb hX hbl hbA hS (lw_idx hi (by decide) hL) dL_law_321 ?_
  refine sL_31 (β := 0) (D := fun _ => False) C (hA := fun q hq => hMA q hq) h2 hp.2.1 hS hl.1 (Nat.le_of_ble_eq_true rfl) (Nat.le_of_ble_eq_true rfl) (Nat.le_of_ble_eq_true rfl) (by omega) dL_law_322 (fun H1 locs hw hz hk hS => ?_)
  replace hp := hp.m hw hk
  clear hw hz hk
  refine W.lcmp hx hb dL_law_325 ?_
  refine lv_if_eq (tgt := 1385) hx hb dL_law_326 (by decide) (fun cc => ?_) (fun cc => ?_)
  · refine W.widen (k := cells + 11) (n := slots + 207) (by omega) (by omega) ?_
    exact kk _ _ _ _ hp hr hS
  · exact absurd ((lg_cmp_eq _ _).mpr rfl) cc
set_option maxHeartbeats 4000000 in
set_option maxRecDepth 100000 in
theorem LC4 {p : Program} {l : Launch} {e : Env} {s : State} {m : MethodId} {args : Array Value} {below : List Frame} {meth : Method} {c : Code} {Q : State → Prop} {G : xG} {β b L i cells slots : Nat} {A : Nat → Prop} {xs : Nat → Int32} {ret : Option FieldType} {Rel : XS → MS → Prop} {x : XS} {y : MS} {H : Heap} {locs : List Loc} {ls : Array Slot} (S0 : ST4 Rel) (C : Cx p s m args meth c RL code 4 ret (KK G)) (hDA : ∀ q, DL β q → A q) (hMA : ∀ q, AM (β + 31) q → A q) (hX : va_X b L xs s s.heap) (hbl : b < s.heap.size) (hbA : ¬ A b) (hi : i + 6 ≤ L) (hL : L ≤ 3072) (hcs : cells + 11 ≤ room_1.cells ∧ slots + 207 ≤ room_1.slots) (hp : LPc β G x y H) (hr : Rel x y) (hS : va_S A s.heap H locs) (hl : lv_has ls 4 [(0, .ref b), (1, .ref β), (2, .ref (β + 31)), (3, .int (nI i))]) (kk : ∀ (x : XS) (y : MS) (H : Heap) (locs : List Loc), LPc β G x y H → Rel x y → va_S A s.heap H locs → W p l e room_1 s m args below meth c H locs (cells + 11) (slots + 207) Q (F0 m 1385 ls [])) : W p l e room_1 s m args below meth c H locs cells slots Q (F0 m 331 ls []) := by
  have hx := C.1
  have hb := C.2.1
  have ho := C.2.2.2.1
  have hts := C.2.2.2.2.1
  obtain ⟨r, x1, y1, h1, h2, hr⟩ := S0 x y (xs (nI i + nI 1).toNatClampNeg) (xs (nI i + nI 2).toNatClampNeg) hr
  refine lv_aload_n hx hb dL_law_331 rfl (lv_at hl 1 rfl) ?_
  refine lv_aload_n hx hb dL_law_332 rfl (lv_at hl 0 rfl) ?_
  refine lv_iload_n hx hb dL_law_333 rfl (lv_at hl 3 rfl) ?_
  refine lv_iconst (v := nI 1) hx hb dL_law_334 (by decide) ?_
  refine lv_iadd hx hb dL_law_335 ?_
  refine va_sld hx hb hX hbl hbA hS (lw_idx hi (by decide) hL) dL_law_336 ?_
  refine lv_aload_n hx hb dL_law_337 rfl (lv_at hl 0 rfl) ?_
  refine lv_iload_n hx hb dL_law_338 rfl (lv_at hl 3 rfl) ?_
  refine lv_iconst (v := nI 2) hx hb dL_law_339 (by decide) ?_
  refine lv_iadd hx hb dL_law_340 ?_
  refine va_sld hx hb hX hbl hbA hS (lw_idx hi (by decide) hL) dL_law_341 ?_
  refine sL_32 (γ := 0) (N := 0) C (hA := fun q hq => hDA q hq) h1 hp.1 hS hl.1 (Nat.le_of_ble_eq_true rfl) (Nat.le_of_ble_eq_true rfl) (Nat.le_of_ble_eq_true rfl) (by omega) dL_law_342 (fun H1 locs hw hz hk hS => ?_)
  replace hp := hp.x hw hz hk
  clear hw hz hk
  refine lv_aload_n hx hb dL_law_345 rfl (lv_at hl 2 rfl) ?_
  refine lv_aload_n hx hb dL_law_346 rfl (lv_at hl 0 rfl) ?_
  refine lv_iload_n hx hb dL_law_347 rfl (lv_at hl 3 rfl) ?_
  refine lv_iconst (v := nI 1) hx hb dL_law_348 (by decide) ?_
  refine lv_iadd hx hb dL_law_349 ?_
  refine va_sld hx hb hX hbl hbA hS (lw_idx hi (by decide) hL) dL_law_350 ?_
  refine lv_aload_n hx hb dL_law_351 rfl (lv_at hl 0 rfl) ?_
  refine lv_iload_n hx hb dL_law_352 rfl (lv_at hl 3 rfl) ?_
  refine lv_iconst (v := nI 2) hx hb dL_law_353 (by decide) ?_
  refine lv_iadd hx hb dL_law_354 ?_
  refine va_sld hx hb hX hbl hbA hS (lw_idx hi (by decide) hL) dL_law_355 ?_
  refine sL_35 (β := 0) (D := fun _ => False) C (hA := fun q hq => hMA q hq) h2 hp.2.1 hS hl.1 (Nat.le_of_ble_eq_true rfl) (Nat.le_of_ble_eq_true rfl) (Nat.le_of_ble_eq_true rfl) (by omega) dL_law_356 (fun H1 locs hw hz hk hS => ?_)
  replace hp := hp.m hw hk
  clear hw hz hk
  refine lv_icmp_eq (tgt := 1385) hx hb dL_law_359 (by decide) (fun cc => ?_) (fun cc => ?_)
  · refine W.widen (k := cells + 11) (n := slots + 207) (by omega) (by omega) ?_
    exact kk _ _ _ _ hp hr hS
  · exact absurd rfl cc
set_option maxHeartbeats 4000000 in
set_option maxRecDepth 100000 in
theorem LC5 {p : Program} {l : Launch} {e : Env} {s : State} {m : MethodId} {args : Array Value} {below : List Frame} {meth : Method} {c : Code} {Q : State → Prop} {G : xG} {β b L i cells slots : Nat} {A : Nat → Prop} {xs : Nat → Int32} {ret : Option FieldType} {Rel : XS → MS → Prop} {x : XS} {y : MS} {H : Heap} {locs : List Loc} {ls : Array Slot} (S0 : ST5 Rel) (C : Cx p s m args meth c RL code 4 ret (KK G)) (hDA : ∀ q, DL β q → A q) (hMA : ∀ q, AM (β + 31) q → A q) (hX : va_X b L xs s s.heap) (hbl : b < s.heap.size) (hbA : ¬ A b) (hi : i + 6 ≤ L) (hL : L ≤ 3072) (hcs : cells + 11 ≤ room_1.cells ∧ slots + 207 ≤ room_1.slots) (hp : LPc β G x y H) (hr : Rel x y) (hS : va_S A s.heap H locs) (hl : lv_has ls 4 [(0, .ref b), (1, .ref β), (2, .ref (β + 31)), (3, .int (nI i))]) (kk : ∀ (x : XS) (y : MS) (H : Heap) (locs : List Loc), LPc β G x y H → Rel x y → va_S A s.heap H locs → W p l e room_1 s m args below meth c H locs (cells + 11) (slots + 207) Q (F0 m 1385 ls [])) : W p l e room_1 s m args below meth c H locs cells slots Q (F0 m 364 ls []) := by
  have hx := C.1
  have hb := C.2.1
  have ho := C.2.2.2.1
  have hts := C.2.2.2.2.1
  obtain ⟨r, x1, y1, h1, h2, hr⟩ := S0 x y (xs (nI i + nI 1).toNatClampNeg) (xs (nI i + nI 2).toNatClampNeg) (xs (nI i + nI 3).toNatClampNeg) (xs (nI i + nI 4).toNatClampNeg) hr
  refine lv_aload_n hx hb dL_law_364 rfl (lv_at hl 1 rfl) ?_
  refine lv_aload_n hx hb dL_law_365 rfl (lv_at hl 0 rfl) ?_
  refine lv_iload_n hx hb dL_law_366 rfl (lv_at hl 3 rfl) ?_
  refine lv_iconst (v := nI 1) hx hb dL_law_367 (by decide) ?_
  refine lv_iadd hx hb dL_law_368 ?_
  refine va_sld hx hb hX hbl hbA hS (lw_idx hi (by decide) hL) dL_law_369 ?_
  refine lv_aload_n hx hb dL_law_370 rfl (lv_at hl 0 rfl) ?_
  refine lv_iload_n hx hb dL_law_371 rfl (lv_at hl 3 rfl) ?_
  refine lv_iconst (v := nI 2) hx hb dL_law_372 (by decide) ?_
  refine lv_iadd hx hb dL_law_373 ?_
  refine va_sld hx hb hX hbl hbA hS (lw_idx hi (by decide) hL) dL_law_374 ?_
  refine lv_aload_n hx hb dL_law_375 rfl (lv_at hl 0 rfl) ?_
  refine lv_iload_n hx hb dL_law_376 rfl (lv_at hl 3 rfl) ?_
  refine lv_iconst (v := nI 3) hx hb dL_law_377 (by decide) ?_
  refine lv_iadd hx hb dL_law_378 ?_
  refine va_sld hx hb hX hbl hbA hS (lw_idx hi (by decide) hL) dL_law_379 ?_
  refine lv_aload_n hx hb dL_law_380 rfl (lv_at hl 0 rfl) ?_
  refine lv_iload_n hx hb dL_law_381 rfl (lv_at hl 3 rfl) ?_
  refine lv_iconst (v := nI 4) hx hb dL_law_382 (by decide) ?_
  refine lv_iadd hx hb dL_law_383 ?_
  refine va_sld hx hb hX hbl hbA hS (lw_idx hi (by decide) hL) dL_law_384 ?_
  refine sL_36 (γ := 0) (N := 0) C (hA := fun q hq => hDA q hq) h1 hp.1 hS hl.1 (Nat.le_of_ble_eq_true rfl) (Nat.le_of_ble_eq_true rfl) (Nat.le_of_ble_eq_true rfl) (by omega) dL_law_385 (fun H1 locs hw hz hk hS => ?_)
  replace hp := hp.x hw hz hk
  clear hw hz hk
  refine lv_aload_n hx hb dL_law_388 rfl (lv_at hl 2 rfl) ?_
  refine lv_aload_n hx hb dL_law_389 rfl (lv_at hl 0 rfl) ?_
  refine lv_iload_n hx hb dL_law_390 rfl (lv_at hl 3 rfl) ?_
  refine lv_iconst (v := nI 1) hx hb dL_law_391 (by decide) ?_
  refine lv_iadd hx hb dL_law_392 ?_
  refine va_sld hx hb hX hbl hbA hS (lw_idx hi (by decide) hL) dL_law_393 ?_
  refine lv_aload_n hx hb dL_law_394 rfl (lv_at hl 0 rfl) ?_
  refine lv_iload_n hx hb dL_law_395 rfl (lv_at hl 3 rfl) ?_
  refine lv_iconst (v := nI 2) hx hb dL_law_396 (by decide) ?_
  refine lv_iadd hx hb dL_law_397 ?_
  refine va_sld hx hb hX hbl hbA hS (lw_idx hi (by decide) hL) dL_law_398 ?_
  refine lv_aload_n hx hb dL_law_399 rfl (lv_at hl 0 rfl) ?_
  refine lv_iload_n hx hb dL_law_400 rfl (lv_at hl 3 rfl) ?_
  refine lv_iconst (v := nI 3) hx hb dL_law_401 (by decide) ?_
  refine lv_iadd hx hb dL_law_402 ?_
  refine va_sld hx hb hX hbl hbA hS (lw_idx hi (by decide) hL) dL_law_403 ?_
  refine lv_aload_n hx hb dL_law_404 rfl (lv_at hl 0 rfl) ?_
  refine lv_iload_n hx hb dL_law_405 rfl (lv_at hl 3 rfl) ?_
  refine lv_iconst (v := nI 4) hx hb dL_law_406 (by decide) ?_
  refine lv_iadd hx hb dL_law_407 ?_
  refine va_sld hx hb hX hbl hbA hS (lw_idx hi (by decide) hL) dL_law_408 ?_
  refine sL_40 (β := 0) (D := fun _ => False) C (hA := fun q hq => hMA q hq) h2 hp.2.1 hS hl.1 (Nat.le_of_ble_eq_true rfl) (Nat.le_of_ble_eq_true rfl) (Nat.le_of_ble_eq_true rfl) (by omega) dL_law_409 (fun H1 locs hw hz hk hS => ?_)
  replace hp := hp.m hw hk
  clear hw hz hk
  refine W.lcmp hx hb dL_law_412 ?_
  refine lv_if_eq (tgt := 1385) hx hb dL_law_413 (by decide) (fun cc => ?_) (fun cc => ?_)
  · refine W.widen (k := cells + 11) (n := slots + 207) (by omega) (by omega) ?_
    exact kk _ _ _ _ hp hr hS
  · exact absurd ((lg_cmp_eq _ _).mpr rfl) cc
set_option maxHeartbeats 4000000 in
set_option maxRecDepth 100000 in
theorem LC6 {p : Program} {l : Launch} {e : Env} {s : State} {m : MethodId} {args : Array Value} {below : List Frame} {meth : Method} {c : Code} {Q : State → Prop} {G : xG} {β b L i cells slots : Nat} {A : Nat → Prop} {xs : Nat → Int32} {ret : Option FieldType} {Rel : XS → MS → Prop} {x : XS} {y : MS} {H : Heap} {locs : List Loc} {ls : Array Slot} (S0 : ST6 Rel) (C : Cx p s m args meth c RL code 4 ret (KK G)) (hDA : ∀ q, DL β q → A q) (hMA : ∀ q, AM (β + 31) q → A q) (hX : va_X b L xs s s.heap) (hbl : b < s.heap.size) (hbA : ¬ A b) (hi : i + 6 ≤ L) (hL : L ≤ 3072) (hcs : cells + 11 ≤ room_1.cells ∧ slots + 207 ≤ room_1.slots) (hp : LPc β G x y H) (hr : Rel x y) (hS : va_S A s.heap H locs) (hl : lv_has ls 4 [(0, .ref b), (1, .ref β), (2, .ref (β + 31)), (3, .int (nI i))]) (kk : ∀ (x : XS) (y : MS) (H : Heap) (locs : List Loc), LPc β G x y H → Rel x y → va_S A s.heap H locs → W p l e room_1 s m args below meth c H locs (cells + 11) (slots + 207) Q (F0 m 1385 ls [])) : W p l e room_1 s m args below meth c H locs cells slots Q (F0 m 418 ls []) := by
  have hx := C.1
  have hb := C.2.1
  have ho := C.2.2.2.1
  have hts := C.2.2.2.2.1
  obtain ⟨r, x1, y1, h1, h2, hr⟩ := S0 x y (xs (nI i + nI 1).toNatClampNeg) (xs (nI i + nI 2).toNatClampNeg) (xs (nI i + nI 3).toNatClampNeg) (xs (nI i + nI 4).toNatClampNeg) hr
  refine lv_aload_n hx hb dL_law_418 rfl (lv_at hl 1 rfl) ?_
  refine lv_aload_n hx hb dL_law_419 rfl (lv_at hl 0 rfl) ?_
  refine lv_iload_n hx hb dL_law_420 rfl (lv_at hl 3 rfl) ?_
  refine lv_iconst (v := nI 1) hx hb dL_law_421 (by decide) ?_
  refine lv_iadd hx hb dL_law_422 ?_
  refine va_sld hx hb hX hbl hbA hS (lw_idx hi (by decide) hL) dL_law_423 ?_
  refine lv_aload_n hx hb dL_law_424 rfl (lv_at hl 0 rfl) ?_
  refine lv_iload_n hx hb dL_law_425 rfl (lv_at hl 3 rfl) ?_
  refine lv_iconst (v := nI 2) hx hb dL_law_426 (by decide) ?_
  refine lv_iadd hx hb dL_law_427 ?_
  refine va_sld hx hb hX hbl hbA hS (lw_idx hi (by decide) hL) dL_law_428 ?_
  refine lv_aload_n hx hb dL_law_429 rfl (lv_at hl 0 rfl) ?_
  refine lv_iload_n hx hb dL_law_430 rfl (lv_at hl 3 rfl) ?_
  refine lv_iconst (v := nI 3) hx hb dL_law_431 (by decide) ?_
  refine lv_iadd hx hb dL_law_432 ?_
  refine va_sld hx hb hX hbl hbA hS (lw_idx hi (by decide) hL) dL_law_433 ?_
  refine lv_aload_n hx hb dL_law_434 rfl (lv_at hl 0 rfl) ?_
  refine lv_iload_n hx hb dL_law_435 rfl (lv_at hl 3 rfl) ?_
  refine lv_iconst (v := nI 4) hx hb dL_law_436 (by decide) ?_
  refine lv_iadd hx hb dL_law_437 ?_
  refine va_sld hx hb hX hbl hbA hS (lw_idx hi (by decide) hL) dL_law_438 ?_
  refine sL_41 (γ := 0) (N := 0) C (hA := fun q hq => hDA q hq) h1 hp.1 hS hl.1 (Nat.le_of_ble_eq_true rfl) (Nat.le_of_ble_eq_true rfl) (Nat.le_of_ble_eq_true rfl) (by omega) dL_law_439 (fun H1 locs hw hz hk hS => ?_)
  replace hp := hp.x hw hz hk
  clear hw hz hk
  refine lv_aload_n hx hb dL_law_442 rfl (lv_at hl 2 rfl) ?_
  refine lv_aload_n hx hb dL_law_443 rfl (lv_at hl 0 rfl) ?_
  refine lv_iload_n hx hb dL_law_444 rfl (lv_at hl 3 rfl) ?_
  refine lv_iconst (v := nI 1) hx hb dL_law_445 (by decide) ?_
  refine lv_iadd hx hb dL_law_446 ?_
  refine va_sld hx hb hX hbl hbA hS (lw_idx hi (by decide) hL) dL_law_447 ?_
  refine lv_aload_n hx hb dL_law_448 rfl (lv_at hl 0 rfl) ?_
  refine lv_iload_n hx hb dL_law_449 rfl (lv_at hl 3 rfl) ?_
  refine lv_iconst (v := nI 2) hx hb dL_law_450 (by decide) ?_
  refine lv_iadd hx hb dL_law_451 ?_
  refine va_sld hx hb hX hbl hbA hS (lw_idx hi (by decide) hL) dL_law_452 ?_
  refine lv_aload_n hx hb dL_law_453 rfl (lv_at hl 0 rfl) ?_
  refine lv_iload_n hx hb dL_law_454 rfl (lv_at hl 3 rfl) ?_
  refine lv_iconst (v := nI 3) hx hb dL_law_455 (by decide) ?_
  refine lv_iadd hx hb dL_law_456 ?_
  refine va_sld hx hb hX hbl hbA hS (lw_idx hi (by decide) hL) dL_law_457 ?_
  refine lv_aload_n hx hb dL_law_458 rfl (lv_at hl 0 rfl) ?_
  refine lv_iload_n hx hb dL_law_459 rfl (lv_at hl 3 rfl) ?_
  refine lv_iconst (v := nI 4) hx hb dL_law_460 (by decide) ?_
  refine lv_iadd hx hb dL_law_461 ?_
  refine va_sld hx hb hX hbl hbA hS (lw_idx hi (by decide) hL) dL_law_462 ?_
  refine sL_44 (β := 0) (D := fun _ => False) C (hA := fun q hq => hMA q hq) h2 hp.2.1 hS hl.1 (Nat.le_of_ble_eq_true rfl) (Nat.le_of_ble_eq_true rfl) (Nat.le_of_ble_eq_true rfl) (by omega) dL_law_463 (fun H1 locs hw hz hk hS => ?_)
  replace hp := hp.m hw hk
  clear hw hz hk
  refine W.lcmp hx hb dL_law_466 ?_
  refine lv_if_eq (tgt := 1385) hx hb dL_law_467 (by decide) (fun cc => ?_) (fun cc => ?_)
  · refine W.widen (k := cells + 11) (n := slots + 207) (by omega) (by omega) ?_
    exact kk _ _ _ _ hp hr hS
  · exact absurd ((lg_cmp_eq _ _).mpr rfl) cc
set_option maxHeartbeats 4000000 in
set_option maxRecDepth 100000 in
theorem LC7 {p : Program} {l : Launch} {e : Env} {s : State} {m : MethodId} {args : Array Value} {below : List Frame} {meth : Method} {c : Code} {Q : State → Prop} {G : xG} {β b L i cells slots : Nat} {A : Nat → Prop} {xs : Nat → Int32} {ret : Option FieldType} {Rel : XS → MS → Prop} {x : XS} {y : MS} {H : Heap} {locs : List Loc} {ls : Array Slot} (S0 : ST7 Rel) (C : Cx p s m args meth c RL code 4 ret (KK G)) (hDA : ∀ q, DL β q → A q) (hMA : ∀ q, AM (β + 31) q → A q) (hX : va_X b L xs s s.heap) (hbl : b < s.heap.size) (hbA : ¬ A b) (hi : i + 6 ≤ L) (hL : L ≤ 3072) (hcs : cells + 11 ≤ room_1.cells ∧ slots + 207 ≤ room_1.slots) (hp : LPc β G x y H) (hr : Rel x y) (hS : va_S A s.heap H locs) (hl : lv_has ls 4 [(0, .ref b), (1, .ref β), (2, .ref (β + 31)), (3, .int (nI i))]) (kk : ∀ (x : XS) (y : MS) (H : Heap) (locs : List Loc), LPc β G x y H → Rel x y → va_S A s.heap H locs → W p l e room_1 s m args below meth c H locs (cells + 11) (slots + 207) Q (F0 m 1385 ls [])) : W p l e room_1 s m args below meth c H locs cells slots Q (F0 m 472 ls []) := by
  have hx := C.1
  have hb := C.2.1
  have ho := C.2.2.2.1
  have hts := C.2.2.2.2.1
  obtain ⟨r, x1, y1, h1, h2, hr⟩ := S0 x y (xs (nI i + nI 1).toNatClampNeg) (xs (nI i + nI 2).toNatClampNeg) (xs (nI i + nI 3).toNatClampNeg) (xs (nI i + nI 4).toNatClampNeg) (xs (nI i + nI 5).toNatClampNeg) hr
  refine lv_aload_n hx hb dL_law_472 rfl (lv_at hl 1 rfl) ?_
  refine lv_aload_n hx hb dL_law_473 rfl (lv_at hl 0 rfl) ?_
  refine lv_iload_n hx hb dL_law_474 rfl (lv_at hl 3 rfl) ?_
  refine lv_iconst (v := nI 1) hx hb dL_law_475 (by decide) ?_
  refine lv_iadd hx hb dL_law_476 ?_
  refine va_sld hx hb hX hbl hbA hS (lw_idx hi (by decide) hL) dL_law_477 ?_
  refine lv_aload_n hx hb dL_law_478 rfl (lv_at hl 0 rfl) ?_
  refine lv_iload_n hx hb dL_law_479 rfl (lv_at hl 3 rfl) ?_
  refine lv_iconst (v := nI 2) hx hb dL_law_480 (by decide) ?_
  refine lv_iadd hx hb dL_law_481 ?_
  refine va_sld hx hb hX hbl hbA hS (lw_idx hi (by decide) hL) dL_law_482 ?_
  refine lv_aload_n hx hb dL_law_483 rfl (lv_at hl 0 rfl) ?_
  refine lv_iload_n hx hb dL_law_484 rfl (lv_at hl 3 rfl) ?_
  refine lv_iconst (v := nI 3) hx hb dL_law_485 (by decide) ?_
  refine lv_iadd hx hb dL_law_486 ?_
  refine va_sld hx hb hX hbl hbA hS (lw_idx hi (by decide) hL) dL_law_487 ?_
  refine lv_aload_n hx hb dL_law_488 rfl (lv_at hl 0 rfl) ?_
  refine lv_iload_n hx hb dL_law_489 rfl (lv_at hl 3 rfl) ?_
  refine lv_iconst (v := nI 4) hx hb dL_law_490 (by decide) ?_
  refine lv_iadd hx hb dL_law_491 ?_
  refine va_sld hx hb hX hbl hbA hS (lw_idx hi (by decide) hL) dL_law_492 ?_
  refine lv_aload_n hx hb dL_law_493 rfl (lv_at hl 0 rfl) ?_
  refine lv_iload_n hx hb dL_law_494 rfl (lv_at hl 3 rfl) ?_
  refine lv_iconst (v := nI 5) hx hb dL_law_495 (by decide) ?_
  refine lv_iadd hx hb dL_law_496 ?_
  refine va_sld hx hb hX hbl hbA hS (lw_idx hi (by decide) hL) dL_law_497 ?_
  refine sL_45 (γ := 0) (N := 0) C (hA := fun q hq => hDA q hq) h1 hp.1 hS hl.1 (Nat.le_of_ble_eq_true rfl) (Nat.le_of_ble_eq_true rfl) (Nat.le_of_ble_eq_true rfl) (by omega) dL_law_498 (fun H1 locs hw hz hk hS => ?_)
  replace hp := hp.x hw hz hk
  clear hw hz hk
  refine lv_aload_n hx hb dL_law_501 rfl (lv_at hl 2 rfl) ?_
  refine lv_aload_n hx hb dL_law_502 rfl (lv_at hl 0 rfl) ?_
  refine lv_iload_n hx hb dL_law_503 rfl (lv_at hl 3 rfl) ?_
  refine lv_iconst (v := nI 1) hx hb dL_law_504 (by decide) ?_
  refine lv_iadd hx hb dL_law_505 ?_
  refine va_sld hx hb hX hbl hbA hS (lw_idx hi (by decide) hL) dL_law_506 ?_
  refine lv_aload_n hx hb dL_law_507 rfl (lv_at hl 0 rfl) ?_
  refine lv_iload_n hx hb dL_law_508 rfl (lv_at hl 3 rfl) ?_
  refine lv_iconst (v := nI 2) hx hb dL_law_509 (by decide) ?_
  refine lv_iadd hx hb dL_law_510 ?_
  refine va_sld hx hb hX hbl hbA hS (lw_idx hi (by decide) hL) dL_law_511 ?_
  refine lv_aload_n hx hb dL_law_512 rfl (lv_at hl 0 rfl) ?_
  refine lv_iload_n hx hb dL_law_513 rfl (lv_at hl 3 rfl) ?_
  refine lv_iconst (v := nI 3) hx hb dL_law_514 (by decide) ?_
  refine lv_iadd hx hb dL_law_515 ?_
  refine va_sld hx hb hX hbl hbA hS (lw_idx hi (by decide) hL) dL_law_516 ?_
  refine lv_aload_n hx hb dL_law_517 rfl (lv_at hl 0 rfl) ?_
  refine lv_iload_n hx hb dL_law_518 rfl (lv_at hl 3 rfl) ?_
  refine lv_iconst (v := nI 4) hx hb dL_law_519 (by decide) ?_
  refine lv_iadd hx hb dL_law_520 ?_
  refine va_sld hx hb hX hbl hbA hS (lw_idx hi (by decide) hL) dL_law_521 ?_
  refine lv_aload_n hx hb dL_law_522 rfl (lv_at hl 0 rfl) ?_
  refine lv_iload_n hx hb dL_law_523 rfl (lv_at hl 3 rfl) ?_
  refine lv_iconst (v := nI 5) hx hb dL_law_524 (by decide) ?_
  refine lv_iadd hx hb dL_law_525 ?_
  refine va_sld hx hb hX hbl hbA hS (lw_idx hi (by decide) hL) dL_law_526 ?_
  refine sL_49 (β := 0) (D := fun _ => False) C (hA := fun q hq => hMA q hq) h2 hp.2.1 hS hl.1 (Nat.le_of_ble_eq_true rfl) (Nat.le_of_ble_eq_true rfl) (Nat.le_of_ble_eq_true rfl) (by omega) dL_law_527 (fun H1 locs hw hz hk hS => ?_)
  replace hp := hp.m hw hk
  clear hw hz hk
  refine W.lcmp hx hb dL_law_530 ?_
  refine lv_if_eq (tgt := 1385) hx hb dL_law_531 (by decide) (fun cc => ?_) (fun cc => ?_)
  · refine W.widen (k := cells + 11) (n := slots + 207) (by omega) (by omega) ?_
    exact kk _ _ _ _ hp hr hS
  · exact absurd ((lg_cmp_eq _ _).mpr rfl) cc
set_option maxHeartbeats 4000000 in
set_option maxRecDepth 100000 in
theorem LC8 {p : Program} {l : Launch} {e : Env} {s : State} {m : MethodId} {args : Array Value} {below : List Frame} {meth : Method} {c : Code} {Q : State → Prop} {G : xG} {β b L i cells slots : Nat} {A : Nat → Prop} {xs : Nat → Int32} {ret : Option FieldType} {Rel : XS → MS → Prop} {x : XS} {y : MS} {H : Heap} {locs : List Loc} {ls : Array Slot} (S0 : ST8 Rel) (C : Cx p s m args meth c RL code 4 ret (KK G)) (hDA : ∀ q, DL β q → A q) (hMA : ∀ q, AM (β + 31) q → A q) (hX : va_X b L xs s s.heap) (hbl : b < s.heap.size) (hbA : ¬ A b) (hi : i + 6 ≤ L) (hL : L ≤ 3072) (hcs : cells + 11 ≤ room_1.cells ∧ slots + 207 ≤ room_1.slots) (hp : LPc β G x y H) (hr : Rel x y) (hS : va_S A s.heap H locs) (hl : lv_has ls 4 [(0, .ref b), (1, .ref β), (2, .ref (β + 31)), (3, .int (nI i))]) (kk : ∀ (x : XS) (y : MS) (H : Heap) (locs : List Loc), LPc β G x y H → Rel x y → va_S A s.heap H locs → W p l e room_1 s m args below meth c H locs (cells + 11) (slots + 207) Q (F0 m 1385 ls [])) : W p l e room_1 s m args below meth c H locs cells slots Q (F0 m 536 ls []) := by
  have hx := C.1
  have hb := C.2.1
  have ho := C.2.2.2.1
  have hts := C.2.2.2.2.1
  obtain ⟨r, x1, y1, h1, h2, hr⟩ := S0 x y (xs (nI i + nI 1).toNatClampNeg) (xs (nI i + nI 2).toNatClampNeg) (xs (nI i + nI 3).toNatClampNeg) hr
  refine lv_aload_n hx hb dL_law_536 rfl (lv_at hl 1 rfl) ?_
  refine lv_aload_n hx hb dL_law_537 rfl (lv_at hl 0 rfl) ?_
  refine lv_iload_n hx hb dL_law_538 rfl (lv_at hl 3 rfl) ?_
  refine lv_iconst (v := nI 1) hx hb dL_law_539 (by decide) ?_
  refine lv_iadd hx hb dL_law_540 ?_
  refine va_sld hx hb hX hbl hbA hS (lw_idx hi (by decide) hL) dL_law_541 ?_
  refine lv_aload_n hx hb dL_law_542 rfl (lv_at hl 0 rfl) ?_
  refine lv_iload_n hx hb dL_law_543 rfl (lv_at hl 3 rfl) ?_
  refine lv_iconst (v := nI 2) hx hb dL_law_544 (by decide) ?_
  refine lv_iadd hx hb dL_law_545 ?_
  refine va_sld hx hb hX hbl hbA hS (lw_idx hi (by decide) hL) dL_law_546 ?_
  refine lv_aload_n hx hb dL_law_547 rfl (lv_at hl 0 rfl) ?_
  refine lv_iload_n hx hb dL_law_548 rfl (lv_at hl 3 rfl) ?_
  refine lv_iconst (v := nI 3) hx hb dL_law_549 (by decide) ?_
  refine lv_iadd hx hb dL_law_550 ?_
  refine va_sld hx hb hX hbl hbA hS (lw_idx hi (by decide) hL) dL_law_551 ?_
  refine sL_50 (γ := 0) (N := 0) C (hA := fun q hq => hDA q hq) h1 hp.1 hS hl.1 (Nat.le_of_ble_eq_true rfl) (Nat.le_of_ble_eq_true rfl) (Nat.le_of_ble_eq_true rfl) (by omega) dL_law_552 (fun H1 locs hw hz hk hS => ?_)
  replace hp := hp.x hw hz hk
  clear hw hz hk
  refine lv_aload_n hx hb dL_law_555 rfl (lv_at hl 2 rfl) ?_
  refine lv_aload_n hx hb dL_law_556 rfl (lv_at hl 0 rfl) ?_
  refine lv_iload_n hx hb dL_law_557 rfl (lv_at hl 3 rfl) ?_
  refine lv_iconst (v := nI 1) hx hb dL_law_558 (by decide) ?_
  refine lv_iadd hx hb dL_law_559 ?_
  refine va_sld hx hb hX hbl hbA hS (lw_idx hi (by decide) hL) dL_law_560 ?_
  refine lv_aload_n hx hb dL_law_561 rfl (lv_at hl 0 rfl) ?_
  refine lv_iload_n hx hb dL_law_562 rfl (lv_at hl 3 rfl) ?_
  refine lv_iconst (v := nI 2) hx hb dL_law_563 (by decide) ?_
  refine lv_iadd hx hb dL_law_564 ?_
  refine va_sld hx hb hX hbl hbA hS (lw_idx hi (by decide) hL) dL_law_565 ?_
  refine lv_aload_n hx hb dL_law_566 rfl (lv_at hl 0 rfl) ?_
  refine lv_iload_n hx hb dL_law_567 rfl (lv_at hl 3 rfl) ?_
  refine lv_iconst (v := nI 3) hx hb dL_law_568 (by decide) ?_
  refine lv_iadd hx hb dL_law_569 ?_
  refine va_sld hx hb hX hbl hbA hS (lw_idx hi (by decide) hL) dL_law_570 ?_
  refine sL_53 (β := 0) (D := fun _ => False) C (hA := fun q hq => hMA q hq) h2 hp.2.1 hS hl.1 (Nat.le_of_ble_eq_true rfl) (Nat.le_of_ble_eq_true rfl) (Nat.le_of_ble_eq_true rfl) (by omega) dL_law_571 (fun H1 locs hw hz hk hS => ?_)
  replace hp := hp.m hw hk
  clear hw hz hk
  refine W.lcmp hx hb dL_law_574 ?_
  refine lv_if_eq (tgt := 1385) hx hb dL_law_575 (by decide) (fun cc => ?_) (fun cc => ?_)
  · refine W.widen (k := cells + 11) (n := slots + 207) (by omega) (by omega) ?_
    exact kk _ _ _ _ hp hr hS
  · exact absurd ((lg_cmp_eq _ _).mpr rfl) cc
set_option maxHeartbeats 4000000 in
set_option maxRecDepth 100000 in
theorem LC9 {p : Program} {l : Launch} {e : Env} {s : State} {m : MethodId} {args : Array Value} {below : List Frame} {meth : Method} {c : Code} {Q : State → Prop} {G : xG} {β b L i cells slots : Nat} {A : Nat → Prop} {xs : Nat → Int32} {ret : Option FieldType} {Rel : XS → MS → Prop} {x : XS} {y : MS} {H : Heap} {locs : List Loc} {ls : Array Slot} (S0 : ST9 Rel) (C : Cx p s m args meth c RL code 4 ret (KK G)) (hDA : ∀ q, DL β q → A q) (hMA : ∀ q, AM (β + 31) q → A q) (hX : va_X b L xs s s.heap) (hbl : b < s.heap.size) (hbA : ¬ A b) (hi : i + 6 ≤ L) (hL : L ≤ 3072) (hcs : cells + 11 ≤ room_1.cells ∧ slots + 207 ≤ room_1.slots) (hp : LPc β G x y H) (hr : Rel x y) (hS : va_S A s.heap H locs) (hl : lv_has ls 4 [(0, .ref b), (1, .ref β), (2, .ref (β + 31)), (3, .int (nI i))]) (kk : ∀ (x : XS) (y : MS) (H : Heap) (locs : List Loc), LPc β G x y H → Rel x y → va_S A s.heap H locs → W p l e room_1 s m args below meth c H locs (cells + 11) (slots + 207) Q (F0 m 1385 ls [])) : W p l e room_1 s m args below meth c H locs cells slots Q (F0 m 580 ls []) := by
  have hx := C.1
  have hb := C.2.1
  have ho := C.2.2.2.1
  have hts := C.2.2.2.2.1
  obtain ⟨r, x1, y1, h1, h2, hr⟩ := S0 x y (xs (nI i + nI 1).toNatClampNeg) (xs (nI i + nI 2).toNatClampNeg) (xs (nI i + nI 3).toNatClampNeg) hr
  refine lv_aload_n hx hb dL_law_580 rfl (lv_at hl 1 rfl) ?_
  refine lv_aload_n hx hb dL_law_581 rfl (lv_at hl 0 rfl) ?_
  refine lv_iload_n hx hb dL_law_582 rfl (lv_at hl 3 rfl) ?_
  refine lv_iconst (v := nI 1) hx hb dL_law_583 (by decide) ?_
  refine lv_iadd hx hb dL_law_584 ?_
  refine va_sld hx hb hX hbl hbA hS (lw_idx hi (by decide) hL) dL_law_585 ?_
  refine lv_aload_n hx hb dL_law_586 rfl (lv_at hl 0 rfl) ?_
  refine lv_iload_n hx hb dL_law_587 rfl (lv_at hl 3 rfl) ?_
  refine lv_iconst (v := nI 2) hx hb dL_law_588 (by decide) ?_
  refine lv_iadd hx hb dL_law_589 ?_
  refine va_sld hx hb hX hbl hbA hS (lw_idx hi (by decide) hL) dL_law_590 ?_
  refine lv_aload_n hx hb dL_law_591 rfl (lv_at hl 0 rfl) ?_
  refine lv_iload_n hx hb dL_law_592 rfl (lv_at hl 3 rfl) ?_
  refine lv_iconst (v := nI 3) hx hb dL_law_593 (by decide) ?_
  refine lv_iadd hx hb dL_law_594 ?_
  refine va_sld hx hb hX hbl hbA hS (lw_idx hi (by decide) hL) dL_law_595 ?_
  refine sL_54 (γ := 0) (N := 0) C (hA := fun q hq => hDA q hq) h1 hp.1 hS hl.1 (Nat.le_of_ble_eq_true rfl) (Nat.le_of_ble_eq_true rfl) (Nat.le_of_ble_eq_true rfl) (by omega) dL_law_596 (fun H1 locs hw hz hk hS => ?_)
  replace hp := hp.x hw hz hk
  clear hw hz hk
  refine lv_aload_n hx hb dL_law_599 rfl (lv_at hl 2 rfl) ?_
  refine lv_aload_n hx hb dL_law_600 rfl (lv_at hl 0 rfl) ?_
  refine lv_iload_n hx hb dL_law_601 rfl (lv_at hl 3 rfl) ?_
  refine lv_iconst (v := nI 1) hx hb dL_law_602 (by decide) ?_
  refine lv_iadd hx hb dL_law_603 ?_
  refine va_sld hx hb hX hbl hbA hS (lw_idx hi (by decide) hL) dL_law_604 ?_
  refine lv_aload_n hx hb dL_law_605 rfl (lv_at hl 0 rfl) ?_
  refine lv_iload_n hx hb dL_law_606 rfl (lv_at hl 3 rfl) ?_
  refine lv_iconst (v := nI 2) hx hb dL_law_607 (by decide) ?_
  refine lv_iadd hx hb dL_law_608 ?_
  refine va_sld hx hb hX hbl hbA hS (lw_idx hi (by decide) hL) dL_law_609 ?_
  refine lv_aload_n hx hb dL_law_610 rfl (lv_at hl 0 rfl) ?_
  refine lv_iload_n hx hb dL_law_611 rfl (lv_at hl 3 rfl) ?_
  refine lv_iconst (v := nI 3) hx hb dL_law_612 (by decide) ?_
  refine lv_iadd hx hb dL_law_613 ?_
  refine va_sld hx hb hX hbl hbA hS (lw_idx hi (by decide) hL) dL_law_614 ?_
  refine sL_57 (β := 0) (D := fun _ => False) C (hA := fun q hq => hMA q hq) h2 hp.2.1 hS hl.1 (Nat.le_of_ble_eq_true rfl) (Nat.le_of_ble_eq_true rfl) (Nat.le_of_ble_eq_true rfl) (by omega) dL_law_615 (fun H1 locs hw hz hk hS => ?_)
  replace hp := hp.m hw hk
  clear hw hz hk
  refine W.lcmp hx hb dL_law_618 ?_
  refine lv_if_eq (tgt := 1385) hx hb dL_law_619 (by decide) (fun cc => ?_) (fun cc => ?_)
  · refine W.widen (k := cells + 11) (n := slots + 207) (by omega) (by omega) ?_
    exact kk _ _ _ _ hp hr hS
  · exact absurd ((lg_cmp_eq _ _).mpr rfl) cc
set_option maxHeartbeats 4000000 in
set_option maxRecDepth 100000 in
theorem LC10 {p : Program} {l : Launch} {e : Env} {s : State} {m : MethodId} {args : Array Value} {below : List Frame} {meth : Method} {c : Code} {Q : State → Prop} {G : xG} {β b L i cells slots : Nat} {A : Nat → Prop} {xs : Nat → Int32} {ret : Option FieldType} {Rel : XS → MS → Prop} {x : XS} {y : MS} {H : Heap} {locs : List Loc} {ls : Array Slot} (S0 : ST10 Rel) (C : Cx p s m args meth c RL code 4 ret (KK G)) (hDA : ∀ q, DL β q → A q) (hMA : ∀ q, AM (β + 31) q → A q) (hX : va_X b L xs s s.heap) (hbl : b < s.heap.size) (hbA : ¬ A b) (hi : i + 6 ≤ L) (hL : L ≤ 3072) (hcs : cells + 11 ≤ room_1.cells ∧ slots + 207 ≤ room_1.slots) (hp : LPc β G x y H) (hr : Rel x y) (hS : va_S A s.heap H locs) (hl : lv_has ls 4 [(0, .ref b), (1, .ref β), (2, .ref (β + 31)), (3, .int (nI i))]) (kk : ∀ (x : XS) (y : MS) (H : Heap) (locs : List Loc), LPc β G x y H → Rel x y → va_S A s.heap H locs → W p l e room_1 s m args below meth c H locs (cells + 11) (slots + 207) Q (F0 m 1385 ls [])) : W p l e room_1 s m args below meth c H locs cells slots Q (F0 m 624 ls []) := by
  have hx := C.1
  have hb := C.2.1
  have ho := C.2.2.2.1
  have hts := C.2.2.2.2.1
  obtain ⟨r, x1, y1, h1, h2, hr⟩ := S0 x y (xs (nI i + nI 1).toNatClampNeg) (xs (nI i + nI 2).toNatClampNeg) hr
  refine lv_aload_n hx hb dL_law_624 rfl (lv_at hl 1 rfl) ?_
  refine lv_aload_n hx hb dL_law_625 rfl (lv_at hl 0 rfl) ?_
  refine lv_iload_n hx hb dL_law_626 rfl (lv_at hl 3 rfl) ?_
  refine lv_iconst (v := nI 1) hx hb dL_law_627 (by decide) ?_
  refine lv_iadd hx hb dL_law_628 ?_
  refine va_sld hx hb hX hbl hbA hS (lw_idx hi (by decide) hL) dL_law_629 ?_
  refine lv_aload_n hx hb dL_law_630 rfl (lv_at hl 0 rfl) ?_
  refine lv_iload_n hx hb dL_law_631 rfl (lv_at hl 3 rfl) ?_
  refine lv_iconst (v := nI 2) hx hb dL_law_632 (by decide) ?_
  refine lv_iadd hx hb dL_law_633 ?_
  refine va_sld hx hb hX hbl hbA hS (lw_idx hi (by decide) hL) dL_law_634 ?_
  refine sL_58 (γ := 0) (N := 0) C (hA := fun q hq => hDA q hq) h1 hp.1 hS hl.1 (Nat.le_of_ble_eq_true rfl) (Nat.le_of_ble_eq_true rfl) (Nat.le_of_ble_eq_true rfl) (by omega) dL_law_635 (fun H1 locs hw hz hk hS => ?_)
  replace hp := hp.x hw hz hk
  clear hw hz hk
  refine lv_aload_n hx hb dL_law_638 rfl (lv_at hl 2 rfl) ?_
  refine lv_aload_n hx hb dL_law_639 rfl (lv_at hl 0 rfl) ?_
  refine lv_iload_n hx hb dL_law_640 rfl (lv_at hl 3 rfl) ?_
  refine lv_iconst (v := nI 1) hx hb dL_law_641 (by decide) ?_
  refine lv_iadd hx hb dL_law_642 ?_
  refine va_sld hx hb hX hbl hbA hS (lw_idx hi (by decide) hL) dL_law_643 ?_
  refine lv_aload_n hx hb dL_law_644 rfl (lv_at hl 0 rfl) ?_
  refine lv_iload_n hx hb dL_law_645 rfl (lv_at hl 3 rfl) ?_
  refine lv_iconst (v := nI 2) hx hb dL_law_646 (by decide) ?_
  refine lv_iadd hx hb dL_law_647 ?_
  refine va_sld hx hb hX hbl hbA hS (lw_idx hi (by decide) hL) dL_law_648 ?_
  refine sL_61 (β := 0) (D := fun _ => False) C (hA := fun q hq => hMA q hq) h2 hp.2.1 hS hl.1 (Nat.le_of_ble_eq_true rfl) (Nat.le_of_ble_eq_true rfl) (Nat.le_of_ble_eq_true rfl) (by omega) dL_law_649 (fun H1 locs hw hz hk hS => ?_)
  replace hp := hp.m hw hk
  clear hw hz hk
  refine lv_icmp_eq (tgt := 1385) hx hb dL_law_652 (by decide) (fun cc => ?_) (fun cc => ?_)
  · refine W.widen (k := cells + 11) (n := slots + 207) (by omega) (by omega) ?_
    exact kk _ _ _ _ hp hr hS
  · exact absurd rfl cc
set_option maxHeartbeats 4000000 in
set_option maxRecDepth 100000 in
theorem LC11 {p : Program} {l : Launch} {e : Env} {s : State} {m : MethodId} {args : Array Value} {below : List Frame} {meth : Method} {c : Code} {Q : State → Prop} {G : xG} {β b L i cells slots : Nat} {A : Nat → Prop} {xs : Nat → Int32} {ret : Option FieldType} {Rel : XS → MS → Prop} {x : XS} {y : MS} {H : Heap} {locs : List Loc} {ls : Array Slot} (S0 : ST11 Rel) (C : Cx p s m args meth c RL code 4 ret (KK G)) (hDA : ∀ q, DL β q → A q) (hMA : ∀ q, AM (β + 31) q → A q) (hX : va_X b L xs s s.heap) (hbl : b < s.heap.size) (hbA : ¬ A b) (hi : i + 6 ≤ L) (hL : L ≤ 3072) (hcs : cells + 11 ≤ room_1.cells ∧ slots + 207 ≤ room_1.slots) (hp : LPc β G x y H) (hr : Rel x y) (hS : va_S A s.heap H locs) (hl : lv_has ls 4 [(0, .ref b), (1, .ref β), (2, .ref (β + 31)), (3, .int (nI i))]) (kk : ∀ (x : XS) (y : MS) (H : Heap) (locs : List Loc), LPc β G x y H → Rel x y → va_S A s.heap H locs → W p l e room_1 s m args below meth c H locs (cells + 11) (slots + 207) Q (F0 m 1385 ls [])) : W p l e room_1 s m args below meth c H locs cells slots Q (F0 m 657 ls []) := by
  have hx := C.1
  have hb := C.2.1
  have ho := C.2.2.2.1
  have hts := C.2.2.2.2.1
  obtain ⟨r, x1, y1, h1, h2, hr⟩ := S0 x y (xs (nI i + nI 1).toNatClampNeg) ((((xs (nI i + nI 2).toNatClampNeg).toInt64) <<< ((32 : Int32).toInt64 &&& 63)) ||| (((xs (nI i + nI 3).toNatClampNeg).toInt64) &&& (4294967295))) hr
  refine lv_aload_n hx hb dL_law_657 rfl (lv_at hl 1 rfl) ?_
  refine lv_aload_n hx hb dL_law_658 rfl (lv_at hl 0 rfl) ?_
  refine lv_iload_n hx hb dL_law_659 rfl (lv_at hl 3 rfl) ?_
  refine lv_iconst (v := nI 1) hx hb dL_law_660 (by decide) ?_
  refine lv_iadd hx hb dL_law_661 ?_
  refine va_sld hx hb hX hbl hbA hS (lw_idx hi (by decide) hL) dL_law_662 ?_
  refine lv_aload_n hx hb dL_law_663 rfl (lv_at hl 0 rfl) ?_
  refine lv_iload_n hx hb dL_law_664 rfl (lv_at hl 3 rfl) ?_
  refine lv_iconst (v := nI 2) hx hb dL_law_665 (by decide) ?_
  refine lv_iadd hx hb dL_law_666 ?_
  refine va_sld hx hb hX hbl hbA hS (lw_idx hi (by decide) hL) dL_law_667 ?_
  refine lv_i2l hx hb dL_law_668 rfl ?_
  refine lv_bipush (v := 32) hx hb dL_law_669 (by decide) ?_
  refine lv_lshl hx hb dL_law_671 rfl ?_
  refine lv_aload_n hx hb dL_law_672 rfl (lv_at hl 0 rfl) ?_
  refine lv_iload_n hx hb dL_law_673 rfl (lv_at hl 3 rfl) ?_
  refine lv_iconst (v := nI 3) hx hb dL_law_674 (by decide) ?_
  refine lv_iadd hx hb dL_law_675 ?_
  refine va_sld hx hb hX hbl hbA hS (lw_idx hi (by decide) hL) dL_law_676 ?_
  refine lv_i2l hx hb dL_law_677 rfl ?_
  refine lv_ldc2 (v := 4294967295) hx hb ho (hts (.constantLong RL 62 4294967295) (tg 1437 (by decide +kernel) rfl)) dL_law_678 ?_
  refine lv_land hx hb dL_law_681 ?_
  refine lv_lor hx hb dL_law_682 ?_
  refine sL_64 (γ := 0) (N := 0) C (hA := fun q hq => hDA q hq) h1 hp.1 hS hl.1 (Nat.le_of_ble_eq_true rfl) (Nat.le_of_ble_eq_true rfl) (Nat.le_of_ble_eq_true rfl) (by omega) dL_law_683 (fun H1 locs hw hz hk hS => ?_)
  replace hp := hp.x hw hz hk
  clear hw hz hk
  refine lv_aload_n hx hb dL_law_686 rfl (lv_at hl 2 rfl) ?_
  refine lv_aload_n hx hb dL_law_687 rfl (lv_at hl 0 rfl) ?_
  refine lv_iload_n hx hb dL_law_688 rfl (lv_at hl 3 rfl) ?_
  refine lv_iconst (v := nI 1) hx hb dL_law_689 (by decide) ?_
  refine lv_iadd hx hb dL_law_690 ?_
  refine va_sld hx hb hX hbl hbA hS (lw_idx hi (by decide) hL) dL_law_691 ?_
  refine lv_aload_n hx hb dL_law_692 rfl (lv_at hl 0 rfl) ?_
  refine lv_iload_n hx hb dL_law_693 rfl (lv_at hl 3 rfl) ?_
  refine lv_iconst (v := nI 2) hx hb dL_law_694 (by decide) ?_
  refine lv_iadd hx hb dL_law_695 ?_
  refine va_sld hx hb hX hbl hbA hS (lw_idx hi (by decide) hL) dL_law_696 ?_
  refine lv_i2l hx hb dL_law_697 rfl ?_
  refine lv_bipush (v := 32) hx hb dL_law_698 (by decide) ?_
  refine lv_lshl hx hb dL_law_700 rfl ?_
  refine lv_aload_n hx hb dL_law_701 rfl (lv_at hl 0 rfl) ?_
  refine lv_iload_n hx hb dL_law_702 rfl (lv_at hl 3 rfl) ?_
  refine lv_iconst (v := nI 3) hx hb dL_law_703 (by decide) ?_
  refine lv_iadd hx hb dL_law_704 ?_
  refine va_sld hx hb hX hbl hbA hS (lw_idx hi (by decide) hL) dL_law_705 ?_
  refine lv_i2l hx hb dL_law_706 rfl ?_
  refine lv_ldc2 (v := 4294967295) hx hb ho (hts (.constantLong RL 62 4294967295) (tg 1437 (by decide +kernel) rfl)) dL_law_707 ?_
  refine lv_land hx hb dL_law_710 ?_
  refine lv_lor hx hb dL_law_711 ?_
  refine sL_68 (β := 0) (D := fun _ => False) C (hA := fun q hq => hMA q hq) h2 hp.2.1 hS hl.1 (Nat.le_of_ble_eq_true rfl) (Nat.le_of_ble_eq_true rfl) (Nat.le_of_ble_eq_true rfl) (by omega) dL_law_712 (fun H1 locs hw hz hk hS => ?_)
  replace hp := hp.m hw hk
  clear hw hz hk
  refine lv_icmp_eq (tgt := 1385) hx hb dL_law_715 (by decide) (fun cc => ?_) (fun cc => ?_)
  · refine W.widen (k := cells + 11) (n := slots + 207) (by omega) (by omega) ?_
    exact kk _ _ _ _ hp hr hS
  · exact absurd rfl cc
set_option maxHeartbeats 4000000 in
set_option maxRecDepth 100000 in
theorem LC12 {p : Program} {l : Launch} {e : Env} {s : State} {m : MethodId} {args : Array Value} {below : List Frame} {meth : Method} {c : Code} {Q : State → Prop} {G : xG} {β b L i cells slots : Nat} {A : Nat → Prop} {xs : Nat → Int32} {ret : Option FieldType} {Rel : XS → MS → Prop} {x : XS} {y : MS} {H : Heap} {locs : List Loc} {ls : Array Slot} (S0 : ST12 Rel) (C : Cx p s m args meth c RL code 4 ret (KK G)) (hDA : ∀ q, DL β q → A q) (hMA : ∀ q, AM (β + 31) q → A q) (hX : va_X b L xs s s.heap) (hbl : b < s.heap.size) (hbA : ¬ A b) (hi : i + 6 ≤ L) (hL : L ≤ 3072) (hcs : cells + 11 ≤ room_1.cells ∧ slots + 207 ≤ room_1.slots) (hp : LPc β G x y H) (hr : Rel x y) (hS : va_S A s.heap H locs) (hl : lv_has ls 4 [(0, .ref b), (1, .ref β), (2, .ref (β + 31)), (3, .int (nI i))]) (kk : ∀ (x : XS) (y : MS) (H : Heap) (locs : List Loc), LPc β G x y H → Rel x y → va_S A s.heap H locs → W p l e room_1 s m args below meth c H locs (cells + 11) (slots + 207) Q (F0 m 1385 ls [])) : W p l e room_1 s m args below meth c H locs cells slots Q (F0 m 720 ls []) := by
  have hx := C.1
  have hb := C.2.1
  have ho := C.2.2.2.1
  have hts := C.2.2.2.2.1
  obtain ⟨r, x1, y1, h1, h2, hr⟩ := S0 x y hr
  refine lv_aload_n hx hb dL_law_720 rfl (lv_at hl 1 rfl) ?_
  refine sL_69 (γ := 0) (N := 0) C (hA := fun q hq => hDA q hq) (hn := fun q h => Or.inr (Nat.le_trans hp.2.2 (by rw [hp.1.1]; exact h))) h1 hp.1 hS hl.1 (Nat.le_of_ble_eq_true rfl) (Nat.le_of_ble_eq_true rfl) (Nat.le_of_ble_eq_true rfl) (by omega) dL_law_721 (fun H1 locs hw hz hk hS => ?_)
  replace hp := hp.x hw hz hk
  clear hw hz hk
  refine lv_aload_n hx hb dL_law_724 rfl (lv_at hl 2 rfl) ?_
  refine sL_73 (β := 0) (D := fun _ => False) C (hA := fun q hq => hMA q hq) h2 hp.2.1 hS hl.1 (Nat.le_of_ble_eq_true rfl) (Nat.le_of_ble_eq_true rfl) (Nat.le_of_ble_eq_true rfl) (by omega) dL_law_725 (fun H1 locs hw hz hk hS => ?_)
  replace hp := hp.m hw hk
  clear hw hz hk
  refine lv_icmp_eq (tgt := 1385) hx hb dL_law_728 (by decide) (fun cc => ?_) (fun cc => ?_)
  · refine W.widen (k := cells + 11) (n := slots + 207) (by omega) (by omega) ?_
    exact kk _ _ _ _ hp hr hS
  · exact absurd rfl cc
set_option maxHeartbeats 4000000 in
set_option maxRecDepth 100000 in
theorem LC13 {p : Program} {l : Launch} {e : Env} {s : State} {m : MethodId} {args : Array Value} {below : List Frame} {meth : Method} {c : Code} {Q : State → Prop} {G : xG} {β b L i cells slots : Nat} {A : Nat → Prop} {xs : Nat → Int32} {ret : Option FieldType} {Rel : XS → MS → Prop} {x : XS} {y : MS} {H : Heap} {locs : List Loc} {ls : Array Slot} (S0 : ST13 Rel) (C : Cx p s m args meth c RL code 4 ret (KK G)) (hDA : ∀ q, DL β q → A q) (hMA : ∀ q, AM (β + 31) q → A q) (hX : va_X b L xs s s.heap) (hbl : b < s.heap.size) (hbA : ¬ A b) (hi : i + 6 ≤ L) (hL : L ≤ 3072) (hcs : cells + 11 ≤ room_1.cells ∧ slots + 207 ≤ room_1.slots) (hp : LPc β G x y H) (hr : Rel x y) (hS : va_S A s.heap H locs) (hl : lv_has ls 4 [(0, .ref b), (1, .ref β), (2, .ref (β + 31)), (3, .int (nI i))]) (kk : ∀ (x : XS) (y : MS) (H : Heap) (locs : List Loc), LPc β G x y H → Rel x y → va_S A s.heap H locs → W p l e room_1 s m args below meth c H locs (cells + 11) (slots + 207) Q (F0 m 1385 ls [])) : W p l e room_1 s m args below meth c H locs cells slots Q (F0 m 733 ls []) := by
  have hx := C.1
  have hb := C.2.1
  have ho := C.2.2.2.1
  have hts := C.2.2.2.2.1
  obtain ⟨r, x1, y1, h1, h2, hr⟩ := S0 x y (xs (nI i + nI 1).toNatClampNeg) hr
  refine lv_aload_n hx hb dL_law_733 rfl (lv_at hl 1 rfl) ?_
  refine lv_aload_n hx hb dL_law_734 rfl (lv_at hl 0 rfl) ?_
  refine lv_iload_n hx hb dL_law_735 rfl (lv_at hl 3 rfl) ?_
  refine lv_iconst (v := nI 1) hx hb dL_law_736 (by decide) ?_
  refine lv_iadd hx hb dL_law_737 ?_
  refine va_sld hx hb hX hbl hbA hS (lw_idx hi (by decide) hL) dL_law_738 ?_
  refine sL_74 (γ := 0) (N := 0) C (hA := fun q hq => hDA q hq) h1 hp.1 hS hl.1 (Nat.le_of_ble_eq_true rfl) (Nat.le_of_ble_eq_true rfl) (Nat.le_of_ble_eq_true rfl) (by omega) dL_law_739 (fun H1 locs hw hz hk hS => ?_)
  replace hp := hp.x hw hz hk
  clear hw hz hk
  refine lv_aload_n hx hb dL_law_742 rfl (lv_at hl 2 rfl) ?_
  refine lv_aload_n hx hb dL_law_743 rfl (lv_at hl 0 rfl) ?_
  refine lv_iload_n hx hb dL_law_744 rfl (lv_at hl 3 rfl) ?_
  refine lv_iconst (v := nI 1) hx hb dL_law_745 (by decide) ?_
  refine lv_iadd hx hb dL_law_746 ?_
  refine va_sld hx hb hX hbl hbA hS (lw_idx hi (by decide) hL) dL_law_747 ?_
  refine sL_78 (β := 0) (D := fun _ => False) C (hA := fun q hq => hMA q hq) h2 hp.2.1 hS hl.1 (Nat.le_of_ble_eq_true rfl) (Nat.le_of_ble_eq_true rfl) (Nat.le_of_ble_eq_true rfl) (by omega) dL_law_748 (fun H1 locs hw hz hk hS => ?_)
  replace hp := hp.m hw hk
  clear hw hz hk
  refine lv_icmp_eq (tgt := 1385) hx hb dL_law_751 (by decide) (fun cc => ?_) (fun cc => ?_)
  · refine W.widen (k := cells + 11) (n := slots + 207) (by omega) (by omega) ?_
    exact kk _ _ _ _ hp hr hS
  · exact absurd rfl cc
set_option maxHeartbeats 4000000 in
set_option maxRecDepth 100000 in
theorem LC14 {p : Program} {l : Launch} {e : Env} {s : State} {m : MethodId} {args : Array Value} {below : List Frame} {meth : Method} {c : Code} {Q : State → Prop} {G : xG} {β b L i cells slots : Nat} {A : Nat → Prop} {xs : Nat → Int32} {ret : Option FieldType} {Rel : XS → MS → Prop} {x : XS} {y : MS} {H : Heap} {locs : List Loc} {ls : Array Slot} (S0 : ST14 Rel) (C : Cx p s m args meth c RL code 4 ret (KK G)) (hDA : ∀ q, DL β q → A q) (hMA : ∀ q, AM (β + 31) q → A q) (hX : va_X b L xs s s.heap) (hbl : b < s.heap.size) (hbA : ¬ A b) (hi : i + 6 ≤ L) (hL : L ≤ 3072) (hcs : cells + 11 ≤ room_1.cells ∧ slots + 207 ≤ room_1.slots) (hp : LPc β G x y H) (hr : Rel x y) (hS : va_S A s.heap H locs) (hl : lv_has ls 4 [(0, .ref b), (1, .ref β), (2, .ref (β + 31)), (3, .int (nI i))]) (kk : ∀ (x : XS) (y : MS) (H : Heap) (locs : List Loc), LPc β G x y H → Rel x y → va_S A s.heap H locs → W p l e room_1 s m args below meth c H locs (cells + 11) (slots + 207) Q (F0 m 1385 ls [])) : W p l e room_1 s m args below meth c H locs cells slots Q (F0 m 756 ls []) := by
  have hx := C.1
  have hb := C.2.1
  have ho := C.2.2.2.1
  have hts := C.2.2.2.2.1
  obtain ⟨r, x1, y1, h1, h2, hr⟩ := S0 x y (xs (nI i + nI 1).toNatClampNeg) (xs (nI i + nI 2).toNatClampNeg) (xs (nI i + nI 3).toNatClampNeg) hr
  refine lv_aload_n hx hb dL_law_756 rfl (lv_at hl 1 rfl) ?_
  refine lv_aload_n hx hb dL_law_757 rfl (lv_at hl 0 rfl) ?_
  refine lv_iload_n hx hb dL_law_758 rfl (lv_at hl 3 rfl) ?_
  refine lv_iconst (v := nI 1) hx hb dL_law_759 (by decide) ?_
  refine lv_iadd hx hb dL_law_760 ?_
  refine va_sld hx hb hX hbl hbA hS (lw_idx hi (by decide) hL) dL_law_761 ?_
  refine lv_aload_n hx hb dL_law_762 rfl (lv_at hl 0 rfl) ?_
  refine lv_iload_n hx hb dL_law_763 rfl (lv_at hl 3 rfl) ?_
  refine lv_iconst (v := nI 2) hx hb dL_law_764 (by decide) ?_
  refine lv_iadd hx hb dL_law_765 ?_
  refine va_sld hx hb hX hbl hbA hS (lw_idx hi (by decide) hL) dL_law_766 ?_
  refine lv_aload_n hx hb dL_law_767 rfl (lv_at hl 0 rfl) ?_
  refine lv_iload_n hx hb dL_law_768 rfl (lv_at hl 3 rfl) ?_
  refine lv_iconst (v := nI 3) hx hb dL_law_769 (by decide) ?_
  refine lv_iadd hx hb dL_law_770 ?_
  refine va_sld hx hb hX hbl hbA hS (lw_idx hi (by decide) hL) dL_law_771 ?_
  refine sL_79 (γ := 0) (N := 0) C (hA := fun q hq => hDA q hq) (hn := fun q h => Or.inr (Nat.le_trans hp.2.2 (by rw [hp.1.1]; exact h))) h1 hp.1 hS hl.1 (Nat.le_of_ble_eq_true rfl) (Nat.le_of_ble_eq_true rfl) (Nat.le_of_ble_eq_true rfl) (by omega) dL_law_772 (fun H1 locs hw hz hk hS => ?_)
  replace hp := hp.x hw hz hk
  clear hw hz hk
  refine lv_aload_n hx hb dL_law_775 rfl (lv_at hl 2 rfl) ?_
  refine lv_aload_n hx hb dL_law_776 rfl (lv_at hl 0 rfl) ?_
  refine lv_iload_n hx hb dL_law_777 rfl (lv_at hl 3 rfl) ?_
  refine lv_iconst (v := nI 1) hx hb dL_law_778 (by decide) ?_
  refine lv_iadd hx hb dL_law_779 ?_
  refine va_sld hx hb hX hbl hbA hS (lw_idx hi (by decide) hL) dL_law_780 ?_
  refine lv_aload_n hx hb dL_law_781 rfl (lv_at hl 0 rfl) ?_
  refine lv_iload_n hx hb dL_law_782 rfl (lv_at hl 3 rfl) ?_
  refine lv_iconst (v := nI 2) hx hb dL_law_783 (by decide) ?_
  refine lv_iadd hx hb dL_law_784 ?_
  refine va_sld hx hb hX hbl hbA hS (lw_idx hi (by decide) hL) dL_law_785 ?_
  refine lv_aload_n hx hb dL_law_786 rfl (lv_at hl 0 rfl) ?_
  refine lv_iload_n hx hb dL_law_787 rfl (lv_at hl 3 rfl) ?_
  refine lv_iconst (v := nI 3) hx hb dL_law_788 (by decide) ?_
  refine lv_iadd hx hb dL_law_789 ?_
  refine va_sld hx hb hX hbl hbA hS (lw_idx hi (by decide) hL) dL_law_790 ?_
  refine sL_82 (β := 0) (D := fun _ => False) C (hA := fun q hq => hMA q hq) h2 hp.2.1 hS hl.1 (Nat.le_of_ble_eq_true rfl) (Nat.le_of_ble_eq_true rfl) (Nat.le_of_ble_eq_true rfl) (by omega) dL_law_791 (fun H1 locs hw hz hk hS => ?_)
  replace hp := hp.m hw hk
  clear hw hz hk
  refine lv_icmp_eq (tgt := 1385) hx hb dL_law_794 (by decide) (fun cc => ?_) (fun cc => ?_)
  · refine W.widen (k := cells + 11) (n := slots + 207) (by omega) (by omega) ?_
    exact kk _ _ _ _ hp hr hS
  · exact absurd rfl cc
set_option maxHeartbeats 4000000 in
set_option maxRecDepth 100000 in
theorem LC15 {p : Program} {l : Launch} {e : Env} {s : State} {m : MethodId} {args : Array Value} {below : List Frame} {meth : Method} {c : Code} {Q : State → Prop} {G : xG} {β b L i cells slots : Nat} {A : Nat → Prop} {xs : Nat → Int32} {ret : Option FieldType} {Rel : XS → MS → Prop} {x : XS} {y : MS} {H : Heap} {locs : List Loc} {ls : Array Slot} (S0 : ST15 Rel) (C : Cx p s m args meth c RL code 4 ret (KK G)) (hDA : ∀ q, DL β q → A q) (hMA : ∀ q, AM (β + 31) q → A q) (hX : va_X b L xs s s.heap) (hbl : b < s.heap.size) (hbA : ¬ A b) (hi : i + 6 ≤ L) (hL : L ≤ 3072) (hcs : cells + 11 ≤ room_1.cells ∧ slots + 207 ≤ room_1.slots) (hp : LPc β G x y H) (hr : Rel x y) (hS : va_S A s.heap H locs) (hl : lv_has ls 4 [(0, .ref b), (1, .ref β), (2, .ref (β + 31)), (3, .int (nI i))]) (kk : ∀ (x : XS) (y : MS) (H : Heap) (locs : List Loc), LPc β G x y H → Rel x y → va_S A s.heap H locs → W p l e room_1 s m args below meth c H locs (cells + 11) (slots + 207) Q (F0 m 1385 ls [])) : W p l e room_1 s m args below meth c H locs cells slots Q (F0 m 799 ls []) := by
  have hx := C.1
  have hb := C.2.1
  have ho := C.2.2.2.1
  have hts := C.2.2.2.2.1
  obtain ⟨r, h1, h2, hr⟩ := S0 x y (xs (nI i + nI 1).toNatClampNeg) (xs (nI i + nI 2).toNatClampNeg) hr
  refine lv_aload_n hx hb dL_law_799 rfl (lv_at hl 1 rfl) ?_
  refine lv_aload_n hx hb dL_law_800 rfl (lv_at hl 0 rfl) ?_
  refine lv_iload_n hx hb dL_law_801 rfl (lv_at hl 3 rfl) ?_
  refine lv_iconst (v := nI 1) hx hb dL_law_802 (by decide) ?_
  refine lv_iadd hx hb dL_law_803 ?_
  refine va_sld hx hb hX hbl hbA hS (lw_idx hi (by decide) hL) dL_law_804 ?_
  refine lv_aload_n hx hb dL_law_805 rfl (lv_at hl 0 rfl) ?_
  refine lv_iload_n hx hb dL_law_806 rfl (lv_at hl 3 rfl) ?_
  refine lv_iconst (v := nI 2) hx hb dL_law_807 (by decide) ?_
  refine lv_iadd hx hb dL_law_808 ?_
  refine va_sld hx hb hX hbl hbA hS (lw_idx hi (by decide) hL) dL_law_809 ?_
  refine sL_83 (γ := 0) (N := 0) C (hA := fun q hq => hDA q hq) h1 hp.1 hS hl.1 (Nat.le_of_ble_eq_true rfl) (Nat.le_of_ble_eq_true rfl) (Nat.le_of_ble_eq_true rfl) (by omega) dL_law_810 (fun H1 locs hw hz hk hS => ?_)
  replace hp := hp.x hw hz hk
  clear hw hz hk
  refine lv_aload_n hx hb dL_law_813 rfl (lv_at hl 2 rfl) ?_
  refine lv_aload_n hx hb dL_law_814 rfl (lv_at hl 0 rfl) ?_
  refine lv_iload_n hx hb dL_law_815 rfl (lv_at hl 3 rfl) ?_
  refine lv_iconst (v := nI 1) hx hb dL_law_816 (by decide) ?_
  refine lv_iadd hx hb dL_law_817 ?_
  refine va_sld hx hb hX hbl hbA hS (lw_idx hi (by decide) hL) dL_law_818 ?_
  refine lv_aload_n hx hb dL_law_819 rfl (lv_at hl 0 rfl) ?_
  refine lv_iload_n hx hb dL_law_820 rfl (lv_at hl 3 rfl) ?_
  refine lv_iconst (v := nI 2) hx hb dL_law_821 (by decide) ?_
  refine lv_iadd hx hb dL_law_822 ?_
  refine va_sld hx hb hX hbl hbA hS (lw_idx hi (by decide) hL) dL_law_823 ?_
  refine sL_86 (β := 0) (D := fun _ => False) C (hA := fun q hq => hMA q hq) h2 hp.2.1 hS hl.1 (Nat.le_of_ble_eq_true rfl) (Nat.le_of_ble_eq_true rfl) (Nat.le_of_ble_eq_true rfl) (by omega) dL_law_824 (fun H1 locs hw hz hk hS => ?_)
  replace hp := hp.m hw hk
  clear hw hz hk
  refine lv_icmp_eq (tgt := 1385) hx hb dL_law_827 (by decide) (fun cc => ?_) (fun cc => ?_)
  · refine W.widen (k := cells + 11) (n := slots + 207) (by omega) (by omega) ?_
    exact kk _ _ _ _ hp hr hS
  · exact absurd rfl cc
set_option maxHeartbeats 4000000 in
set_option maxRecDepth 100000 in
theorem LC16 {p : Program} {l : Launch} {e : Env} {s : State} {m : MethodId} {args : Array Value} {below : List Frame} {meth : Method} {c : Code} {Q : State → Prop} {G : xG} {β b L i cells slots : Nat} {A : Nat → Prop} {xs : Nat → Int32} {ret : Option FieldType} {Rel : XS → MS → Prop} {x : XS} {y : MS} {H : Heap} {locs : List Loc} {ls : Array Slot} (S0 : ST16 Rel) (C : Cx p s m args meth c RL code 4 ret (KK G)) (hDA : ∀ q, DL β q → A q) (hMA : ∀ q, AM (β + 31) q → A q) (hX : va_X b L xs s s.heap) (hbl : b < s.heap.size) (hbA : ¬ A b) (hi : i + 6 ≤ L) (hL : L ≤ 3072) (hcs : cells + 11 ≤ room_1.cells ∧ slots + 207 ≤ room_1.slots) (hp : LPc β G x y H) (hr : Rel x y) (hS : va_S A s.heap H locs) (hl : lv_has ls 4 [(0, .ref b), (1, .ref β), (2, .ref (β + 31)), (3, .int (nI i))]) (kk : ∀ (x : XS) (y : MS) (H : Heap) (locs : List Loc), LPc β G x y H → Rel x y → va_S A s.heap H locs → W p l e room_1 s m args below meth c H locs (cells + 11) (slots + 207) Q (F0 m 1385 ls [])) : W p l e room_1 s m args below meth c H locs cells slots Q (F0 m 832 ls []) := by
  have hx := C.1
  have hb := C.2.1
  have ho := C.2.2.2.1
  have hts := C.2.2.2.2.1
  obtain ⟨r, h1, h2, hr⟩ := S0 x y (xs (nI i + nI 1).toNatClampNeg) (xs (nI i + nI 2).toNatClampNeg) hr
  refine lv_aload_n hx hb dL_law_832 rfl (lv_at hl 1 rfl) ?_
  refine lv_aload_n hx hb dL_law_833 rfl (lv_at hl 0 rfl) ?_
  refine lv_iload_n hx hb dL_law_834 rfl (lv_at hl 3 rfl) ?_
  refine lv_iconst (v := nI 1) hx hb dL_law_835 (by decide) ?_
  refine lv_iadd hx hb dL_law_836 ?_
  refine va_sld hx hb hX hbl hbA hS (lw_idx hi (by decide) hL) dL_law_837 ?_
  refine lv_aload_n hx hb dL_law_838 rfl (lv_at hl 0 rfl) ?_
  refine lv_iload_n hx hb dL_law_839 rfl (lv_at hl 3 rfl) ?_
  refine lv_iconst (v := nI 2) hx hb dL_law_840 (by decide) ?_
  refine lv_iadd hx hb dL_law_841 ?_
  refine va_sld hx hb hX hbl hbA hS (lw_idx hi (by decide) hL) dL_law_842 ?_
  refine sL_87 (γ := 0) (N := 0) C (hA := fun q hq => hDA q hq) h1 hp.1 hS hl.1 (Nat.le_of_ble_eq_true rfl) (Nat.le_of_ble_eq_true rfl) (Nat.le_of_ble_eq_true rfl) (by omega) dL_law_843 (fun H1 locs hw hz hk hS => ?_)
  replace hp := hp.x hw hz hk
  clear hw hz hk
  refine lv_aload_n hx hb dL_law_846 rfl (lv_at hl 2 rfl) ?_
  refine lv_aload_n hx hb dL_law_847 rfl (lv_at hl 0 rfl) ?_
  refine lv_iload_n hx hb dL_law_848 rfl (lv_at hl 3 rfl) ?_
  refine lv_iconst (v := nI 1) hx hb dL_law_849 (by decide) ?_
  refine lv_iadd hx hb dL_law_850 ?_
  refine va_sld hx hb hX hbl hbA hS (lw_idx hi (by decide) hL) dL_law_851 ?_
  refine lv_aload_n hx hb dL_law_852 rfl (lv_at hl 0 rfl) ?_
  refine lv_iload_n hx hb dL_law_853 rfl (lv_at hl 3 rfl) ?_
  refine lv_iconst (v := nI 2) hx hb dL_law_854 (by decide) ?_
  refine lv_iadd hx hb dL_law_855 ?_
  refine va_sld hx hb hX hbl hbA hS (lw_idx hi (by decide) hL) dL_law_856 ?_
  refine sL_90 (β := 0) (D := fun _ => False) C (hA := fun q hq => hMA q hq) h2 hp.2.1 hS hl.1 (Nat.le_of_ble_eq_true rfl) (Nat.le_of_ble_eq_true rfl) (Nat.le_of_ble_eq_true rfl) (by omega) dL_law_857 (fun H1 locs hw hz hk hS => ?_)
  replace hp := hp.m hw hk
  clear hw hz hk
  refine lv_icmp_eq (tgt := 1385) hx hb dL_law_860 (by decide) (fun cc => ?_) (fun cc => ?_)
  · refine W.widen (k := cells + 11) (n := slots + 207) (by omega) (by omega) ?_
    exact kk _ _ _ _ hp hr hS
  · exact absurd rfl cc
set_option maxHeartbeats 4000000 in
set_option maxRecDepth 100000 in
theorem LC17 {p : Program} {l : Launch} {e : Env} {s : State} {m : MethodId} {args : Array Value} {below : List Frame} {meth : Method} {c : Code} {Q : State → Prop} {G : xG} {β b L i cells slots : Nat} {A : Nat → Prop} {xs : Nat → Int32} {ret : Option FieldType} {Rel : XS → MS → Prop} {x : XS} {y : MS} {H : Heap} {locs : List Loc} {ls : Array Slot} (S0 : ST17 Rel) (C : Cx p s m args meth c RL code 4 ret (KK G)) (hDA : ∀ q, DL β q → A q) (hMA : ∀ q, AM (β + 31) q → A q) (hX : va_X b L xs s s.heap) (hbl : b < s.heap.size) (hbA : ¬ A b) (hi : i + 6 ≤ L) (hL : L ≤ 3072) (hcs : cells + 11 ≤ room_1.cells ∧ slots + 207 ≤ room_1.slots) (hp : LPc β G x y H) (hr : Rel x y) (hS : va_S A s.heap H locs) (hl : lv_has ls 4 [(0, .ref b), (1, .ref β), (2, .ref (β + 31)), (3, .int (nI i))]) (kk : ∀ (x : XS) (y : MS) (H : Heap) (locs : List Loc), LPc β G x y H → Rel x y → va_S A s.heap H locs → W p l e room_1 s m args below meth c H locs (cells + 11) (slots + 207) Q (F0 m 1385 ls [])) : W p l e room_1 s m args below meth c H locs cells slots Q (F0 m 865 ls []) := by
  have hx := C.1
  have hb := C.2.1
  have ho := C.2.2.2.1
  have hts := C.2.2.2.2.1
  obtain ⟨r, h1, h2, hr⟩ := S0 x y (xs (nI i + nI 1).toNatClampNeg) hr
  refine lv_aload_n hx hb dL_law_865 rfl (lv_at hl 1 rfl) ?_
  refine lv_aload_n hx hb dL_law_866 rfl (lv_at hl 0 rfl) ?_
  refine lv_iload_n hx hb dL_law_867 rfl (lv_at hl 3 rfl) ?_
  refine lv_iconst (v := nI 1) hx hb dL_law_868 (by decide) ?_
  refine lv_iadd hx hb dL_law_869 ?_
  refine va_sld hx hb hX hbl hbA hS (lw_idx hi (by decide) hL) dL_law_870 ?_
  refine sL_91 (γ := 0) (N := 0) C (hA := fun q hq => hDA q hq) h1 hp.1 hS hl.1 (Nat.le_of_ble_eq_true rfl) (Nat.le_of_ble_eq_true rfl) (Nat.le_of_ble_eq_true rfl) (by omega) dL_law_871 (fun H1 locs hw hz hk hS => ?_)
  replace hp := hp.x hw hz hk
  clear hw hz hk
  refine lv_aload_n hx hb dL_law_874 rfl (lv_at hl 2 rfl) ?_
  refine lv_aload_n hx hb dL_law_875 rfl (lv_at hl 0 rfl) ?_
  refine lv_iload_n hx hb dL_law_876 rfl (lv_at hl 3 rfl) ?_
  refine lv_iconst (v := nI 1) hx hb dL_law_877 (by decide) ?_
  refine lv_iadd hx hb dL_law_878 ?_
  refine va_sld hx hb hX hbl hbA hS (lw_idx hi (by decide) hL) dL_law_879 ?_
  refine sL_94 (β := 0) (D := fun _ => False) C (hA := fun q hq => hMA q hq) h2 hp.2.1 hS hl.1 (Nat.le_of_ble_eq_true rfl) (Nat.le_of_ble_eq_true rfl) (Nat.le_of_ble_eq_true rfl) (by omega) dL_law_880 (fun H1 locs hw hz hk hS => ?_)
  replace hp := hp.m hw hk
  clear hw hz hk
  refine lv_icmp_eq (tgt := 1385) hx hb dL_law_883 (by decide) (fun cc => ?_) (fun cc => ?_)
  · refine W.widen (k := cells + 11) (n := slots + 207) (by omega) (by omega) ?_
    exact kk _ _ _ _ hp hr hS
  · exact absurd rfl cc
set_option maxHeartbeats 4000000 in
set_option maxRecDepth 100000 in
theorem LC18 {p : Program} {l : Launch} {e : Env} {s : State} {m : MethodId} {args : Array Value} {below : List Frame} {meth : Method} {c : Code} {Q : State → Prop} {G : xG} {β b L i cells slots : Nat} {A : Nat → Prop} {xs : Nat → Int32} {ret : Option FieldType} {Rel : XS → MS → Prop} {x : XS} {y : MS} {H : Heap} {locs : List Loc} {ls : Array Slot} (S0 : ST18 Rel) (C : Cx p s m args meth c RL code 4 ret (KK G)) (hDA : ∀ q, DL β q → A q) (hMA : ∀ q, AM (β + 31) q → A q) (hX : va_X b L xs s s.heap) (hbl : b < s.heap.size) (hbA : ¬ A b) (hi : i + 6 ≤ L) (hL : L ≤ 3072) (hcs : cells + 11 ≤ room_1.cells ∧ slots + 207 ≤ room_1.slots) (hp : LPc β G x y H) (hr : Rel x y) (hS : va_S A s.heap H locs) (hl : lv_has ls 4 [(0, .ref b), (1, .ref β), (2, .ref (β + 31)), (3, .int (nI i))]) (kk : ∀ (x : XS) (y : MS) (H : Heap) (locs : List Loc), LPc β G x y H → Rel x y → va_S A s.heap H locs → W p l e room_1 s m args below meth c H locs (cells + 11) (slots + 207) Q (F0 m 1385 ls [])) : W p l e room_1 s m args below meth c H locs cells slots Q (F0 m 888 ls []) := by
  have hx := C.1
  have hb := C.2.1
  have ho := C.2.2.2.1
  have hts := C.2.2.2.2.1
  obtain ⟨r, h1, h2, hr⟩ := S0 x y (xs (nI i + nI 1).toNatClampNeg) (xs (nI i + nI 2).toNatClampNeg) (xs (nI i + nI 3).toNatClampNeg) hr
  refine lv_aload_n hx hb dL_law_888 rfl (lv_at hl 1 rfl) ?_
  refine lv_aload_n hx hb dL_law_889 rfl (lv_at hl 0 rfl) ?_
  refine lv_iload_n hx hb dL_law_890 rfl (lv_at hl 3 rfl) ?_
  refine lv_iconst (v := nI 1) hx hb dL_law_891 (by decide) ?_
  refine lv_iadd hx hb dL_law_892 ?_
  refine va_sld hx hb hX hbl hbA hS (lw_idx hi (by decide) hL) dL_law_893 ?_
  refine lv_aload_n hx hb dL_law_894 rfl (lv_at hl 0 rfl) ?_
  refine lv_iload_n hx hb dL_law_895 rfl (lv_at hl 3 rfl) ?_
  refine lv_iconst (v := nI 2) hx hb dL_law_896 (by decide) ?_
  refine lv_iadd hx hb dL_law_897 ?_
  refine va_sld hx hb hX hbl hbA hS (lw_idx hi (by decide) hL) dL_law_898 ?_
  refine lv_aload_n hx hb dL_law_899 rfl (lv_at hl 0 rfl) ?_
  refine lv_iload_n hx hb dL_law_900 rfl (lv_at hl 3 rfl) ?_
  refine lv_iconst (v := nI 3) hx hb dL_law_901 (by decide) ?_
  refine lv_iadd hx hb dL_law_902 ?_
  refine va_sld hx hb hX hbl hbA hS (lw_idx hi (by decide) hL) dL_law_903 ?_
  refine sL_95 (γ := 0) (N := 0) C (hA := fun q hq => hDA q hq) h1 hp.1 hS hl.1 (Nat.le_of_ble_eq_true rfl) (Nat.le_of_ble_eq_true rfl) (Nat.le_of_ble_eq_true rfl) (by omega) dL_law_904 (fun H1 locs hw hz hk hS => ?_)
  replace hp := hp.x hw hz hk
  clear hw hz hk
  refine lv_aload_n hx hb dL_law_907 rfl (lv_at hl 2 rfl) ?_
  refine lv_aload_n hx hb dL_law_908 rfl (lv_at hl 0 rfl) ?_
  refine lv_iload_n hx hb dL_law_909 rfl (lv_at hl 3 rfl) ?_
  refine lv_iconst (v := nI 1) hx hb dL_law_910 (by decide) ?_
  refine lv_iadd hx hb dL_law_911 ?_
  refine va_sld hx hb hX hbl hbA hS (lw_idx hi (by decide) hL) dL_law_912 ?_
  refine lv_aload_n hx hb dL_law_913 rfl (lv_at hl 0 rfl) ?_
  refine lv_iload_n hx hb dL_law_914 rfl (lv_at hl 3 rfl) ?_
  refine lv_iconst (v := nI 2) hx hb dL_law_915 (by decide) ?_
  refine lv_iadd hx hb dL_law_916 ?_
  refine va_sld hx hb hX hbl hbA hS (lw_idx hi (by decide) hL) dL_law_917 ?_
  refine lv_aload_n hx hb dL_law_918 rfl (lv_at hl 0 rfl) ?_
  refine lv_iload_n hx hb dL_law_919 rfl (lv_at hl 3 rfl) ?_
  refine lv_iconst (v := nI 3) hx hb dL_law_920 (by decide) ?_
  refine lv_iadd hx hb dL_law_921 ?_
  refine va_sld hx hb hX hbl hbA hS (lw_idx hi (by decide) hL) dL_law_922 ?_
  refine sL_98 (β := 0) (D := fun _ => False) C (hA := fun q hq => hMA q hq) h2 hp.2.1 hS hl.1 (Nat.le_of_ble_eq_true rfl) (Nat.le_of_ble_eq_true rfl) (Nat.le_of_ble_eq_true rfl) (by omega) dL_law_923 (fun H1 locs hw hz hk hS => ?_)
  replace hp := hp.m hw hk
  clear hw hz hk
  refine lv_icmp_eq (tgt := 1385) hx hb dL_law_926 (by decide) (fun cc => ?_) (fun cc => ?_)
  · refine W.widen (k := cells + 11) (n := slots + 207) (by omega) (by omega) ?_
    exact kk _ _ _ _ hp hr hS
  · exact absurd rfl cc
set_option maxHeartbeats 4000000 in
set_option maxRecDepth 100000 in
theorem LC19 {p : Program} {l : Launch} {e : Env} {s : State} {m : MethodId} {args : Array Value} {below : List Frame} {meth : Method} {c : Code} {Q : State → Prop} {G : xG} {β b L i cells slots : Nat} {A : Nat → Prop} {xs : Nat → Int32} {ret : Option FieldType} {Rel : XS → MS → Prop} {x : XS} {y : MS} {H : Heap} {locs : List Loc} {ls : Array Slot} (S0 : ST19 Rel) (C : Cx p s m args meth c RL code 4 ret (KK G)) (hDA : ∀ q, DL β q → A q) (hMA : ∀ q, AM (β + 31) q → A q) (hX : va_X b L xs s s.heap) (hbl : b < s.heap.size) (hbA : ¬ A b) (hi : i + 6 ≤ L) (hL : L ≤ 3072) (hcs : cells + 11 ≤ room_1.cells ∧ slots + 207 ≤ room_1.slots) (hp : LPc β G x y H) (hr : Rel x y) (hS : va_S A s.heap H locs) (hl : lv_has ls 4 [(0, .ref b), (1, .ref β), (2, .ref (β + 31)), (3, .int (nI i))]) (kk : ∀ (x : XS) (y : MS) (H : Heap) (locs : List Loc), LPc β G x y H → Rel x y → va_S A s.heap H locs → W p l e room_1 s m args below meth c H locs (cells + 11) (slots + 207) Q (F0 m 1385 ls [])) : W p l e room_1 s m args below meth c H locs cells slots Q (F0 m 931 ls []) := by
  have hx := C.1
  have hb := C.2.1
  have ho := C.2.2.2.1
  have hts := C.2.2.2.2.1
  obtain ⟨r, x1, y1, h1, h2, hr⟩ := S0 x y (xs (nI i + nI 1).toNatClampNeg) (xs (nI i + nI 2).toNatClampNeg) (xs (nI i + nI 3).toNatClampNeg) (xs (nI i + nI 4).toNatClampNeg) (xs (nI i + nI 5).toNatClampNeg) hr
  refine lv_aload_n hx hb dL_law_931 rfl (lv_at hl 1 rfl) ?_
  refine lv_aload_n hx hb dL_law_932 rfl (lv_at hl 0 rfl) ?_
  refine lv_iload_n hx hb dL_law_933 rfl (lv_at hl 3 rfl) ?_
  refine lv_iconst (v := nI 1) hx hb dL_law_934 (by decide) ?_
  refine lv_iadd hx hb dL_law_935 ?_
  refine va_sld hx hb hX hbl hbA hS (lw_idx hi (by decide) hL) dL_law_936 ?_
  refine lv_aload_n hx hb dL_law_937 rfl (lv_at hl 0 rfl) ?_
  refine lv_iload_n hx hb dL_law_938 rfl (lv_at hl 3 rfl) ?_
  refine lv_iconst (v := nI 2) hx hb dL_law_939 (by decide) ?_
  refine lv_iadd hx hb dL_law_940 ?_
  refine va_sld hx hb hX hbl hbA hS (lw_idx hi (by decide) hL) dL_law_941 ?_
  refine lv_aload_n hx hb dL_law_942 rfl (lv_at hl 0 rfl) ?_
  refine lv_iload_n hx hb dL_law_943 rfl (lv_at hl 3 rfl) ?_
  refine lv_iconst (v := nI 3) hx hb dL_law_944 (by decide) ?_
  refine lv_iadd hx hb dL_law_945 ?_
  refine va_sld hx hb hX hbl hbA hS (lw_idx hi (by decide) hL) dL_law_946 ?_
  refine lv_aload_n hx hb dL_law_947 rfl (lv_at hl 0 rfl) ?_
  refine lv_iload_n hx hb dL_law_948 rfl (lv_at hl 3 rfl) ?_
  refine lv_iconst (v := nI 4) hx hb dL_law_949 (by decide) ?_
  refine lv_iadd hx hb dL_law_950 ?_
  refine va_sld hx hb hX hbl hbA hS (lw_idx hi (by decide) hL) dL_law_951 ?_
  refine lv_aload_n hx hb dL_law_952 rfl (lv_at hl 0 rfl) ?_
  refine lv_iload_n hx hb dL_law_953 rfl (lv_at hl 3 rfl) ?_
  refine lv_iconst (v := nI 5) hx hb dL_law_954 (by decide) ?_
  refine lv_iadd hx hb dL_law_955 ?_
  refine va_sld hx hb hX hbl hbA hS (lw_idx hi (by decide) hL) dL_law_956 ?_
  refine sL_99 (γ := 0) (N := 0) C (hA := fun q hq => hDA q hq) h1 hp.1 hS hl.1 (Nat.le_of_ble_eq_true rfl) (Nat.le_of_ble_eq_true rfl) (Nat.le_of_ble_eq_true rfl) (by omega) dL_law_957 (fun H1 locs hw hz hk hS => ?_)
  replace hp := hp.x hw hz hk
  clear hw hz hk
  refine lv_aload_n hx hb dL_law_960 rfl (lv_at hl 2 rfl) ?_
  refine lv_aload_n hx hb dL_law_961 rfl (lv_at hl 0 rfl) ?_
  refine lv_iload_n hx hb dL_law_962 rfl (lv_at hl 3 rfl) ?_
  refine lv_iconst (v := nI 1) hx hb dL_law_963 (by decide) ?_
  refine lv_iadd hx hb dL_law_964 ?_
  refine va_sld hx hb hX hbl hbA hS (lw_idx hi (by decide) hL) dL_law_965 ?_
  refine lv_aload_n hx hb dL_law_966 rfl (lv_at hl 0 rfl) ?_
  refine lv_iload_n hx hb dL_law_967 rfl (lv_at hl 3 rfl) ?_
  refine lv_iconst (v := nI 2) hx hb dL_law_968 (by decide) ?_
  refine lv_iadd hx hb dL_law_969 ?_
  refine va_sld hx hb hX hbl hbA hS (lw_idx hi (by decide) hL) dL_law_970 ?_
  refine lv_aload_n hx hb dL_law_971 rfl (lv_at hl 0 rfl) ?_
  refine lv_iload_n hx hb dL_law_972 rfl (lv_at hl 3 rfl) ?_
  refine lv_iconst (v := nI 3) hx hb dL_law_973 (by decide) ?_
  refine lv_iadd hx hb dL_law_974 ?_
  refine va_sld hx hb hX hbl hbA hS (lw_idx hi (by decide) hL) dL_law_975 ?_
  refine lv_aload_n hx hb dL_law_976 rfl (lv_at hl 0 rfl) ?_
  refine lv_iload_n hx hb dL_law_977 rfl (lv_at hl 3 rfl) ?_
  refine lv_iconst (v := nI 4) hx hb dL_law_978 (by decide) ?_
  refine lv_iadd hx hb dL_law_979 ?_
  refine va_sld hx hb hX hbl hbA hS (lw_idx hi (by decide) hL) dL_law_980 ?_
  refine lv_aload_n hx hb dL_law_981 rfl (lv_at hl 0 rfl) ?_
  refine lv_iload_n hx hb dL_law_982 rfl (lv_at hl 3 rfl) ?_
  refine lv_iconst (v := nI 5) hx hb dL_law_983 (by decide) ?_
  refine lv_iadd hx hb dL_law_984 ?_
  refine va_sld hx hb hX hbl hbA hS (lw_idx hi (by decide) hL) dL_law_985 ?_
  refine sL_102 (β := 0) (D := fun _ => False) C (hA := fun q hq => hMA q hq) h2 hp.2.1 hS hl.1 (Nat.le_of_ble_eq_true rfl) (Nat.le_of_ble_eq_true rfl) (Nat.le_of_ble_eq_true rfl) (by omega) dL_law_986 (fun H1 locs hw hz hk hS => ?_)
  replace hp := hp.m hw hk
  clear hw hz hk
  refine W.lcmp hx hb dL_law_989 ?_
  refine lv_if_eq (tgt := 1385) hx hb dL_law_990 (by decide) (fun cc => ?_) (fun cc => ?_)
  · refine W.widen (k := cells + 11) (n := slots + 207) (by omega) (by omega) ?_
    exact kk _ _ _ _ hp hr hS
  · exact absurd ((lg_cmp_eq _ _).mpr rfl) cc
set_option maxHeartbeats 4000000 in
set_option maxRecDepth 100000 in
theorem LC20 {p : Program} {l : Launch} {e : Env} {s : State} {m : MethodId} {args : Array Value} {below : List Frame} {meth : Method} {c : Code} {Q : State → Prop} {G : xG} {β b L i cells slots : Nat} {A : Nat → Prop} {xs : Nat → Int32} {ret : Option FieldType} {Rel : XS → MS → Prop} {x : XS} {y : MS} {H : Heap} {locs : List Loc} {ls : Array Slot} (S0 : ST20 Rel) (C : Cx p s m args meth c RL code 4 ret (KK G)) (hDA : ∀ q, DL β q → A q) (hMA : ∀ q, AM (β + 31) q → A q) (hX : va_X b L xs s s.heap) (hbl : b < s.heap.size) (hbA : ¬ A b) (hi : i + 6 ≤ L) (hL : L ≤ 3072) (hcs : cells + 11 ≤ room_1.cells ∧ slots + 207 ≤ room_1.slots) (hp : LPc β G x y H) (hr : Rel x y) (hS : va_S A s.heap H locs) (hl : lv_has ls 4 [(0, .ref b), (1, .ref β), (2, .ref (β + 31)), (3, .int (nI i))]) (kk : ∀ (x : XS) (y : MS) (H : Heap) (locs : List Loc), LPc β G x y H → Rel x y → va_S A s.heap H locs → W p l e room_1 s m args below meth c H locs (cells + 11) (slots + 207) Q (F0 m 1385 ls [])) : W p l e room_1 s m args below meth c H locs cells slots Q (F0 m 995 ls []) := by
  have hx := C.1
  have hb := C.2.1
  have ho := C.2.2.2.1
  have hts := C.2.2.2.2.1
  obtain ⟨r, h1, h2, hr⟩ := S0 x y (xs (nI i + nI 1).toNatClampNeg) (xs (nI i + nI 2).toNatClampNeg) (xs (nI i + nI 3).toNatClampNeg) hr
  refine lv_aload_n hx hb dL_law_995 rfl (lv_at hl 1 rfl) ?_
  refine lv_aload_n hx hb dL_law_996 rfl (lv_at hl 0 rfl) ?_
  refine lv_iload_n hx hb dL_law_997 rfl (lv_at hl 3 rfl) ?_
  refine lv_iconst (v := nI 1) hx hb dL_law_998 (by decide) ?_
  refine lv_iadd hx hb dL_law_999 ?_
  refine va_sld hx hb hX hbl hbA hS (lw_idx hi (by decide) hL) dL_law_1000 ?_
  refine lv_aload_n hx hb dL_law_1001 rfl (lv_at hl 0 rfl) ?_
  refine lv_iload_n hx hb dL_law_1002 rfl (lv_at hl 3 rfl) ?_
  refine lv_iconst (v := nI 2) hx hb dL_law_1003 (by decide) ?_
  refine lv_iadd hx hb dL_law_1004 ?_
  refine va_sld hx hb hX hbl hbA hS (lw_idx hi (by decide) hL) dL_law_1005 ?_
  refine lv_aload_n hx hb dL_law_1006 rfl (lv_at hl 0 rfl) ?_
  refine lv_iload_n hx hb dL_law_1007 rfl (lv_at hl 3 rfl) ?_
  refine lv_iconst (v := nI 3) hx hb dL_law_1008 (by decide) ?_
  refine lv_iadd hx hb dL_law_1009 ?_
  refine va_sld hx hb hX hbl hbA hS (lw_idx hi (by decide) hL) dL_law_1010 ?_
  refine sL_103 (γ := 0) (N := 0) C (hA := fun q hq => hDA q hq) h1 hp.1 hS hl.1 (Nat.le_of_ble_eq_true rfl) (Nat.le_of_ble_eq_true rfl) (Nat.le_of_ble_eq_true rfl) (by omega) dL_law_1011 (fun H1 locs hw hz hk hS => ?_)
  replace hp := hp.x hw hz hk
  clear hw hz hk
  refine lv_aload_n hx hb dL_law_1014 rfl (lv_at hl 2 rfl) ?_
  refine lv_aload_n hx hb dL_law_1015 rfl (lv_at hl 0 rfl) ?_
  refine lv_iload_n hx hb dL_law_1016 rfl (lv_at hl 3 rfl) ?_
  refine lv_iconst (v := nI 1) hx hb dL_law_1017 (by decide) ?_
  refine lv_iadd hx hb dL_law_1018 ?_
  refine va_sld hx hb hX hbl hbA hS (lw_idx hi (by decide) hL) dL_law_1019 ?_
  refine lv_aload_n hx hb dL_law_1020 rfl (lv_at hl 0 rfl) ?_
  refine lv_iload_n hx hb dL_law_1021 rfl (lv_at hl 3 rfl) ?_
  refine lv_iconst (v := nI 2) hx hb dL_law_1022 (by decide) ?_
  refine lv_iadd hx hb dL_law_1023 ?_
  refine va_sld hx hb hX hbl hbA hS (lw_idx hi (by decide) hL) dL_law_1024 ?_
  refine lv_aload_n hx hb dL_law_1025 rfl (lv_at hl 0 rfl) ?_
  refine lv_iload_n hx hb dL_law_1026 rfl (lv_at hl 3 rfl) ?_
  refine lv_iconst (v := nI 3) hx hb dL_law_1027 (by decide) ?_
  refine lv_iadd hx hb dL_law_1028 ?_
  refine va_sld hx hb hX hbl hbA hS (lw_idx hi (by decide) hL) dL_law_1029 ?_
  refine sL_106 (β := 0) (D := fun _ => False) C (hA := fun q hq => hMA q hq) h2 hp.2.1 hS hl.1 (Nat.le_of_ble_eq_true rfl) (Nat.le_of_ble_eq_true rfl) (Nat.le_of_ble_eq_true rfl) (by omega) dL_law_1030 (fun H1 locs hw hz hk hS => ?_)
  replace hp := hp.m hw hk
  clear hw hz hk
  refine lv_icmp_eq (tgt := 1385) hx hb dL_law_1033 (by decide) (fun cc => ?_) (fun cc => ?_)
  · refine W.widen (k := cells + 11) (n := slots + 207) (by omega) (by omega) ?_
    exact kk _ _ _ _ hp hr hS
  · exact absurd rfl cc
set_option maxHeartbeats 4000000 in
set_option maxRecDepth 100000 in
theorem LC21 {p : Program} {l : Launch} {e : Env} {s : State} {m : MethodId} {args : Array Value} {below : List Frame} {meth : Method} {c : Code} {Q : State → Prop} {G : xG} {β b L i cells slots : Nat} {A : Nat → Prop} {xs : Nat → Int32} {ret : Option FieldType} {Rel : XS → MS → Prop} {x : XS} {y : MS} {H : Heap} {locs : List Loc} {ls : Array Slot} (S0 : ST21 Rel) (C : Cx p s m args meth c RL code 4 ret (KK G)) (hDA : ∀ q, DL β q → A q) (hMA : ∀ q, AM (β + 31) q → A q) (hX : va_X b L xs s s.heap) (hbl : b < s.heap.size) (hbA : ¬ A b) (hi : i + 6 ≤ L) (hL : L ≤ 3072) (hcs : cells + 11 ≤ room_1.cells ∧ slots + 207 ≤ room_1.slots) (hp : LPc β G x y H) (hr : Rel x y) (hS : va_S A s.heap H locs) (hl : lv_has ls 4 [(0, .ref b), (1, .ref β), (2, .ref (β + 31)), (3, .int (nI i))]) (kk : ∀ (x : XS) (y : MS) (H : Heap) (locs : List Loc), LPc β G x y H → Rel x y → va_S A s.heap H locs → W p l e room_1 s m args below meth c H locs (cells + 11) (slots + 207) Q (F0 m 1385 ls [])) : W p l e room_1 s m args below meth c H locs cells slots Q (F0 m 1038 ls []) := by
  have hx := C.1
  have hb := C.2.1
  have ho := C.2.2.2.1
  have hts := C.2.2.2.2.1
  obtain ⟨r, x1, y1, h1, h2, hr⟩ := S0 x y (xs (nI i + nI 1).toNatClampNeg) (xs (nI i + nI 2).toNatClampNeg) (xs (nI i + nI 3).toNatClampNeg) (xs (nI i + nI 4).toNatClampNeg) (xs (nI i + nI 5).toNatClampNeg) hr
  refine lv_aload_n hx hb dL_law_1038 rfl (lv_at hl 1 rfl) ?_
  refine lv_aload_n hx hb dL_law_1039 rfl (lv_at hl 0 rfl) ?_
  refine lv_iload_n hx hb dL_law_1040 rfl (lv_at hl 3 rfl) ?_
  refine lv_iconst (v := nI 1) hx hb dL_law_1041 (by decide) ?_
  refine lv_iadd hx hb dL_law_1042 ?_
  refine va_sld hx hb hX hbl hbA hS (lw_idx hi (by decide) hL) dL_law_1043 ?_
  refine lv_aload_n hx hb dL_law_1044 rfl (lv_at hl 0 rfl) ?_
  refine lv_iload_n hx hb dL_law_1045 rfl (lv_at hl 3 rfl) ?_
  refine lv_iconst (v := nI 2) hx hb dL_law_1046 (by decide) ?_
  refine lv_iadd hx hb dL_law_1047 ?_
  refine va_sld hx hb hX hbl hbA hS (lw_idx hi (by decide) hL) dL_law_1048 ?_
  refine lv_aload_n hx hb dL_law_1049 rfl (lv_at hl 0 rfl) ?_
  refine lv_iload_n hx hb dL_law_1050 rfl (lv_at hl 3 rfl) ?_
  refine lv_iconst (v := nI 3) hx hb dL_law_1051 (by decide) ?_
  refine lv_iadd hx hb dL_law_1052 ?_
  refine va_sld hx hb hX hbl hbA hS (lw_idx hi (by decide) hL) dL_law_1053 ?_
  refine lv_aload_n hx hb dL_law_1054 rfl (lv_at hl 0 rfl) ?_
  refine lv_iload_n hx hb dL_law_1055 rfl (lv_at hl 3 rfl) ?_
  refine lv_iconst (v := nI 4) hx hb dL_law_1056 (by decide) ?_
  refine lv_iadd hx hb dL_law_1057 ?_
  refine va_sld hx hb hX hbl hbA hS (lw_idx hi (by decide) hL) dL_law_1058 ?_
  refine lv_aload_n hx hb dL_law_1059 rfl (lv_at hl 0 rfl) ?_
  refine lv_iload_n hx hb dL_law_1060 rfl (lv_at hl 3 rfl) ?_
  refine lv_iconst (v := nI 5) hx hb dL_law_1061 (by decide) ?_
  refine lv_iadd hx hb dL_law_1062 ?_
  refine va_sld hx hb hX hbl hbA hS (lw_idx hi (by decide) hL) dL_law_1063 ?_
  refine sL_107 (γ := 0) (N := 0) C (hA := fun q hq => hDA q hq) h1 hp.1 hS hl.1 (Nat.le_of_ble_eq_true rfl) (Nat.le_of_ble_eq_true rfl) (Nat.le_of_ble_eq_true rfl) (by omega) dL_law_1064 (fun H1 locs hw hz hk hS => ?_)
  replace hp := hp.x hw hz hk
  clear hw hz hk
  refine lv_aload_n hx hb dL_law_1067 rfl (lv_at hl 2 rfl) ?_
  refine lv_aload_n hx hb dL_law_1068 rfl (lv_at hl 0 rfl) ?_
  refine lv_iload_n hx hb dL_law_1069 rfl (lv_at hl 3 rfl) ?_
  refine lv_iconst (v := nI 1) hx hb dL_law_1070 (by decide) ?_
  refine lv_iadd hx hb dL_law_1071 ?_
  refine va_sld hx hb hX hbl hbA hS (lw_idx hi (by decide) hL) dL_law_1072 ?_
  refine lv_aload_n hx hb dL_law_1073 rfl (lv_at hl 0 rfl) ?_
  refine lv_iload_n hx hb dL_law_1074 rfl (lv_at hl 3 rfl) ?_
  refine lv_iconst (v := nI 2) hx hb dL_law_1075 (by decide) ?_
  refine lv_iadd hx hb dL_law_1076 ?_
  refine va_sld hx hb hX hbl hbA hS (lw_idx hi (by decide) hL) dL_law_1077 ?_
  refine lv_aload_n hx hb dL_law_1078 rfl (lv_at hl 0 rfl) ?_
  refine lv_iload_n hx hb dL_law_1079 rfl (lv_at hl 3 rfl) ?_
  refine lv_iconst (v := nI 3) hx hb dL_law_1080 (by decide) ?_
  refine lv_iadd hx hb dL_law_1081 ?_
  refine va_sld hx hb hX hbl hbA hS (lw_idx hi (by decide) hL) dL_law_1082 ?_
  refine lv_aload_n hx hb dL_law_1083 rfl (lv_at hl 0 rfl) ?_
  refine lv_iload_n hx hb dL_law_1084 rfl (lv_at hl 3 rfl) ?_
  refine lv_iconst (v := nI 4) hx hb dL_law_1085 (by decide) ?_
  refine lv_iadd hx hb dL_law_1086 ?_
  refine va_sld hx hb hX hbl hbA hS (lw_idx hi (by decide) hL) dL_law_1087 ?_
  refine lv_aload_n hx hb dL_law_1088 rfl (lv_at hl 0 rfl) ?_
  refine lv_iload_n hx hb dL_law_1089 rfl (lv_at hl 3 rfl) ?_
  refine lv_iconst (v := nI 5) hx hb dL_law_1090 (by decide) ?_
  refine lv_iadd hx hb dL_law_1091 ?_
  refine va_sld hx hb hX hbl hbA hS (lw_idx hi (by decide) hL) dL_law_1092 ?_
  refine sL_111 (β := 0) (D := fun _ => False) C (hA := fun q hq => hMA q hq) h2 hp.2.1 hS hl.1 (Nat.le_of_ble_eq_true rfl) (Nat.le_of_ble_eq_true rfl) (Nat.le_of_ble_eq_true rfl) (by omega) dL_law_1093 (fun H1 locs hw hz hk hS => ?_)
  replace hp := hp.m hw hk
  clear hw hz hk
  refine lv_icmp_eq (tgt := 1385) hx hb dL_law_1096 (by decide) (fun cc => ?_) (fun cc => ?_)
  · refine W.widen (k := cells + 11) (n := slots + 207) (by omega) (by omega) ?_
    exact kk _ _ _ _ hp hr hS
  · exact absurd rfl cc
set_option maxHeartbeats 4000000 in
set_option maxRecDepth 100000 in
theorem LC22 {p : Program} {l : Launch} {e : Env} {s : State} {m : MethodId} {args : Array Value} {below : List Frame} {meth : Method} {c : Code} {Q : State → Prop} {G : xG} {β b L i cells slots : Nat} {A : Nat → Prop} {xs : Nat → Int32} {ret : Option FieldType} {Rel : XS → MS → Prop} {x : XS} {y : MS} {H : Heap} {locs : List Loc} {ls : Array Slot} (S0 : ST22 Rel) (C : Cx p s m args meth c RL code 4 ret (KK G)) (hDA : ∀ q, DL β q → A q) (hMA : ∀ q, AM (β + 31) q → A q) (hX : va_X b L xs s s.heap) (hbl : b < s.heap.size) (hbA : ¬ A b) (hi : i + 6 ≤ L) (hL : L ≤ 3072) (hcs : cells + 11 ≤ room_1.cells ∧ slots + 207 ≤ room_1.slots) (hp : LPc β G x y H) (hr : Rel x y) (hS : va_S A s.heap H locs) (hl : lv_has ls 4 [(0, .ref b), (1, .ref β), (2, .ref (β + 31)), (3, .int (nI i))]) (kk : ∀ (x : XS) (y : MS) (H : Heap) (locs : List Loc), LPc β G x y H → Rel x y → va_S A s.heap H locs → W p l e room_1 s m args below meth c H locs (cells + 11) (slots + 207) Q (F0 m 1385 ls [])) : W p l e room_1 s m args below meth c H locs cells slots Q (F0 m 1101 ls []) := by
  have hx := C.1
  have hb := C.2.1
  have ho := C.2.2.2.1
  have hts := C.2.2.2.2.1
  obtain ⟨r, x1, y1, h1, h2, hr⟩ := S0 x y hr
  refine lv_aload_n hx hb dL_law_1101 rfl (lv_at hl 1 rfl) ?_
  refine sL_112 (γ := 0) (N := 0) C (hA := fun q hq => hDA q hq) h1 hp.1 hS hl.1 (Nat.le_of_ble_eq_true rfl) (Nat.le_of_ble_eq_true rfl) (Nat.le_of_ble_eq_true rfl) (by omega) dL_law_1102 (fun H1 locs hw hz hk hS => ?_)
  replace hp := hp.x hw hz hk
  clear hw hz hk
  refine lv_aload_n hx hb dL_law_1105 rfl (lv_at hl 2 rfl) ?_
  refine sL_115 (β := 0) (D := fun _ => False) C (hA := fun q hq => hMA q hq) h2 hp.2.1 hS hl.1 (Nat.le_of_ble_eq_true rfl) (Nat.le_of_ble_eq_true rfl) (Nat.le_of_ble_eq_true rfl) (by omega) dL_law_1106 (fun H1 locs hw hz hk hS => ?_)
  replace hp := hp.m hw hk
  clear hw hz hk
  refine lv_icmp_eq (tgt := 1385) hx hb dL_law_1109 (by decide) (fun cc => ?_) (fun cc => ?_)
  · refine W.widen (k := cells + 11) (n := slots + 207) (by omega) (by omega) ?_
    exact kk _ _ _ _ hp hr hS
  · exact absurd rfl cc
set_option maxHeartbeats 4000000 in
set_option maxRecDepth 100000 in
theorem LC23 {p : Program} {l : Launch} {e : Env} {s : State} {m : MethodId} {args : Array Value} {below : List Frame} {meth : Method} {c : Code} {Q : State → Prop} {G : xG} {β b L i cells slots : Nat} {A : Nat → Prop} {xs : Nat → Int32} {ret : Option FieldType} {Rel : XS → MS → Prop} {x : XS} {y : MS} {H : Heap} {locs : List Loc} {ls : Array Slot} (S0 : ST23 Rel) (C : Cx p s m args meth c RL code 4 ret (KK G)) (hDA : ∀ q, DL β q → A q) (hMA : ∀ q, AM (β + 31) q → A q) (hX : va_X b L xs s s.heap) (hbl : b < s.heap.size) (hbA : ¬ A b) (hi : i + 6 ≤ L) (hL : L ≤ 3072) (hcs : cells + 11 ≤ room_1.cells ∧ slots + 207 ≤ room_1.slots) (hp : LPc β G x y H) (hr : Rel x y) (hS : va_S A s.heap H locs) (hl : lv_has ls 4 [(0, .ref b), (1, .ref β), (2, .ref (β + 31)), (3, .int (nI i))]) (kk : ∀ (x : XS) (y : MS) (H : Heap) (locs : List Loc), LPc β G x y H → Rel x y → va_S A s.heap H locs → W p l e room_1 s m args below meth c H locs (cells + 11) (slots + 207) Q (F0 m 1385 ls [])) : W p l e room_1 s m args below meth c H locs cells slots Q (F0 m 1114 ls []) := by
  have hx := C.1
  have hb := C.2.1
  have ho := C.2.2.2.1
  have hts := C.2.2.2.2.1
  obtain ⟨r, x1, y1, h1, h2, hr⟩ := S0 x y hr
  refine lv_aload_n hx hb dL_law_1114 rfl (lv_at hl 1 rfl) ?_
  refine sL_116 (γ := 0) (N := 0) C (hA := fun q hq => hDA q hq) h1 hp.1 hS hl.1 (Nat.le_of_ble_eq_true rfl) (Nat.le_of_ble_eq_true rfl) (Nat.le_of_ble_eq_true rfl) (by omega) dL_law_1115 (fun H1 locs hw hz hk hS => ?_)
  replace hp := hp.x hw hz hk
  clear hw hz hk
  refine lv_aload_n hx hb dL_law_1118 rfl (lv_at hl 2 rfl) ?_
  refine sL_119 (β := 0) (D := fun _ => False) C (hA := fun q hq => hMA q hq) h2 hp.2.1 hS hl.1 (Nat.le_of_ble_eq_true rfl) (Nat.le_of_ble_eq_true rfl) (Nat.le_of_ble_eq_true rfl) (by omega) dL_law_1119 (fun H1 locs hw hz hk hS => ?_)
  replace hp := hp.m hw hk
  clear hw hz hk
  refine lv_icmp_eq (tgt := 1385) hx hb dL_law_1122 (by decide) (fun cc => ?_) (fun cc => ?_)
  · refine W.widen (k := cells + 11) (n := slots + 207) (by omega) (by omega) ?_
    exact kk _ _ _ _ hp hr hS
  · exact absurd rfl cc
set_option maxHeartbeats 4000000 in
set_option maxRecDepth 100000 in
theorem LC24 {p : Program} {l : Launch} {e : Env} {s : State} {m : MethodId} {args : Array Value} {below : List Frame} {meth : Method} {c : Code} {Q : State → Prop} {G : xG} {β b L i cells slots : Nat} {A : Nat → Prop} {xs : Nat → Int32} {ret : Option FieldType} {Rel : XS → MS → Prop} {x : XS} {y : MS} {H : Heap} {locs : List Loc} {ls : Array Slot} (S0 : ST24 Rel) (C : Cx p s m args meth c RL code 4 ret (KK G)) (hDA : ∀ q, DL β q → A q) (hMA : ∀ q, AM (β + 31) q → A q) (hX : va_X b L xs s s.heap) (hbl : b < s.heap.size) (hbA : ¬ A b) (hi : i + 6 ≤ L) (hL : L ≤ 3072) (hcs : cells + 11 ≤ room_1.cells ∧ slots + 207 ≤ room_1.slots) (hp : LPc β G x y H) (hr : Rel x y) (hS : va_S A s.heap H locs) (hl : lv_has ls 4 [(0, .ref b), (1, .ref β), (2, .ref (β + 31)), (3, .int (nI i))]) (kk : ∀ (x : XS) (y : MS) (H : Heap) (locs : List Loc), LPc β G x y H → Rel x y → va_S A s.heap H locs → W p l e room_1 s m args below meth c H locs (cells + 11) (slots + 207) Q (F0 m 1385 ls [])) : W p l e room_1 s m args below meth c H locs cells slots Q (F0 m 1127 ls []) := by
  have hx := C.1
  have hb := C.2.1
  have ho := C.2.2.2.1
  have hts := C.2.2.2.2.1
  obtain ⟨r, h1, h2, hr⟩ := S0 x y (xs (nI i + nI 1).toNatClampNeg) hr
  refine lv_aload_n hx hb dL_law_1127 rfl (lv_at hl 1 rfl) ?_
  refine lv_aload_n hx hb dL_law_1128 rfl (lv_at hl 0 rfl) ?_
  refine lv_iload_n hx hb dL_law_1129 rfl (lv_at hl 3 rfl) ?_
  refine lv_iconst (v := nI 1) hx hb dL_law_1130 (by decide) ?_
  refine lv_iadd hx hb dL_law_1131 ?_
  refine va_sld hx hb hX hbl hbA hS (lw_idx hi (by decide) hL) dL_law_1132 ?_
  refine sL_120 (γ := 0) (N := 0) C (hA := fun q hq => hDA q hq) h1 hp.1 hS hl.1 (Nat.le_of_ble_eq_true rfl) (Nat.le_of_ble_eq_true rfl) (Nat.le_of_ble_eq_true rfl) (by omega) dL_law_1133 (fun H1 locs hw hz hk hS => ?_)
  replace hp := hp.x hw hz hk
  clear hw hz hk
  refine lv_aload_n hx hb dL_law_1136 rfl (lv_at hl 2 rfl) ?_
  refine lv_aload_n hx hb dL_law_1137 rfl (lv_at hl 0 rfl) ?_
  refine lv_iload_n hx hb dL_law_1138 rfl (lv_at hl 3 rfl) ?_
  refine lv_iconst (v := nI 1) hx hb dL_law_1139 (by decide) ?_
  refine lv_iadd hx hb dL_law_1140 ?_
  refine va_sld hx hb hX hbl hbA hS (lw_idx hi (by decide) hL) dL_law_1141 ?_
  refine sL_123 (β := 0) (D := fun _ => False) C (hA := fun q hq => hMA q hq) h2 hp.2.1 hS hl.1 (Nat.le_of_ble_eq_true rfl) (Nat.le_of_ble_eq_true rfl) (Nat.le_of_ble_eq_true rfl) (by omega) dL_law_1142 (fun H1 locs hw hz hk hS => ?_)
  replace hp := hp.m hw hk
  clear hw hz hk
  refine lv_icmp_eq (tgt := 1385) hx hb dL_law_1145 (by decide) (fun cc => ?_) (fun cc => ?_)
  · refine W.widen (k := cells + 11) (n := slots + 207) (by omega) (by omega) ?_
    exact kk _ _ _ _ hp hr hS
  · exact absurd rfl cc
set_option maxHeartbeats 4000000 in
set_option maxRecDepth 100000 in
theorem LC25 {p : Program} {l : Launch} {e : Env} {s : State} {m : MethodId} {args : Array Value} {below : List Frame} {meth : Method} {c : Code} {Q : State → Prop} {G : xG} {β b L i cells slots : Nat} {A : Nat → Prop} {xs : Nat → Int32} {ret : Option FieldType} {Rel : XS → MS → Prop} {x : XS} {y : MS} {H : Heap} {locs : List Loc} {ls : Array Slot} (S0 : ST25 Rel) (C : Cx p s m args meth c RL code 4 ret (KK G)) (hDA : ∀ q, DL β q → A q) (hMA : ∀ q, AM (β + 31) q → A q) (hX : va_X b L xs s s.heap) (hbl : b < s.heap.size) (hbA : ¬ A b) (hi : i + 6 ≤ L) (hL : L ≤ 3072) (hcs : cells + 11 ≤ room_1.cells ∧ slots + 207 ≤ room_1.slots) (hp : LPc β G x y H) (hr : Rel x y) (hS : va_S A s.heap H locs) (hl : lv_has ls 4 [(0, .ref b), (1, .ref β), (2, .ref (β + 31)), (3, .int (nI i))]) (kk : ∀ (x : XS) (y : MS) (H : Heap) (locs : List Loc), LPc β G x y H → Rel x y → va_S A s.heap H locs → W p l e room_1 s m args below meth c H locs (cells + 11) (slots + 207) Q (F0 m 1385 ls [])) : W p l e room_1 s m args below meth c H locs cells slots Q (F0 m 1150 ls []) := by
  have hx := C.1
  have hb := C.2.1
  have ho := C.2.2.2.1
  have hts := C.2.2.2.2.1
  obtain ⟨r, x1, y1, h1, h2, hr⟩ := S0 x y (xs (nI i + nI 1).toNatClampNeg) (xs (nI i + nI 2).toNatClampNeg) (xs (nI i + nI 3).toNatClampNeg) hr
  refine lv_aload_n hx hb dL_law_1150 rfl (lv_at hl 1 rfl) ?_
  refine lv_aload_n hx hb dL_law_1151 rfl (lv_at hl 0 rfl) ?_
  refine lv_iload_n hx hb dL_law_1152 rfl (lv_at hl 3 rfl) ?_
  refine lv_iconst (v := nI 1) hx hb dL_law_1153 (by decide) ?_
  refine lv_iadd hx hb dL_law_1154 ?_
  refine va_sld hx hb hX hbl hbA hS (lw_idx hi (by decide) hL) dL_law_1155 ?_
  refine lv_aload_n hx hb dL_law_1156 rfl (lv_at hl 0 rfl) ?_
  refine lv_iload_n hx hb dL_law_1157 rfl (lv_at hl 3 rfl) ?_
  refine lv_iconst (v := nI 2) hx hb dL_law_1158 (by decide) ?_
  refine lv_iadd hx hb dL_law_1159 ?_
  refine va_sld hx hb hX hbl hbA hS (lw_idx hi (by decide) hL) dL_law_1160 ?_
  refine lv_aload_n hx hb dL_law_1161 rfl (lv_at hl 0 rfl) ?_
  refine lv_iload_n hx hb dL_law_1162 rfl (lv_at hl 3 rfl) ?_
  refine lv_iconst (v := nI 3) hx hb dL_law_1163 (by decide) ?_
  refine lv_iadd hx hb dL_law_1164 ?_
  refine va_sld hx hb hX hbl hbA hS (lw_idx hi (by decide) hL) dL_law_1165 ?_
  refine sL_124 (γ := 0) (N := 0) C (hA := fun q hq => hDA q hq) (hn := fun q h => Or.inr (Nat.le_trans hp.2.2 (by rw [hp.1.1]; exact h))) h1 hp.1 hS hl.1 (Nat.le_of_ble_eq_true rfl) (Nat.le_of_ble_eq_true rfl) (Nat.le_of_ble_eq_true rfl) (by omega) dL_law_1166 (fun H1 locs hw hz hk hS => ?_)
  replace hp := hp.x hw hz hk
  clear hw hz hk
  refine lv_aload_n hx hb dL_law_1169 rfl (lv_at hl 2 rfl) ?_
  refine lv_aload_n hx hb dL_law_1170 rfl (lv_at hl 0 rfl) ?_
  refine lv_iload_n hx hb dL_law_1171 rfl (lv_at hl 3 rfl) ?_
  refine lv_iconst (v := nI 1) hx hb dL_law_1172 (by decide) ?_
  refine lv_iadd hx hb dL_law_1173 ?_
  refine va_sld hx hb hX hbl hbA hS (lw_idx hi (by decide) hL) dL_law_1174 ?_
  refine lv_aload_n hx hb dL_law_1175 rfl (lv_at hl 0 rfl) ?_
  refine lv_iload_n hx hb dL_law_1176 rfl (lv_at hl 3 rfl) ?_
  refine lv_iconst (v := nI 2) hx hb dL_law_1177 (by decide) ?_
  refine lv_iadd hx hb dL_law_1178 ?_
  refine va_sld hx hb hX hbl hbA hS (lw_idx hi (by decide) hL) dL_law_1179 ?_
  refine lv_aload_n hx hb dL_law_1180 rfl (lv_at hl 0 rfl) ?_
  refine lv_iload_n hx hb dL_law_1181 rfl (lv_at hl 3 rfl) ?_
  refine lv_iconst (v := nI 3) hx hb dL_law_1182 (by decide) ?_
  refine lv_iadd hx hb dL_law_1183 ?_
  refine va_sld hx hb hX hbl hbA hS (lw_idx hi (by decide) hL) dL_law_1184 ?_
  refine sL_127 (β := 0) (D := fun _ => False) C (hA := fun q hq => hMA q hq) h2 hp.2.1 hS hl.1 (Nat.le_of_ble_eq_true rfl) (Nat.le_of_ble_eq_true rfl) (Nat.le_of_ble_eq_true rfl) (by omega) dL_law_1185 (fun H1 locs hw hz hk hS => ?_)
  replace hp := hp.m hw hk
  clear hw hz hk
  refine lv_icmp_eq (tgt := 1385) hx hb dL_law_1188 (by decide) (fun cc => ?_) (fun cc => ?_)
  · refine W.widen (k := cells + 11) (n := slots + 207) (by omega) (by omega) ?_
    exact kk _ _ _ _ hp hr hS
  · exact absurd rfl cc
set_option maxHeartbeats 4000000 in
set_option maxRecDepth 100000 in
theorem LC26 {p : Program} {l : Launch} {e : Env} {s : State} {m : MethodId} {args : Array Value} {below : List Frame} {meth : Method} {c : Code} {Q : State → Prop} {G : xG} {β b L i cells slots : Nat} {A : Nat → Prop} {xs : Nat → Int32} {ret : Option FieldType} {Rel : XS → MS → Prop} {x : XS} {y : MS} {H : Heap} {locs : List Loc} {ls : Array Slot} (S0 : ST26 Rel) (C : Cx p s m args meth c RL code 4 ret (KK G)) (hDA : ∀ q, DL β q → A q) (hMA : ∀ q, AM (β + 31) q → A q) (hX : va_X b L xs s s.heap) (hbl : b < s.heap.size) (hbA : ¬ A b) (hi : i + 6 ≤ L) (hL : L ≤ 3072) (hcs : cells + 11 ≤ room_1.cells ∧ slots + 207 ≤ room_1.slots) (hp : LPc β G x y H) (hr : Rel x y) (hS : va_S A s.heap H locs) (hl : lv_has ls 4 [(0, .ref b), (1, .ref β), (2, .ref (β + 31)), (3, .int (nI i))]) (kk : ∀ (x : XS) (y : MS) (H : Heap) (locs : List Loc), LPc β G x y H → Rel x y → va_S A s.heap H locs → W p l e room_1 s m args below meth c H locs (cells + 11) (slots + 207) Q (F0 m 1385 ls [])) : W p l e room_1 s m args below meth c H locs cells slots Q (F0 m 1193 ls []) := by
  have hx := C.1
  have hb := C.2.1
  have ho := C.2.2.2.1
  have hts := C.2.2.2.2.1
  obtain ⟨r, x1, y1, h1, h2, hr⟩ := S0 x y (xs (nI i + nI 1).toNatClampNeg) (xs (nI i + nI 2).toNatClampNeg) (xs (nI i + nI 3).toNatClampNeg) hr
  refine lv_aload_n hx hb dL_law_1193 rfl (lv_at hl 1 rfl) ?_
  refine lv_aload_n hx hb dL_law_1194 rfl (lv_at hl 0 rfl) ?_
  refine lv_iload_n hx hb dL_law_1195 rfl (lv_at hl 3 rfl) ?_
  refine lv_iconst (v := nI 1) hx hb dL_law_1196 (by decide) ?_
  refine lv_iadd hx hb dL_law_1197 ?_
  refine va_sld hx hb hX hbl hbA hS (lw_idx hi (by decide) hL) dL_law_1198 ?_
  refine lv_aload_n hx hb dL_law_1199 rfl (lv_at hl 0 rfl) ?_
  refine lv_iload_n hx hb dL_law_1200 rfl (lv_at hl 3 rfl) ?_
  refine lv_iconst (v := nI 2) hx hb dL_law_1201 (by decide) ?_
  refine lv_iadd hx hb dL_law_1202 ?_
  refine va_sld hx hb hX hbl hbA hS (lw_idx hi (by decide) hL) dL_law_1203 ?_
  refine lv_aload_n hx hb dL_law_1204 rfl (lv_at hl 0 rfl) ?_
  refine lv_iload_n hx hb dL_law_1205 rfl (lv_at hl 3 rfl) ?_
  refine lv_iconst (v := nI 3) hx hb dL_law_1206 (by decide) ?_
  refine lv_iadd hx hb dL_law_1207 ?_
  refine va_sld hx hb hX hbl hbA hS (lw_idx hi (by decide) hL) dL_law_1208 ?_
  refine sL_128 (γ := 0) (N := 0) C (hA := fun q hq => hDA q hq) h1 hp.1 hS hl.1 (Nat.le_of_ble_eq_true rfl) (Nat.le_of_ble_eq_true rfl) (Nat.le_of_ble_eq_true rfl) (by omega) dL_law_1209 (fun H1 locs hw hz hk hS => ?_)
  replace hp := hp.x hw hz hk
  clear hw hz hk
  refine lv_aload_n hx hb dL_law_1212 rfl (lv_at hl 2 rfl) ?_
  refine lv_aload_n hx hb dL_law_1213 rfl (lv_at hl 0 rfl) ?_
  refine lv_iload_n hx hb dL_law_1214 rfl (lv_at hl 3 rfl) ?_
  refine lv_iconst (v := nI 1) hx hb dL_law_1215 (by decide) ?_
  refine lv_iadd hx hb dL_law_1216 ?_
  refine va_sld hx hb hX hbl hbA hS (lw_idx hi (by decide) hL) dL_law_1217 ?_
  refine lv_aload_n hx hb dL_law_1218 rfl (lv_at hl 0 rfl) ?_
  refine lv_iload_n hx hb dL_law_1219 rfl (lv_at hl 3 rfl) ?_
  refine lv_iconst (v := nI 2) hx hb dL_law_1220 (by decide) ?_
  refine lv_iadd hx hb dL_law_1221 ?_
  refine va_sld hx hb hX hbl hbA hS (lw_idx hi (by decide) hL) dL_law_1222 ?_
  refine lv_aload_n hx hb dL_law_1223 rfl (lv_at hl 0 rfl) ?_
  refine lv_iload_n hx hb dL_law_1224 rfl (lv_at hl 3 rfl) ?_
  refine lv_iconst (v := nI 3) hx hb dL_law_1225 (by decide) ?_
  refine lv_iadd hx hb dL_law_1226 ?_
  refine va_sld hx hb hX hbl hbA hS (lw_idx hi (by decide) hL) dL_law_1227 ?_
  refine sL_131 (β := 0) (D := fun _ => False) C (hA := fun q hq => hMA q hq) h2 hp.2.1 hS hl.1 (Nat.le_of_ble_eq_true rfl) (Nat.le_of_ble_eq_true rfl) (Nat.le_of_ble_eq_true rfl) (by omega) dL_law_1228 (fun H1 locs hw hz hk hS => ?_)
  replace hp := hp.m hw hk
  clear hw hz hk
  refine lv_icmp_eq (tgt := 1385) hx hb dL_law_1231 (by decide) (fun cc => ?_) (fun cc => ?_)
  · refine W.widen (k := cells + 11) (n := slots + 207) (by omega) (by omega) ?_
    exact kk _ _ _ _ hp hr hS
  · exact absurd rfl cc
set_option maxHeartbeats 4000000 in
set_option maxRecDepth 100000 in
theorem LC27 {p : Program} {l : Launch} {e : Env} {s : State} {m : MethodId} {args : Array Value} {below : List Frame} {meth : Method} {c : Code} {Q : State → Prop} {G : xG} {β b L i cells slots : Nat} {A : Nat → Prop} {xs : Nat → Int32} {ret : Option FieldType} {Rel : XS → MS → Prop} {x : XS} {y : MS} {H : Heap} {locs : List Loc} {ls : Array Slot} (S0 : ST27 Rel) (C : Cx p s m args meth c RL code 4 ret (KK G)) (hDA : ∀ q, DL β q → A q) (hMA : ∀ q, AM (β + 31) q → A q) (hX : va_X b L xs s s.heap) (hbl : b < s.heap.size) (hbA : ¬ A b) (hi : i + 6 ≤ L) (hL : L ≤ 3072) (hcs : cells + 11 ≤ room_1.cells ∧ slots + 207 ≤ room_1.slots) (hp : LPc β G x y H) (hr : Rel x y) (hS : va_S A s.heap H locs) (hl : lv_has ls 4 [(0, .ref b), (1, .ref β), (2, .ref (β + 31)), (3, .int (nI i))]) (kk : ∀ (x : XS) (y : MS) (H : Heap) (locs : List Loc), LPc β G x y H → Rel x y → va_S A s.heap H locs → W p l e room_1 s m args below meth c H locs (cells + 11) (slots + 207) Q (F0 m 1385 ls [])) : W p l e room_1 s m args below meth c H locs cells slots Q (F0 m 1236 ls []) := by
  have hx := C.1
  have hb := C.2.1
  have ho := C.2.2.2.1
  have hts := C.2.2.2.2.1
  obtain ⟨r, x1, y1, h1, h2, hr⟩ := S0 x y (xs (nI i + nI 1).toNatClampNeg) (xs (nI i + nI 2).toNatClampNeg) (xs (nI i + nI 3).toNatClampNeg) (xs (nI i + nI 4).toNatClampNeg) (xs (nI i + nI 5).toNatClampNeg) hr
  refine lv_aload_n hx hb dL_law_1236 rfl (lv_at hl 1 rfl) ?_
  refine lv_aload_n hx hb dL_law_1237 rfl (lv_at hl 0 rfl) ?_
  refine lv_iload_n hx hb dL_law_1238 rfl (lv_at hl 3 rfl) ?_
  refine lv_iconst (v := nI 1) hx hb dL_law_1239 (by decide) ?_
  refine lv_iadd hx hb dL_law_1240 ?_
  refine va_sld hx hb hX hbl hbA hS (lw_idx hi (by decide) hL) dL_law_1241 ?_
  refine lv_aload_n hx hb dL_law_1242 rfl (lv_at hl 0 rfl) ?_
  refine lv_iload_n hx hb dL_law_1243 rfl (lv_at hl 3 rfl) ?_
  refine lv_iconst (v := nI 2) hx hb dL_law_1244 (by decide) ?_
  refine lv_iadd hx hb dL_law_1245 ?_
  refine va_sld hx hb hX hbl hbA hS (lw_idx hi (by decide) hL) dL_law_1246 ?_
  refine lv_aload_n hx hb dL_law_1247 rfl (lv_at hl 0 rfl) ?_
  refine lv_iload_n hx hb dL_law_1248 rfl (lv_at hl 3 rfl) ?_
  refine lv_iconst (v := nI 3) hx hb dL_law_1249 (by decide) ?_
  refine lv_iadd hx hb dL_law_1250 ?_
  refine va_sld hx hb hX hbl hbA hS (lw_idx hi (by decide) hL) dL_law_1251 ?_
  refine lv_aload_n hx hb dL_law_1252 rfl (lv_at hl 0 rfl) ?_
  refine lv_iload_n hx hb dL_law_1253 rfl (lv_at hl 3 rfl) ?_
  refine lv_iconst (v := nI 4) hx hb dL_law_1254 (by decide) ?_
  refine lv_iadd hx hb dL_law_1255 ?_
  refine va_sld hx hb hX hbl hbA hS (lw_idx hi (by decide) hL) dL_law_1256 ?_
  refine lv_aload_n hx hb dL_law_1257 rfl (lv_at hl 0 rfl) ?_
  refine lv_iload_n hx hb dL_law_1258 rfl (lv_at hl 3 rfl) ?_
  refine lv_iconst (v := nI 5) hx hb dL_law_1259 (by decide) ?_
  refine lv_iadd hx hb dL_law_1260 ?_
  refine va_sld hx hb hX hbl hbA hS (lw_idx hi (by decide) hL) dL_law_1261 ?_
  refine sL_132 (γ := 0) (N := 0) C (hA := fun q hq => hDA q hq) h1 hp.1 hS hl.1 (Nat.le_of_ble_eq_true rfl) (Nat.le_of_ble_eq_true rfl) (Nat.le_of_ble_eq_true rfl) (by omega) dL_law_1262 (fun H1 locs hw hz hk hS => ?_)
  replace hp := hp.x hw hz hk
  clear hw hz hk
  refine lv_aload_n hx hb dL_law_1265 rfl (lv_at hl 2 rfl) ?_
  refine lv_aload_n hx hb dL_law_1266 rfl (lv_at hl 0 rfl) ?_
  refine lv_iload_n hx hb dL_law_1267 rfl (lv_at hl 3 rfl) ?_
  refine lv_iconst (v := nI 1) hx hb dL_law_1268 (by decide) ?_
  refine lv_iadd hx hb dL_law_1269 ?_
  refine va_sld hx hb hX hbl hbA hS (lw_idx hi (by decide) hL) dL_law_1270 ?_
  refine lv_aload_n hx hb dL_law_1271 rfl (lv_at hl 0 rfl) ?_
  refine lv_iload_n hx hb dL_law_1272 rfl (lv_at hl 3 rfl) ?_
  refine lv_iconst (v := nI 2) hx hb dL_law_1273 (by decide) ?_
  refine lv_iadd hx hb dL_law_1274 ?_
  refine va_sld hx hb hX hbl hbA hS (lw_idx hi (by decide) hL) dL_law_1275 ?_
  refine lv_aload_n hx hb dL_law_1276 rfl (lv_at hl 0 rfl) ?_
  refine lv_iload_n hx hb dL_law_1277 rfl (lv_at hl 3 rfl) ?_
  refine lv_iconst (v := nI 3) hx hb dL_law_1278 (by decide) ?_
  refine lv_iadd hx hb dL_law_1279 ?_
  refine va_sld hx hb hX hbl hbA hS (lw_idx hi (by decide) hL) dL_law_1280 ?_
  refine lv_aload_n hx hb dL_law_1281 rfl (lv_at hl 0 rfl) ?_
  refine lv_iload_n hx hb dL_law_1282 rfl (lv_at hl 3 rfl) ?_
  refine lv_iconst (v := nI 4) hx hb dL_law_1283 (by decide) ?_
  refine lv_iadd hx hb dL_law_1284 ?_
  refine va_sld hx hb hX hbl hbA hS (lw_idx hi (by decide) hL) dL_law_1285 ?_
  refine lv_aload_n hx hb dL_law_1286 rfl (lv_at hl 0 rfl) ?_
  refine lv_iload_n hx hb dL_law_1287 rfl (lv_at hl 3 rfl) ?_
  refine lv_iconst (v := nI 5) hx hb dL_law_1288 (by decide) ?_
  refine lv_iadd hx hb dL_law_1289 ?_
  refine va_sld hx hb hX hbl hbA hS (lw_idx hi (by decide) hL) dL_law_1290 ?_
  refine sL_135 (β := 0) (D := fun _ => False) C (hA := fun q hq => hMA q hq) h2 hp.2.1 hS hl.1 (Nat.le_of_ble_eq_true rfl) (Nat.le_of_ble_eq_true rfl) (Nat.le_of_ble_eq_true rfl) (by omega) dL_law_1291 (fun H1 locs hw hz hk hS => ?_)
  replace hp := hp.m hw hk
  clear hw hz hk
  refine lv_icmp_eq (tgt := 1385) hx hb dL_law_1294 (by decide) (fun cc => ?_) (fun cc => ?_)
  · refine W.widen (k := cells + 11) (n := slots + 207) (by omega) (by omega) ?_
    exact kk _ _ _ _ hp hr hS
  · exact absurd rfl cc
set_option maxHeartbeats 4000000 in
set_option maxRecDepth 100000 in
theorem LC28 {p : Program} {l : Launch} {e : Env} {s : State} {m : MethodId} {args : Array Value} {below : List Frame} {meth : Method} {c : Code} {Q : State → Prop} {G : xG} {β b L i cells slots : Nat} {A : Nat → Prop} {xs : Nat → Int32} {ret : Option FieldType} {Rel : XS → MS → Prop} {x : XS} {y : MS} {H : Heap} {locs : List Loc} {ls : Array Slot} (S0 : ST28 Rel) (C : Cx p s m args meth c RL code 4 ret (KK G)) (hDA : ∀ q, DL β q → A q) (hMA : ∀ q, AM (β + 31) q → A q) (hX : va_X b L xs s s.heap) (hbl : b < s.heap.size) (hbA : ¬ A b) (hi : i + 6 ≤ L) (hL : L ≤ 3072) (hcs : cells + 11 ≤ room_1.cells ∧ slots + 207 ≤ room_1.slots) (hp : LPc β G x y H) (hr : Rel x y) (hS : va_S A s.heap H locs) (hl : lv_has ls 4 [(0, .ref b), (1, .ref β), (2, .ref (β + 31)), (3, .int (nI i))]) (kk : ∀ (x : XS) (y : MS) (H : Heap) (locs : List Loc), LPc β G x y H → Rel x y → va_S A s.heap H locs → W p l e room_1 s m args below meth c H locs (cells + 11) (slots + 207) Q (F0 m 1385 ls [])) : W p l e room_1 s m args below meth c H locs cells slots Q (F0 m 1299 ls []) := by
  have hx := C.1
  have hb := C.2.1
  have ho := C.2.2.2.1
  have hts := C.2.2.2.2.1
  obtain ⟨r, x1, y1, h1, h2, hr⟩ := S0 x y (xs (nI i + nI 1).toNatClampNeg) (xs (nI i + nI 2).toNatClampNeg) (xs (nI i + nI 3).toNatClampNeg) (xs (nI i + nI 4).toNatClampNeg) hr
  refine lv_aload_n hx hb dL_law_1299 rfl (lv_at hl 1 rfl) ?_
  refine lv_aload_n hx hb dL_law_1300 rfl (lv_at hl 0 rfl) ?_
  refine lv_iload_n hx hb dL_law_1301 rfl (lv_at hl 3 rfl) ?_
  refine lv_iconst (v := nI 1) hx hb dL_law_1302 (by decide) ?_
  refine lv_iadd hx hb dL_law_1303 ?_
  refine va_sld hx hb hX hbl hbA hS (lw_idx hi (by decide) hL) dL_law_1304 ?_
  refine lv_aload_n hx hb dL_law_1305 rfl (lv_at hl 0 rfl) ?_
  refine lv_iload_n hx hb dL_law_1306 rfl (lv_at hl 3 rfl) ?_
  refine lv_iconst (v := nI 2) hx hb dL_law_1307 (by decide) ?_
  refine lv_iadd hx hb dL_law_1308 ?_
  refine va_sld hx hb hX hbl hbA hS (lw_idx hi (by decide) hL) dL_law_1309 ?_
  refine lv_aload_n hx hb dL_law_1310 rfl (lv_at hl 0 rfl) ?_
  refine lv_iload_n hx hb dL_law_1311 rfl (lv_at hl 3 rfl) ?_
  refine lv_iconst (v := nI 3) hx hb dL_law_1312 (by decide) ?_
  refine lv_iadd hx hb dL_law_1313 ?_
  refine va_sld hx hb hX hbl hbA hS (lw_idx hi (by decide) hL) dL_law_1314 ?_
  refine lv_aload_n hx hb dL_law_1315 rfl (lv_at hl 0 rfl) ?_
  refine lv_iload_n hx hb dL_law_1316 rfl (lv_at hl 3 rfl) ?_
  refine lv_iconst (v := nI 4) hx hb dL_law_1317 (by decide) ?_
  refine lv_iadd hx hb dL_law_1318 ?_
  refine va_sld hx hb hX hbl hbA hS (lw_idx hi (by decide) hL) dL_law_1319 ?_
  refine sL_136 (γ := 0) (N := 0) C (hA := fun q hq => hDA q hq) (hn := fun q h => Or.inr (Nat.le_trans hp.2.2 (by rw [hp.1.1]; exact h))) h1 hp.1 hS hl.1 (Nat.le_of_ble_eq_true rfl) (Nat.le_of_ble_eq_true rfl) (Nat.le_of_ble_eq_true rfl) (by omega) dL_law_1320 (fun H1 locs hw hz hk hS => ?_)
  replace hp := hp.x hw hz hk
  clear hw hz hk
  refine lv_aload_n hx hb dL_law_1323 rfl (lv_at hl 2 rfl) ?_
  refine lv_aload_n hx hb dL_law_1324 rfl (lv_at hl 0 rfl) ?_
  refine lv_iload_n hx hb dL_law_1325 rfl (lv_at hl 3 rfl) ?_
  refine lv_iconst (v := nI 1) hx hb dL_law_1326 (by decide) ?_
  refine lv_iadd hx hb dL_law_1327 ?_
  refine va_sld hx hb hX hbl hbA hS (lw_idx hi (by decide) hL) dL_law_1328 ?_
  refine lv_aload_n hx hb dL_law_1329 rfl (lv_at hl 0 rfl) ?_
  refine lv_iload_n hx hb dL_law_1330 rfl (lv_at hl 3 rfl) ?_
  refine lv_iconst (v := nI 2) hx hb dL_law_1331 (by decide) ?_
  refine lv_iadd hx hb dL_law_1332 ?_
  refine va_sld hx hb hX hbl hbA hS (lw_idx hi (by decide) hL) dL_law_1333 ?_
  refine lv_aload_n hx hb dL_law_1334 rfl (lv_at hl 0 rfl) ?_
  refine lv_iload_n hx hb dL_law_1335 rfl (lv_at hl 3 rfl) ?_
  refine lv_iconst (v := nI 3) hx hb dL_law_1336 (by decide) ?_
  refine lv_iadd hx hb dL_law_1337 ?_
  refine va_sld hx hb hX hbl hbA hS (lw_idx hi (by decide) hL) dL_law_1338 ?_
  refine lv_aload_n hx hb dL_law_1339 rfl (lv_at hl 0 rfl) ?_
  refine lv_iload_n hx hb dL_law_1340 rfl (lv_at hl 3 rfl) ?_
  refine lv_iconst (v := nI 4) hx hb dL_law_1341 (by decide) ?_
  refine lv_iadd hx hb dL_law_1342 ?_
  refine va_sld hx hb hX hbl hbA hS (lw_idx hi (by decide) hL) dL_law_1343 ?_
  refine sL_140 (β := 0) (D := fun _ => False) C (hA := fun q hq => hMA q hq) h2 hp.2.1 hS hl.1 (Nat.le_of_ble_eq_true rfl) (Nat.le_of_ble_eq_true rfl) (Nat.le_of_ble_eq_true rfl) (by omega) dL_law_1344 (fun H1 locs hw hz hk hS => ?_)
  replace hp := hp.m hw hk
  clear hw hz hk
  refine lv_icmp_eq (tgt := 1385) hx hb dL_law_1347 (by decide) (fun cc => ?_) (fun cc => ?_)
  · refine W.widen (k := cells + 11) (n := slots + 207) (by omega) (by omega) ?_
    exact kk _ _ _ _ hp hr hS
  · exact absurd rfl cc
set_option maxHeartbeats 4000000 in
set_option maxRecDepth 100000 in
theorem LC29 {p : Program} {l : Launch} {e : Env} {s : State} {m : MethodId} {args : Array Value} {below : List Frame} {meth : Method} {c : Code} {Q : State → Prop} {G : xG} {β b L i cells slots : Nat} {A : Nat → Prop} {xs : Nat → Int32} {ret : Option FieldType} {Rel : XS → MS → Prop} {x : XS} {y : MS} {H : Heap} {locs : List Loc} {ls : Array Slot} (S0 : ST29 Rel) (C : Cx p s m args meth c RL code 4 ret (KK G)) (hDA : ∀ q, DL β q → A q) (hMA : ∀ q, AM (β + 31) q → A q) (hX : va_X b L xs s s.heap) (hbl : b < s.heap.size) (hbA : ¬ A b) (hi : i + 6 ≤ L) (hL : L ≤ 3072) (hcs : cells + 11 ≤ room_1.cells ∧ slots + 207 ≤ room_1.slots) (hp : LPc β G x y H) (hr : Rel x y) (hS : va_S A s.heap H locs) (hl : lv_has ls 4 [(0, .ref b), (1, .ref β), (2, .ref (β + 31)), (3, .int (nI i))]) (kk : ∀ (x : XS) (y : MS) (H : Heap) (locs : List Loc), LPc β G x y H → Rel x y → va_S A s.heap H locs → W p l e room_1 s m args below meth c H locs (cells + 11) (slots + 207) Q (F0 m 1385 ls [])) : W p l e room_1 s m args below meth c H locs cells slots Q (F0 m 1352 ls []) := by
  have hx := C.1
  have hb := C.2.1
  have ho := C.2.2.2.1
  have hts := C.2.2.2.2.1
  obtain ⟨r, h1, h2, hr⟩ := S0 x y (xs (nI i + nI 1).toNatClampNeg) (xs (nI i + nI 2).toNatClampNeg) hr
  refine lv_aload_n hx hb dL_law_1352 rfl (lv_at hl 1 rfl) ?_
  refine lv_aload_n hx hb dL_law_1353 rfl (lv_at hl 0 rfl) ?_
  refine lv_iload_n hx hb dL_law_1354 rfl (lv_at hl 3 rfl) ?_
  refine lv_iconst (v := nI 1) hx hb dL_law_1355 (by decide) ?_
  refine lv_iadd hx hb dL_law_1356 ?_
  refine va_sld hx hb hX hbl hbA hS (lw_idx hi (by decide) hL) dL_law_1357 ?_
  refine lv_aload_n hx hb dL_law_1358 rfl (lv_at hl 0 rfl) ?_
  refine lv_iload_n hx hb dL_law_1359 rfl (lv_at hl 3 rfl) ?_
  refine lv_iconst (v := nI 2) hx hb dL_law_1360 (by decide) ?_
  refine lv_iadd hx hb dL_law_1361 ?_
  refine va_sld hx hb hX hbl hbA hS (lw_idx hi (by decide) hL) dL_law_1362 ?_
  refine sL_141 (γ := 0) (N := 0) C (hA := fun q hq => hDA q hq) h1 hp.1 hS hl.1 (Nat.le_of_ble_eq_true rfl) (Nat.le_of_ble_eq_true rfl) (Nat.le_of_ble_eq_true rfl) (by omega) dL_law_1363 (fun H1 locs hw hz hk hS => ?_)
  replace hp := hp.x hw hz hk
  clear hw hz hk
  refine lv_aload_n hx hb dL_law_1366 rfl (lv_at hl 2 rfl) ?_
  refine lv_aload_n hx hb dL_law_1367 rfl (lv_at hl 0 rfl) ?_
  refine lv_iload_n hx hb dL_law_1368 rfl (lv_at hl 3 rfl) ?_
  refine lv_iconst (v := nI 1) hx hb dL_law_1369 (by decide) ?_
  refine lv_iadd hx hb dL_law_1370 ?_
  refine va_sld hx hb hX hbl hbA hS (lw_idx hi (by decide) hL) dL_law_1371 ?_
  refine lv_aload_n hx hb dL_law_1372 rfl (lv_at hl 0 rfl) ?_
  refine lv_iload_n hx hb dL_law_1373 rfl (lv_at hl 3 rfl) ?_
  refine lv_iconst (v := nI 2) hx hb dL_law_1374 (by decide) ?_
  refine lv_iadd hx hb dL_law_1375 ?_
  refine va_sld hx hb hX hbl hbA hS (lw_idx hi (by decide) hL) dL_law_1376 ?_
  refine sL_144 (β := 0) (D := fun _ => False) C (hA := fun q hq => hMA q hq) h2 hp.2.1 hS hl.1 (Nat.le_of_ble_eq_true rfl) (Nat.le_of_ble_eq_true rfl) (Nat.le_of_ble_eq_true rfl) (by omega) dL_law_1377 (fun H1 locs hw hz hk hS => ?_)
  replace hp := hp.m hw hk
  clear hw hz hk
  refine lv_icmp_eq (tgt := 1385) hx hb dL_law_1380 (by decide) (fun cc => ?_) (fun cc => ?_)
  · refine W.widen (k := cells + 11) (n := slots + 207) (by omega) (by omega) ?_
    exact kk _ _ _ _ hp hr hS
  · exact absurd rfl cc
