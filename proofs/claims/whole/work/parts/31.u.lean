theorem dX9_init_0 : decode cX9_init 0 = .ok (.aload_n 0, 1) := by decide +kernel
theorem dX9_init_1 : decode cX9_init 1 = .ok (.invokespecial 7, 3) := by decide +kernel
theorem dX9_init_4 : decode cX9_init 4 = .ok (.aload_n 0, 1) := by decide +kernel
theorem dX9_init_5 : decode cX9_init 5 = .ok (.sipush 960, 3) := by decide +kernel
theorem dX9_init_8 : decode cX9_init 8 = .ok (.newarray .int, 2) := by decide +kernel
theorem dX9_init_10 : decode cX9_init 10 = .ok (.putfield 13, 3) := by decide +kernel
theorem dX9_init_13 : decode cX9_init 13 = .ok (.aload_n 0, 1) := by decide +kernel
theorem dX9_init_14 : decode cX9_init 14 = .ok (.bipush 6, 2) := by decide +kernel
theorem dX9_init_16 : decode cX9_init 16 = .ok (.newarray .int, 2) := by decide +kernel
theorem dX9_init_18 : decode cX9_init 18 = .ok (.putfield 17, 3) := by decide +kernel
theorem dX9_init_21 : decode cX9_init 21 = .ok (.aload_n 0, 1) := by decide +kernel
theorem dX9_init_22 : decode cX9_init 22 = .ok (.sipush 160, 3) := by decide +kernel
theorem dX9_init_25 : decode cX9_init 25 = .ok (.newarray .int, 2) := by decide +kernel
theorem dX9_init_27 : decode cX9_init 27 = .ok (.putfield 20, 3) := by decide +kernel
theorem dX9_init_30 : decode cX9_init 30 = .ok (.aload_n 0, 1) := by decide +kernel
theorem dX9_init_31 : decode cX9_init 31 = .ok (.bipush 10, 2) := by decide +kernel
theorem dX9_init_33 : decode cX9_init 33 = .ok (.newarray .int, 2) := by decide +kernel
theorem dX9_init_35 : decode cX9_init 35 = .ok (.putfield 23, 3) := by decide +kernel
theorem dX9_init_38 : decode cX9_init 38 = .ok (.aload_n 0, 1) := by decide +kernel
theorem dX9_init_39 : decode cX9_init 39 = .ok (.bipush 10, 2) := by decide +kernel
theorem dX9_init_41 : decode cX9_init 41 = .ok (.newarray .int, 2) := by decide +kernel
theorem dX9_init_43 : decode cX9_init 43 = .ok (.putfield 26, 3) := by decide +kernel
theorem dX9_init_46 : decode cX9_init 46 = .ok (.aload_n 0, 1) := by decide +kernel
theorem dX9_init_47 : decode cX9_init 47 = .ok (.bipush 10, 2) := by decide +kernel
theorem dX9_init_49 : decode cX9_init 49 = .ok (.newarray .int, 2) := by decide +kernel
theorem dX9_init_51 : decode cX9_init 51 = .ok (.putfield 29, 3) := by decide +kernel
theorem dX9_init_54 : decode cX9_init 54 = .ok (.aload_n 0, 1) := by decide +kernel
theorem dX9_init_55 : decode cX9_init 55 = .ok (.bipush 10, 2) := by decide +kernel
theorem dX9_init_57 : decode cX9_init 57 = .ok (.newarray .int, 2) := by decide +kernel
theorem dX9_init_59 : decode cX9_init 59 = .ok (.putfield 32, 3) := by decide +kernel
theorem dX9_init_62 : decode cX9_init 62 = .ok (.aload_n 0, 1) := by decide +kernel
theorem dX9_init_63 : decode cX9_init 63 = .ok (.bipush 10, 2) := by decide +kernel
theorem dX9_init_65 : decode cX9_init 65 = .ok (.newarray .int, 2) := by decide +kernel
theorem dX9_init_67 : decode cX9_init 67 = .ok (.putfield 35, 3) := by decide +kernel
theorem dX9_init_70 : decode cX9_init 70 = .ok (.aload_n 0, 1) := by decide +kernel
theorem dX9_init_71 : decode cX9_init 71 = .ok (.bipush 10, 2) := by decide +kernel
theorem dX9_init_73 : decode cX9_init 73 = .ok (.newarray .int, 2) := by decide +kernel
theorem dX9_init_75 : decode cX9_init 75 = .ok (.putfield 38, 3) := by decide +kernel
theorem dX9_init_78 : decode cX9_init 78 = .ok (.aload_n 0, 1) := by decide +kernel
theorem dX9_init_79 : decode cX9_init 79 = .ok (.iconst 4, 1) := by decide +kernel
theorem dX9_init_80 : decode cX9_init 80 = .ok (.newarray .int, 2) := by decide +kernel
theorem dX9_init_82 : decode cX9_init 82 = .ok (.putfield 41, 3) := by decide +kernel
theorem dX9_init_85 : decode cX9_init 85 = .ok (.aload_n 0, 1) := by decide +kernel
theorem dX9_init_86 : decode cX9_init 86 = .ok (.bipush 10, 2) := by decide +kernel
theorem dX9_init_88 : decode cX9_init 88 = .ok (.newarray .int, 2) := by decide +kernel
theorem dX9_init_90 : decode cX9_init 90 = .ok (.putfield 44, 3) := by decide +kernel
theorem dX9_init_93 : decode cX9_init 93 = .ok (.aload_n 0, 1) := by decide +kernel
theorem dX9_init_94 : decode cX9_init 94 = .ok (.bipush 6, 2) := by decide +kernel
theorem dX9_init_96 : decode cX9_init 96 = .ok (.newarray .long, 2) := by decide +kernel
theorem dX9_init_98 : decode cX9_init 98 = .ok (.putfield 47, 3) := by decide +kernel
theorem dX9_init_101 : decode cX9_init 101 = .ok (.aload_n 0, 1) := by decide +kernel
theorem dX9_init_102 : decode cX9_init 102 = .ok (.iconst 5, 1) := by decide +kernel
theorem dX9_init_103 : decode cX9_init 103 = .ok (.newarray .int, 2) := by decide +kernel
theorem dX9_init_105 : decode cX9_init 105 = .ok (.putfield 51, 3) := by decide +kernel
theorem dX9_init_108 : decode cX9_init 108 = .ok (.aload_n 0, 1) := by decide +kernel
theorem dX9_init_109 : decode cX9_init 109 = .ok (.bipush 10, 2) := by decide +kernel
theorem dX9_init_111 : decode cX9_init 111 = .ok (.newarray .int, 2) := by decide +kernel
theorem dX9_init_113 : decode cX9_init 113 = .ok (.putfield 54, 3) := by decide +kernel
theorem dX9_init_116 : decode cX9_init 116 = .ok (.aload_n 0, 1) := by decide +kernel
theorem dX9_init_117 : decode cX9_init 117 = .ok (.bipush 24, 2) := by decide +kernel
theorem dX9_init_119 : decode cX9_init 119 = .ok (.newarray .int, 2) := by decide +kernel
theorem dX9_init_121 : decode cX9_init 121 = .ok (.putfield 57, 3) := by decide +kernel
theorem dX9_init_124 : decode cX9_init 124 = .ok (.aload_n 0, 1) := by decide +kernel
theorem dX9_init_125 : decode cX9_init 125 = .ok (.bipush 24, 2) := by decide +kernel
theorem dX9_init_127 : decode cX9_init 127 = .ok (.newarray .int, 2) := by decide +kernel
theorem dX9_init_129 : decode cX9_init 129 = .ok (.putfield 60, 3) := by decide +kernel
theorem dX9_init_132 : decode cX9_init 132 = .ok (.aload_n 0, 1) := by decide +kernel
theorem dX9_init_133 : decode cX9_init 133 = .ok (.bipush 24, 2) := by decide +kernel
theorem dX9_init_135 : decode cX9_init 135 = .ok (.newarray .int, 2) := by decide +kernel
theorem dX9_init_137 : decode cX9_init 137 = .ok (.putfield 63, 3) := by decide +kernel
theorem dX9_init_140 : decode cX9_init 140 = .ok (.aload_n 0, 1) := by decide +kernel
theorem dX9_init_141 : decode cX9_init 141 = .ok (.bipush 120, 2) := by decide +kernel
theorem dX9_init_143 : decode cX9_init 143 = .ok (.newarray .int, 2) := by decide +kernel
theorem dX9_init_145 : decode cX9_init 145 = .ok (.putfield 66, 3) := by decide +kernel
theorem dX9_init_148 : decode cX9_init 148 = .ok (.aload_n 0, 1) := by decide +kernel
theorem dX9_init_149 : decode cX9_init 149 = .ok (.bipush 120, 2) := by decide +kernel
theorem dX9_init_151 : decode cX9_init 151 = .ok (.newarray .int, 2) := by decide +kernel
theorem dX9_init_153 : decode cX9_init 153 = .ok (.putfield 69, 3) := by decide +kernel
theorem dX9_init_156 : decode cX9_init 156 = .ok (.aload_n 0, 1) := by decide +kernel
theorem dX9_init_157 : decode cX9_init 157 = .ok (.bipush 10, 2) := by decide +kernel
theorem dX9_init_159 : decode cX9_init 159 = .ok (.newarray .int, 2) := by decide +kernel
theorem dX9_init_161 : decode cX9_init 161 = .ok (.putfield 72, 3) := by decide +kernel
theorem dX9_init_164 : decode cX9_init 164 = .ok (.aload_n 0, 1) := by decide +kernel
theorem dX9_init_165 : decode cX9_init 165 = .ok (.bipush 10, 2) := by decide +kernel
theorem dX9_init_167 : decode cX9_init 167 = .ok (.newarray .int, 2) := by decide +kernel
theorem dX9_init_169 : decode cX9_init 169 = .ok (.putfield 75, 3) := by decide +kernel
theorem dX9_init_172 : decode cX9_init 172 = .ok (.aload_n 0, 1) := by decide +kernel
theorem dX9_init_173 : decode cX9_init 173 = .ok (.bipush 10, 2) := by decide +kernel
theorem dX9_init_175 : decode cX9_init 175 = .ok (.newarray .int, 2) := by decide +kernel
theorem dX9_init_177 : decode cX9_init 177 = .ok (.putfield 78, 3) := by decide +kernel
theorem dX9_init_180 : decode cX9_init 180 = .ok (.aload_n 0, 1) := by decide +kernel
theorem dX9_init_181 : decode cX9_init 181 = .ok (.bipush 10, 2) := by decide +kernel
theorem dX9_init_183 : decode cX9_init 183 = .ok (.newarray .int, 2) := by decide +kernel
theorem dX9_init_185 : decode cX9_init 185 = .ok (.putfield 81, 3) := by decide +kernel
theorem dX9_init_188 : decode cX9_init 188 = .ok (.aload_n 0, 1) := by decide +kernel
theorem dX9_init_189 : decode cX9_init 189 = .ok (.bipush 10, 2) := by decide +kernel
theorem dX9_init_191 : decode cX9_init 191 = .ok (.newarray .int, 2) := by decide +kernel
theorem dX9_init_193 : decode cX9_init 193 = .ok (.putfield 84, 3) := by decide +kernel
theorem dX9_init_196 : decode cX9_init 196 = .ok (.aload_n 0, 1) := by decide +kernel
theorem dX9_init_197 : decode cX9_init 197 = .ok (.iconst 4, 1) := by decide +kernel
theorem dX9_init_198 : decode cX9_init 198 = .ok (.newarray .int, 2) := by decide +kernel
theorem dX9_init_200 : decode cX9_init 200 = .ok (.putfield 87, 3) := by decide +kernel
theorem dX9_init_203 : decode cX9_init 203 = .ok (.aload_n 0, 1) := by decide +kernel
theorem dX9_init_204 : decode cX9_init 204 = .ok (.iconst 4, 1) := by decide +kernel
theorem dX9_init_205 : decode cX9_init 205 = .ok (.newarray .boolean, 2) := by decide +kernel
theorem dX9_init_207 : decode cX9_init 207 = .ok (.putfield 90, 3) := by decide +kernel
theorem dX9_init_210 : decode cX9_init 210 = .ok (.aload_n 0, 1) := by decide +kernel
theorem dX9_init_211 : decode cX9_init 211 = .ok (.iconst 4, 1) := by decide +kernel
theorem dX9_init_212 : decode cX9_init 212 = .ok (.newarray .int, 2) := by decide +kernel
theorem dX9_init_214 : decode cX9_init 214 = .ok (.putfield 94, 3) := by decide +kernel
theorem dX9_init_217 : decode cX9_init 217 = .ok (.aload_n 0, 1) := by decide +kernel
theorem dX9_init_218 : decode cX9_init 218 = .ok (.iconst 4, 1) := by decide +kernel
theorem dX9_init_219 : decode cX9_init 219 = .ok (.newarray .int, 2) := by decide +kernel
theorem dX9_init_221 : decode cX9_init 221 = .ok (.putfield 97, 3) := by decide +kernel
theorem dX9_init_224 : decode cX9_init 224 = .ok (.aload_n 0, 1) := by decide +kernel
theorem dX9_init_225 : decode cX9_init 225 = .ok (.sipush 160, 3) := by decide +kernel
theorem dX9_init_228 : decode cX9_init 228 = .ok (.newarray .int, 2) := by decide +kernel
theorem dX9_init_230 : decode cX9_init 230 = .ok (.putfield 100, 3) := by decide +kernel
theorem dX9_init_233 : decode cX9_init 233 = .ok (.aload_n 0, 1) := by decide +kernel
theorem dX9_init_234 : decode cX9_init 234 = .ok (.iconst 0, 1) := by decide +kernel
theorem dX9_init_235 : decode cX9_init 235 = .ok (.ldc2_w 103, 3) := by decide +kernel
theorem dX9_init_238 : decode cX9_init 238 = .ok (.invokevirtual 105, 3) := by decide +kernel
theorem dX9_init_241 : decode cX9_init 241 = .ok (.aload_n 0, 1) := by decide +kernel
theorem dX9_init_242 : decode cX9_init 242 = .ok (.bipush 8, 2) := by decide +kernel
theorem dX9_init_244 : decode cX9_init 244 = .ok (.ldc2_w 109, 3) := by decide +kernel
theorem dX9_init_247 : decode cX9_init 247 = .ok (.invokevirtual 105, 3) := by decide +kernel
theorem dX9_init_250 : decode cX9_init 250 = .ok (.aload_n 0, 1) := by decide +kernel
theorem dX9_init_251 : decode cX9_init 251 = .ok (.bipush 16, 2) := by decide +kernel
theorem dX9_init_253 : decode cX9_init 253 = .ok (.ldc2_w 111, 3) := by decide +kernel
theorem dX9_init_256 : decode cX9_init 256 = .ok (.invokevirtual 105, 3) := by decide +kernel
theorem dX9_init_259 : decode cX9_init 259 = .ok (.aload_n 0, 1) := by decide +kernel
theorem dX9_init_260 : decode cX9_init 260 = .ok (.bipush 24, 2) := by decide +kernel
theorem dX9_init_262 : decode cX9_init 262 = .ok (.ldc2_w 113, 3) := by decide +kernel
theorem dX9_init_265 : decode cX9_init 265 = .ok (.invokevirtual 105, 3) := by decide +kernel
theorem dX9_init_268 : decode cX9_init 268 = .ok (.aload_n 0, 1) := by decide +kernel
theorem dX9_init_269 : decode cX9_init 269 = .ok (.bipush 32, 2) := by decide +kernel
theorem dX9_init_271 : decode cX9_init 271 = .ok (.ldc2_w 115, 3) := by decide +kernel
theorem dX9_init_274 : decode cX9_init 274 = .ok (.invokevirtual 105, 3) := by decide +kernel
theorem dX9_init_277 : decode cX9_init 277 = .ok (.aload_n 0, 1) := by decide +kernel
theorem dX9_init_278 : decode cX9_init 278 = .ok (.bipush 40, 2) := by decide +kernel
theorem dX9_init_280 : decode cX9_init 280 = .ok (.ldc2_w 117, 3) := by decide +kernel
theorem dX9_init_283 : decode cX9_init 283 = .ok (.invokevirtual 105, 3) := by decide +kernel
theorem dX9_init_286 : decode cX9_init 286 = .ok (.aload_n 0, 1) := by decide +kernel
theorem dX9_init_287 : decode cX9_init 287 = .ok (.bipush 48, 2) := by decide +kernel
theorem dX9_init_289 : decode cX9_init 289 = .ok (.ldc2_w 119, 3) := by decide +kernel
theorem dX9_init_292 : decode cX9_init 292 = .ok (.invokevirtual 105, 3) := by decide +kernel
theorem dX9_init_295 : decode cX9_init 295 = .ok (.aload_n 0, 1) := by decide +kernel
theorem dX9_init_296 : decode cX9_init 296 = .ok (.getfield 17, 3) := by decide +kernel
theorem dX9_init_299 : decode cX9_init 299 = .ok (.iconst 0, 1) := by decide +kernel
theorem dX9_init_300 : decode cX9_init 300 = .ok (.bipush 56, 2) := by decide +kernel
theorem dX9_init_302 : decode cX9_init 302 = .ok (.iastore, 1) := by decide +kernel
theorem dX9_init_303 : decode cX9_init 303 = .ok (.aload_n 0, 1) := by decide +kernel
theorem dX9_init_304 : decode cX9_init 304 = .ok (.iconst 1, 1) := by decide +kernel
theorem dX9_init_305 : decode cX9_init 305 = .ok (.putfield 121, 3) := by decide +kernel
theorem dX9_init_308 : decode cX9_init 308 = .ok (.aload_n 0, 1) := by decide +kernel
theorem dX9_init_309 : decode cX9_init 309 = .ok (.iconst 1, 1) := by decide +kernel
theorem dX9_init_310 : decode cX9_init 310 = .ok (.putfield 124, 3) := by decide +kernel
theorem dX9_init_313 : decode cX9_init 313 = .ok (.iconst 0, 1) := by decide +kernel
theorem dX9_init_314 : decode cX9_init 314 = .ok (.istore_n 1, 1) := by decide +kernel
theorem dX9_init_315 : decode cX9_init 315 = .ok (.iload_n 1, 1) := by decide +kernel
theorem dX9_init_316 : decode cX9_init 316 = .ok (.iconst 4, 1) := by decide +kernel
theorem dX9_init_317 : decode cX9_init 317 = .ok (.if_icmp .ge 16, 3) := by decide +kernel
theorem dX9_init_320 : decode cX9_init 320 = .ok (.aload_n 0, 1) := by decide +kernel
theorem dX9_init_321 : decode cX9_init 321 = .ok (.getfield 41, 3) := by decide +kernel
theorem dX9_init_324 : decode cX9_init 324 = .ok (.iload_n 1, 1) := by decide +kernel
theorem dX9_init_325 : decode cX9_init 325 = .ok (.iconst 2, 1) := by decide +kernel
theorem dX9_init_326 : decode cX9_init 326 = .ok (.iastore, 1) := by decide +kernel
theorem dX9_init_327 : decode cX9_init 327 = .ok (.iinc 1 1, 3) := by decide +kernel
theorem dX9_init_330 : decode cX9_init 330 = .ok (.goto (-15), 3) := by decide +kernel
theorem dX9_init_333 : decode cX9_init 333 = .ok (.return_, 1) := by decide +kernel
theorem sX9_105 {p : Program} {l : Launch} {e : Env} {R : Room} {s : State} {m : MethodId} {args : Array Value} {below : List Frame} {meth : Method} {c : Code} {H : Heap} {locs : List Loc} {cells slots : Nat} {Q : State → Prop} {cc : ByteArray} {pc nL : Nat} {ls : Array Slot} {rest : List Value} {ret : Option FieldType} {G : xG} {β N : Nat} {x x' : MS} {a1 : Int32} {a2 : Int64} (C : Cx p s m args meth c RX9 cc nL ret (KK G)) (h : fX9_spell x a1 a2 = some x') (hw : MW β G N x H) (hS : va_S (AM β) s.heap H locs) (hsz : ls.size = nL) (hW : (rest.map fun v => v.category).sum ≤ 8) (hR : 1 ≤ R.frames) (hR2 : 24 ≤ R.locals) (hcs : cells ≤ R.cells ∧ slots ≤ R.slots) (hd : decode cc pc = .ok (.invokevirtual 105, 3)) (kk : ∀ (H1 : Heap) (locs1 : List Loc), MW β G N x' H1 → va_S (AM β) s.heap H1 locs1 → W p l e R s m args below meth c H1 locs1 cells slots Q (F0 m (pc + 3) ls (rest))) : W p l e R s m args below meth c H locs cells slots Q (F0 m pc ls (.long a2 :: .int a1 :: .ref β :: rest)) :=
  xcallV C (As := [.int a1, .long a2]) (rest := rest) (nA := 2) (ci := 9) (kX9_spell h) (tg 906 (by decide +kernel) rfl) (tg 908 (by decide +kernel) rfl) (sg (List.mem_of_getElem? (i := 54) (by decide +kernel)) rfl) (tg 14 (by decide +kernel) rfl) (tg 909 (by decide +kernel) rfl) ⟨rfl, by decide +kernel, by decide +kernel, by decide +kernel⟩ rfl rfl rfl ⟨hR, hR2⟩ (hw.2 0 (by decide)) hw hS (fun _ q => q) rfl rfl hsz hW hd hcs (fun H1 locs1 hw hz hk hS => kk H1 locs1 hw hS)
def BX9_init_315 (lp : Int32 → MS → Option (MS)) (u1 : Int32) (x : MS) : Option (MS) := if 4 ≤ u1 then some x else if ib u1 4 then lt (msA x 10 u1.toNatClampNeg 2) fun x20 => lt (u1 + 1) fun v21 => lp v21 x20 else none
def LX9_init_315 : Nat → Int32 → MS → Option (MS)
  | 0, _, _ => none
  | n + 1, u1, x => BX9_init_315 (LX9_init_315 n) u1 x
def fX9_tail (x : MS) : Option MS := Option.bind (fX9_spell x 0 7954896756975363425) fun x1 => Option.bind (fX9_spell x1 8 7214814020344229152) fun x3 => Option.bind (fX9_spell x3 16 8100956909258947360) fun x5 => Option.bind (fX9_spell x5 24 7525352679652073531) fun x7 => Option.bind (fX9_spell x7 32 2338319804398793842) fun x9 => Option.bind (fX9_spell x9 40 7308892994929700128) fun x11 => Option.bind (fX9_spell x11 48 7810756211409362976) fun x13 => if ib 0 6 then lt (msA x13 2 (0 : Int32).toNatClampNeg 56) fun x16 => lt (msS x16 0 3 1) fun x17 => lt (msS x17 0 15 1) fun x18 => Option.bind (LX9_init_315 NF 0 x18) fun x22 => some x22 else none
set_option maxHeartbeats 4000000 in
set_option maxRecDepth 100000 in
theorem lX9_init_315 {p : Program} {l : Launch} {e : Env} {R : Room} {s : State} {m : MethodId} {args : Array Value} {below : List Frame} {meth : Method} {c : Code} {cells slots : Nat} {Q : State → Prop} {G : xG} {β N : Nat} (C : Cx p s m args meth c RX9 cX9_init 2 none (KK G)) (hRf : 1 ≤ R.frames) (hRl : 24 ≤ R.locals) (hcs : cells ≤ R.cells ∧ slots ≤ R.slots) : ∀ (n : Nat) (u1 : Int32) (x : MS) (J : MS) (H : Heap) (locs : List Loc) (ls : Array Slot), LX9_init_315 n u1 x = some J → MW β G N x H → va_S (AM β) s.heap H locs → lv_has ls 2 [(0, .ref β), (1, .int u1)] → (∀ (x1 : MS), J = x1 → ∀ (H : Heap) (locs : List Loc) (ls : Array Slot), MW β G N x1 H → va_S (AM β) s.heap H locs → lv_has ls 2 [] → W p l e R s m args below meth c H locs cells slots Q (F0 m 333 ls [])) → W p l e R s m args below meth c H locs cells slots Q (F0 m 315 ls []) := by
  have hx := C.1
  have hb := C.2.1
  have ho := C.2.2.2.1
  have hts := C.2.2.2.2.1
  intro n
  induction n with
  | zero =>
    intro u1 x J H locs ls hm
    exact absurd hm (by simp [LX9_init_315])
  | succ n ih =>
    intro u1 x J H locs ls hm hw hS hl ke
    replace hm : BX9_init_315 (LX9_init_315 n) u1 x = some J := hm
    unfold BX9_init_315 at hm
    refine lv_iload_n hx hb dX9_init_315 rfl (lv_at hl 1 rfl) ?_
    refine lv_iconst (v := 4) hx hb dX9_init_316 (by decide) ?_
    refine lv_icmp_ge (tgt := 333) hx hb dX9_init_317 (by decide) (fun cc => ?_) (fun cc => ?_)
    · replace hm := ite_p cc hm
      exact ke _ (Option.some.inj hm).symm _ _ _ hw hS (lv_sub hl [] rfl)
    · replace hm := ite_n cc hm
      refine lv_aload_n hx hb dX9_init_320 rfl (lv_at hl 0 rfl) ?_
      refine gX9_41 C hw dX9_init_321 ?_
      refine lv_iload_n hx hb dX9_init_324 rfl (lv_at hl 1 rfl) ?_
      refine lv_iconst (v := 2) hx hb dX9_init_325 (by decide) ?_
      obtain ⟨h19, hm⟩ := chk_e hm
      refine asM_10 C hw hS h19 dX9_init_326 (fun H locs hw hS => ?_)
      obtain ⟨x20, ev, hm⟩ := lt_e hm
      rw [← ev] at hw
      clear ev
      obtain ⟨v21, ev, hm⟩ := lt_e hm
      refine lv_iinc (v := v21) (lv' := [(1, .int v21), (0, .ref β)]) hx hb dX9_init_327 hl (k := 1) rfl (by rw [ev]; rfl) (by decide) rfl (fun ls hl => ?_)
      clear ev
      refine lv_goto (tgt := 315) hx hb dX9_init_330 (by decide) ?_
      exact ih _ _ _ _ _ _ hm hw hS (lv_sub hl [1, 0] rfl) ke
def x0M : MS := (fun _ _ => 0, fun _ _ => 0, fun _ _ => 0)
abbrev rmX9_init : Room := { frames := 1, cells := 29, slots := 1759, locals := 24 }
set_option maxHeartbeats 4000000 in
set_option maxRecDepth 100000 in
theorem kX9_init {l : Launch} {G : xG} {β N : Nat} {x' : MS} (hN : N = β + 30) (hm : fX9_tail x0M = some x') : Met l yX9_init (.code yX9_init cX9_init 2 none :: GT) rmX9_init (PcW [.ref β] (LW β G [.inr (9, [.int 0, .null, .null, .int 0, .int 0, .null, .int 0, .null, .null, .null, .null, .null, .null, .int 0, .null, .int 0, .null, .null, .null, .int 0, .int 0, .null, .int 0, .int 0, .int 0, .int 0, .long 0, .int 0, .int 0, .int 0, .int 0, .int 0, .int 0, .int 0, .int 0, .int 0, .null, .null, .null, .null, .null, .int 0, .null, .null, .null, .null, .null, .null, .int 0, .int 0, .int 0, .int 0, .int 0, .null, .null, .null, .null])]) (KK G)) (QcW (AM β) none (MW β G N x')) 29 1759 (AM β) := by
  refine xproI (own := RX9) (by decide +kernel) rfl (Nat.le_of_ble_eq_true rfl) ?_
  intro p e s m args below meth c C hin hw ls hl
  have hA : ∀ k, k < 30 → AM β (β + k) := fun k hk => AM.in hk
  have hx := C.1
  have hb := C.2.1
  have ho := C.2.2.2.1
  have hts := C.2.2.2.2.1
  have hS : va_S (AM β) s.heap s.heap [] := va_S.rf
  have hl : lv_has ls 2 [(0, .ref (β))] := hl
  refine lv_aload_n hx hb dX9_init_0 rfl (lv_at hl 0 rfl) ?_
  refine W.objInit hx hb ho (hts (.methodLink RX9 7 objectInit) (tg 904 (by decide +kernel) rfl)) (hts (.instanceMethod objectInit) (tg 25 (by decide +kernel) rfl)) (hts (.code objectInit ⟨#[0xb1]⟩ 1 none) (tg 26 (by decide +kernel) rfl)) rfl (by rw [C.2.2.1]; exact hl.1) rfl dX9_init_1 (Nat.le_of_ble_eq_true rfl) (Nat.le_of_ble_eq_true rfl) ?_
  refine W.eq (g2 := F0 m 4 ls []) rfl ?_
  refine lv_aload_n hx hb dX9_init_4 rfl (lv_at hl 0 rfl) ?_
  refine lv_sipush (v := 960) hx hb dX9_init_5 (by decide) ?_
  have hz := hw.1
  replace hz : _ = β + 1 := hz
  refine x_newa (G := G) (cl := vwCl) (N := 960) hx hb (hts (.arrayClass .int) (tg 60 (by decide +kernel) rfl)) C.K hS (by decide) rfl (by decide) (Nat.le_of_ble_eq_true rfl) (Nat.le_of_ble_eq_true rfl) dX9_init_8 (fun H1 hat ho1 hS => ?_)
  rw [hz]
  have hw : LW β G [.inr (9, [.int 0, .null, .null, .int 0, .int 0, .null, .int 0, .null, .null, .null, .null, .null, .null, .int 0, .null, .int 0, .null, .null, .null, .int 0, .int 0, .null, .int 0, .int 0, .int 0, .int 0, .long 0, .int 0, .int 0, .int 0, .int 0, .int 0, .int 0, .int 0, .int 0, .int 0, .null, .null, .null, .null, .null, .int 0, .null, .null, .null, .null, .null, .null, .int 0, .int 0, .int 0, .int 0, .int 0, .null, .null, .null, .null]), .inl (G.2.1 0, 960, .inl (fun _ => 0))] H1 := hw.push hat ho1
  clear hat ho1 hz
  refine W.widen (k := 1) (n := 960) (Nat.le_of_ble_eq_true rfl) (Nat.le_of_ble_eq_true rfl) ?_
  refine x_putF (ci := 9) hx hb hts iwX9 tyX9 tyX9_ok nmX9 ho C.K.1 hS (hw.2 0 _ rfl) (hA 0 (by decide)) rfl 1 (by decide) (C.2.2.2.2.1 (.fieldLink RX9 13 RX9 "texts" "[I") (tg 917 (by decide +kernel) rfl)) (fun _ h9 => h9) rfl hin rfl (ty := tyX9 1) (by decide +kernel) rfl rfl (Nat.le_of_ble_eq_true rfl) dX9_init_10 (fun H1 locs hat ho1 hS => ?_)
  have hw : LW β G [.inr (9, [.int 0, .ref (β + 1), .null, .int 0, .int 0, .null, .int 0, .null, .null, .null, .null, .null, .null, .int 0, .null, .int 0, .null, .null, .null, .int 0, .int 0, .null, .int 0, .int 0, .int 0, .int 0, .long 0, .int 0, .int 0, .int 0, .int 0, .int 0, .int 0, .int 0, .int 0, .int 0, .null, .null, .null, .null, .null, .int 0, .null, .null, .null, .null, .null, .null, .int 0, .int 0, .int 0, .int 0, .int 0, .null, .null, .null, .null]), .inl (G.2.1 0, 960, .inl (fun _ => 0))] H1 := hw.set 0 (Nat.le_of_ble_eq_true rfl) hat ho1
  clear hat ho1
  refine lv_aload_n hx hb dX9_init_13 rfl (lv_at hl 0 rfl) ?_
  refine lv_bipush (v := 6) hx hb dX9_init_14 (by decide) ?_
  have hz := hw.1
  replace hz : _ = β + 2 := hz
  refine x_newa (G := G) (cl := vwCl) (N := 6) hx hb (hts (.arrayClass .int) (tg 60 (by decide +kernel) rfl)) C.K hS (by decide) rfl (by decide) (Nat.le_of_ble_eq_true rfl) (Nat.le_of_ble_eq_true rfl) dX9_init_16 (fun H1 hat ho1 hS => ?_)
  rw [hz]
  have hw : LW β G [.inr (9, [.int 0, .ref (β + 1), .null, .int 0, .int 0, .null, .int 0, .null, .null, .null, .null, .null, .null, .int 0, .null, .int 0, .null, .null, .null, .int 0, .int 0, .null, .int 0, .int 0, .int 0, .int 0, .long 0, .int 0, .int 0, .int 0, .int 0, .int 0, .int 0, .int 0, .int 0, .int 0, .null, .null, .null, .null, .null, .int 0, .null, .null, .null, .null, .null, .null, .int 0, .int 0, .int 0, .int 0, .int 0, .null, .null, .null, .null]), .inl (G.2.1 0, 960, .inl (fun _ => 0)), .inl (G.2.1 0, 6, .inl (fun _ => 0))] H1 := hw.push hat ho1
  clear hat ho1 hz
  refine W.widen (k := 2) (n := 966) (Nat.le_of_ble_eq_true rfl) (Nat.le_of_ble_eq_true rfl) ?_
  refine x_putF (ci := 9) hx hb hts iwX9 tyX9 tyX9_ok nmX9 ho C.K.1 hS (hw.2 0 _ rfl) (hA 0 (by decide)) rfl 2 (by decide) (C.2.2.2.2.1 (.fieldLink RX9 17 RX9 "textSize" "[I") (tg 918 (by decide +kernel) rfl)) (fun _ h9 => h9) rfl hin rfl (ty := tyX9 2) (by decide +kernel) rfl rfl (Nat.le_of_ble_eq_true rfl) dX9_init_18 (fun H1 locs hat ho1 hS => ?_)
  have hw : LW β G [.inr (9, [.int 0, .ref (β + 1), .ref (β + 2), .int 0, .int 0, .null, .int 0, .null, .null, .null, .null, .null, .null, .int 0, .null, .int 0, .null, .null, .null, .int 0, .int 0, .null, .int 0, .int 0, .int 0, .int 0, .long 0, .int 0, .int 0, .int 0, .int 0, .int 0, .int 0, .int 0, .int 0, .int 0, .null, .null, .null, .null, .null, .int 0, .null, .null, .null, .null, .null, .null, .int 0, .int 0, .int 0, .int 0, .int 0, .null, .null, .null, .null]), .inl (G.2.1 0, 960, .inl (fun _ => 0)), .inl (G.2.1 0, 6, .inl (fun _ => 0))] H1 := hw.set 0 (Nat.le_of_ble_eq_true rfl) hat ho1
  clear hat ho1
  refine lv_aload_n hx hb dX9_init_21 rfl (lv_at hl 0 rfl) ?_
  refine lv_sipush (v := 160) hx hb dX9_init_22 (by decide) ?_
  have hz := hw.1
  replace hz : _ = β + 3 := hz
  refine x_newa (G := G) (cl := vwCl) (N := 160) hx hb (hts (.arrayClass .int) (tg 60 (by decide +kernel) rfl)) C.K hS (by decide) rfl (by decide) (Nat.le_of_ble_eq_true rfl) (Nat.le_of_ble_eq_true rfl) dX9_init_25 (fun H1 hat ho1 hS => ?_)
  rw [hz]
  have hw : LW β G [.inr (9, [.int 0, .ref (β + 1), .ref (β + 2), .int 0, .int 0, .null, .int 0, .null, .null, .null, .null, .null, .null, .int 0, .null, .int 0, .null, .null, .null, .int 0, .int 0, .null, .int 0, .int 0, .int 0, .int 0, .long 0, .int 0, .int 0, .int 0, .int 0, .int 0, .int 0, .int 0, .int 0, .int 0, .null, .null, .null, .null, .null, .int 0, .null, .null, .null, .null, .null, .null, .int 0, .int 0, .int 0, .int 0, .int 0, .null, .null, .null, .null]), .inl (G.2.1 0, 960, .inl (fun _ => 0)), .inl (G.2.1 0, 6, .inl (fun _ => 0)), .inl (G.2.1 0, 160, .inl (fun _ => 0))] H1 := hw.push hat ho1
  clear hat ho1 hz
  refine W.widen (k := 3) (n := 1126) (Nat.le_of_ble_eq_true rfl) (Nat.le_of_ble_eq_true rfl) ?_
  refine x_putF (ci := 9) hx hb hts iwX9 tyX9 tyX9_ok nmX9 ho C.K.1 hS (hw.2 0 _ rfl) (hA 0 (by decide)) rfl 5 (by decide) (C.2.2.2.2.1 (.fieldLink RX9 20 RX9 "tape" "[I") (tg 921 (by decide +kernel) rfl)) (fun _ h9 => h9) rfl hin rfl (ty := tyX9 5) (by decide +kernel) rfl rfl (Nat.le_of_ble_eq_true rfl) dX9_init_27 (fun H1 locs hat ho1 hS => ?_)
  have hw : LW β G [.inr (9, [.int 0, .ref (β + 1), .ref (β + 2), .int 0, .int 0, .ref (β + 3), .int 0, .null, .null, .null, .null, .null, .null, .int 0, .null, .int 0, .null, .null, .null, .int 0, .int 0, .null, .int 0, .int 0, .int 0, .int 0, .long 0, .int 0, .int 0, .int 0, .int 0, .int 0, .int 0, .int 0, .int 0, .int 0, .null, .null, .null, .null, .null, .int 0, .null, .null, .null, .null, .null, .null, .int 0, .int 0, .int 0, .int 0, .int 0, .null, .null, .null, .null]), .inl (G.2.1 0, 960, .inl (fun _ => 0)), .inl (G.2.1 0, 6, .inl (fun _ => 0)), .inl (G.2.1 0, 160, .inl (fun _ => 0))] H1 := hw.set 0 (Nat.le_of_ble_eq_true rfl) hat ho1
  clear hat ho1
  refine lv_aload_n hx hb dX9_init_30 rfl (lv_at hl 0 rfl) ?_
  refine lv_bipush (v := 10) hx hb dX9_init_31 (by decide) ?_
  have hz := hw.1
  replace hz : _ = β + 4 := hz
  refine x_newa (G := G) (cl := vwCl) (N := 10) hx hb (hts (.arrayClass .int) (tg 60 (by decide +kernel) rfl)) C.K hS (by decide) rfl (by decide) (Nat.le_of_ble_eq_true rfl) (Nat.le_of_ble_eq_true rfl) dX9_init_33 (fun H1 hat ho1 hS => ?_)
  rw [hz]
  have hw : LW β G [.inr (9, [.int 0, .ref (β + 1), .ref (β + 2), .int 0, .int 0, .ref (β + 3), .int 0, .null, .null, .null, .null, .null, .null, .int 0, .null, .int 0, .null, .null, .null, .int 0, .int 0, .null, .int 0, .int 0, .int 0, .int 0, .long 0, .int 0, .int 0, .int 0, .int 0, .int 0, .int 0, .int 0, .int 0, .int 0, .null, .null, .null, .null, .null, .int 0, .null, .null, .null, .null, .null, .null, .int 0, .int 0, .int 0, .int 0, .int 0, .null, .null, .null, .null]), .inl (G.2.1 0, 960, .inl (fun _ => 0)), .inl (G.2.1 0, 6, .inl (fun _ => 0)), .inl (G.2.1 0, 160, .inl (fun _ => 0)), .inl (G.2.1 0, 10, .inl (fun _ => 0))] H1 := hw.push hat ho1
  clear hat ho1 hz
  refine W.widen (k := 4) (n := 1136) (Nat.le_of_ble_eq_true rfl) (Nat.le_of_ble_eq_true rfl) ?_
  refine x_putF (ci := 9) hx hb hts iwX9 tyX9 tyX9_ok nmX9 ho C.K.1 hS (hw.2 0 _ rfl) (hA 0 (by decide)) rfl 7 (by decide) (C.2.2.2.2.1 (.fieldLink RX9 23 RX9 "kind" "[I") (tg 923 (by decide +kernel) rfl)) (fun _ h9 => h9) rfl hin rfl (ty := tyX9 7) (by decide +kernel) rfl rfl (Nat.le_of_ble_eq_true rfl) dX9_init_35 (fun H1 locs hat ho1 hS => ?_)
  have hw : LW β G [.inr (9, [.int 0, .ref (β + 1), .ref (β + 2), .int 0, .int 0, .ref (β + 3), .int 0, .ref (β + 4), .null, .null, .null, .null, .null, .int 0, .null, .int 0, .null, .null, .null, .int 0, .int 0, .null, .int 0, .int 0, .int 0, .int 0, .long 0, .int 0, .int 0, .int 0, .int 0, .int 0, .int 0, .int 0, .int 0, .int 0, .null, .null, .null, .null, .null, .int 0, .null, .null, .null, .null, .null, .null, .int 0, .int 0, .int 0, .int 0, .int 0, .null, .null, .null, .null]), .inl (G.2.1 0, 960, .inl (fun _ => 0)), .inl (G.2.1 0, 6, .inl (fun _ => 0)), .inl (G.2.1 0, 160, .inl (fun _ => 0)), .inl (G.2.1 0, 10, .inl (fun _ => 0))] H1 := hw.set 0 (Nat.le_of_ble_eq_true rfl) hat ho1
  clear hat ho1
  refine lv_aload_n hx hb dX9_init_38 rfl (lv_at hl 0 rfl) ?_
  refine lv_bipush (v := 10) hx hb dX9_init_39 (by decide) ?_
  have hz := hw.1
  replace hz : _ = β + 5 := hz
  refine x_newa (G := G) (cl := vwCl) (N := 10) hx hb (hts (.arrayClass .int) (tg 60 (by decide +kernel) rfl)) C.K hS (by decide) rfl (by decide) (Nat.le_of_ble_eq_true rfl) (Nat.le_of_ble_eq_true rfl) dX9_init_41 (fun H1 hat ho1 hS => ?_)
  rw [hz]
  have hw : LW β G [.inr (9, [.int 0, .ref (β + 1), .ref (β + 2), .int 0, .int 0, .ref (β + 3), .int 0, .ref (β + 4), .null, .null, .null, .null, .null, .int 0, .null, .int 0, .null, .null, .null, .int 0, .int 0, .null, .int 0, .int 0, .int 0, .int 0, .long 0, .int 0, .int 0, .int 0, .int 0, .int 0, .int 0, .int 0, .int 0, .int 0, .null, .null, .null, .null, .null, .int 0, .null, .null, .null, .null, .null, .null, .int 0, .int 0, .int 0, .int 0, .int 0, .null, .null, .null, .null]), .inl (G.2.1 0, 960, .inl (fun _ => 0)), .inl (G.2.1 0, 6, .inl (fun _ => 0)), .inl (G.2.1 0, 160, .inl (fun _ => 0)), .inl (G.2.1 0, 10, .inl (fun _ => 0)), .inl (G.2.1 0, 10, .inl (fun _ => 0))] H1 := hw.push hat ho1
  clear hat ho1 hz
  refine W.widen (k := 5) (n := 1146) (Nat.le_of_ble_eq_true rfl) (Nat.le_of_ble_eq_true rfl) ?_
  refine x_putF (ci := 9) hx hb hts iwX9 tyX9 tyX9_ok nmX9 ho C.K.1 hS (hw.2 0 _ rfl) (hA 0 (by decide)) rfl 8 (by decide) (C.2.2.2.2.1 (.fieldLink RX9 26 RX9 "strength" "[I") (tg 924 (by decide +kernel) rfl)) (fun _ h9 => h9) rfl hin rfl (ty := tyX9 8) (by decide +kernel) rfl rfl (Nat.le_of_ble_eq_true rfl) dX9_init_43 (fun H1 locs hat ho1 hS => ?_)
  have hw : LW β G [.inr (9, [.int 0, .ref (β + 1), .ref (β + 2), .int 0, .int 0, .ref (β + 3), .int 0, .ref (β + 4), .ref (β + 5), .null, .null, .null, .null, .int 0, .null, .int 0, .null, .null, .null, .int 0, .int 0, .null, .int 0, .int 0, .int 0, .int 0, .long 0, .int 0, .int 0, .int 0, .int 0, .int 0, .int 0, .int 0, .int 0, .int 0, .null, .null, .null, .null, .null, .int 0, .null, .null, .null, .null, .null, .null, .int 0, .int 0, .int 0, .int 0, .int 0, .null, .null, .null, .null]), .inl (G.2.1 0, 960, .inl (fun _ => 0)), .inl (G.2.1 0, 6, .inl (fun _ => 0)), .inl (G.2.1 0, 160, .inl (fun _ => 0)), .inl (G.2.1 0, 10, .inl (fun _ => 0)), .inl (G.2.1 0, 10, .inl (fun _ => 0))] H1 := hw.set 0 (Nat.le_of_ble_eq_true rfl) hat ho1
  clear hat ho1
  refine lv_aload_n hx hb dX9_init_46 rfl (lv_at hl 0 rfl) ?_
  refine lv_bipush (v := 10) hx hb dX9_init_47 (by decide) ?_
  have hz := hw.1
  replace hz : _ = β + 6 := hz
  refine x_newa (G := G) (cl := vwCl) (N := 10) hx hb (hts (.arrayClass .int) (tg 60 (by decide +kernel) rfl)) C.K hS (by decide) rfl (by decide) (Nat.le_of_ble_eq_true rfl) (Nat.le_of_ble_eq_true rfl) dX9_init_49 (fun H1 hat ho1 hS => ?_)
  rw [hz]
  have hw : LW β G [.inr (9, [.int 0, .ref (β + 1), .ref (β + 2), .int 0, .int 0, .ref (β + 3), .int 0, .ref (β + 4), .ref (β + 5), .null, .null, .null, .null, .int 0, .null, .int 0, .null, .null, .null, .int 0, .int 0, .null, .int 0, .int 0, .int 0, .int 0, .long 0, .int 0, .int 0, .int 0, .int 0, .int 0, .int 0, .int 0, .int 0, .int 0, .null, .null, .null, .null, .null, .int 0, .null, .null, .null, .null, .null, .null, .int 0, .int 0, .int 0, .int 0, .int 0, .null, .null, .null, .null]), .inl (G.2.1 0, 960, .inl (fun _ => 0)), .inl (G.2.1 0, 6, .inl (fun _ => 0)), .inl (G.2.1 0, 160, .inl (fun _ => 0)), .inl (G.2.1 0, 10, .inl (fun _ => 0)), .inl (G.2.1 0, 10, .inl (fun _ => 0)), .inl (G.2.1 0, 10, .inl (fun _ => 0))] H1 := hw.push hat ho1
  clear hat ho1 hz
  refine W.widen (k := 6) (n := 1156) (Nat.le_of_ble_eq_true rfl) (Nat.le_of_ble_eq_true rfl) ?_
  refine x_putF (ci := 9) hx hb hts iwX9 tyX9 tyX9_ok nmX9 ho C.K.1 hS (hw.2 0 _ rfl) (hA 0 (by decide)) rfl 9 (by decide) (C.2.2.2.2.1 (.fieldLink RX9 29 RX9 "age" "[I") (tg 925 (by decide +kernel) rfl)) (fun _ h9 => h9) rfl hin rfl (ty := tyX9 9) (by decide +kernel) rfl rfl (Nat.le_of_ble_eq_true rfl) dX9_init_51 (fun H1 locs hat ho1 hS => ?_)
  have hw : LW β G [.inr (9, [.int 0, .ref (β + 1), .ref (β + 2), .int 0, .int 0, .ref (β + 3), .int 0, .ref (β + 4), .ref (β + 5), .ref (β + 6), .null, .null, .null, .int 0, .null, .int 0, .null, .null, .null, .int 0, .int 0, .null, .int 0, .int 0, .int 0, .int 0, .long 0, .int 0, .int 0, .int 0, .int 0, .int 0, .int 0, .int 0, .int 0, .int 0, .null, .null, .null, .null, .null, .int 0, .null, .null, .null, .null, .null, .null, .int 0, .int 0, .int 0, .int 0, .int 0, .null, .null, .null, .null]), .inl (G.2.1 0, 960, .inl (fun _ => 0)), .inl (G.2.1 0, 6, .inl (fun _ => 0)), .inl (G.2.1 0, 160, .inl (fun _ => 0)), .inl (G.2.1 0, 10, .inl (fun _ => 0)), .inl (G.2.1 0, 10, .inl (fun _ => 0)), .inl (G.2.1 0, 10, .inl (fun _ => 0))] H1 := hw.set 0 (Nat.le_of_ble_eq_true rfl) hat ho1
  clear hat ho1
  refine lv_aload_n hx hb dX9_init_54 rfl (lv_at hl 0 rfl) ?_
  refine lv_bipush (v := 10) hx hb dX9_init_55 (by decide) ?_
  have hz := hw.1
  replace hz : _ = β + 7 := hz
  refine x_newa (G := G) (cl := vwCl) (N := 10) hx hb (hts (.arrayClass .int) (tg 60 (by decide +kernel) rfl)) C.K hS (by decide) rfl (by decide) (Nat.le_of_ble_eq_true rfl) (Nat.le_of_ble_eq_true rfl) dX9_init_57 (fun H1 hat ho1 hS => ?_)
  rw [hz]
  have hw : LW β G [.inr (9, [.int 0, .ref (β + 1), .ref (β + 2), .int 0, .int 0, .ref (β + 3), .int 0, .ref (β + 4), .ref (β + 5), .ref (β + 6), .null, .null, .null, .int 0, .null, .int 0, .null, .null, .null, .int 0, .int 0, .null, .int 0, .int 0, .int 0, .int 0, .long 0, .int 0, .int 0, .int 0, .int 0, .int 0, .int 0, .int 0, .int 0, .int 0, .null, .null, .null, .null, .null, .int 0, .null, .null, .null, .null, .null, .null, .int 0, .int 0, .int 0, .int 0, .int 0, .null, .null, .null, .null]), .inl (G.2.1 0, 960, .inl (fun _ => 0)), .inl (G.2.1 0, 6, .inl (fun _ => 0)), .inl (G.2.1 0, 160, .inl (fun _ => 0)), .inl (G.2.1 0, 10, .inl (fun _ => 0)), .inl (G.2.1 0, 10, .inl (fun _ => 0)), .inl (G.2.1 0, 10, .inl (fun _ => 0)), .inl (G.2.1 0, 10, .inl (fun _ => 0))] H1 := hw.push hat ho1
  clear hat ho1 hz
  refine W.widen (k := 7) (n := 1166) (Nat.le_of_ble_eq_true rfl) (Nat.le_of_ble_eq_true rfl) ?_
  refine x_putF (ci := 9) hx hb hts iwX9 tyX9 tyX9_ok nmX9 ho C.K.1 hS (hw.2 0 _ rfl) (hA 0 (by decide)) rfl 10 (by decide) (C.2.2.2.2.1 (.fieldLink RX9 32 RX9 "number" "[I") (tg 926 (by decide +kernel) rfl)) (fun _ h9 => h9) rfl hin rfl (ty := tyX9 10) (by decide +kernel) rfl rfl (Nat.le_of_ble_eq_true rfl) dX9_init_59 (fun H1 locs hat ho1 hS => ?_)
  have hw : LW β G [.inr (9, [.int 0, .ref (β + 1), .ref (β + 2), .int 0, .int 0, .ref (β + 3), .int 0, .ref (β + 4), .ref (β + 5), .ref (β + 6), .ref (β + 7), .null, .null, .int 0, .null, .int 0, .null, .null, .null, .int 0, .int 0, .null, .int 0, .int 0, .int 0, .int 0, .long 0, .int 0, .int 0, .int 0, .int 0, .int 0, .int 0, .int 0, .int 0, .int 0, .null, .null, .null, .null, .null, .int 0, .null, .null, .null, .null, .null, .null, .int 0, .int 0, .int 0, .int 0, .int 0, .null, .null, .null, .null]), .inl (G.2.1 0, 960, .inl (fun _ => 0)), .inl (G.2.1 0, 6, .inl (fun _ => 0)), .inl (G.2.1 0, 160, .inl (fun _ => 0)), .inl (G.2.1 0, 10, .inl (fun _ => 0)), .inl (G.2.1 0, 10, .inl (fun _ => 0)), .inl (G.2.1 0, 10, .inl (fun _ => 0)), .inl (G.2.1 0, 10, .inl (fun _ => 0))] H1 := hw.set 0 (Nat.le_of_ble_eq_true rfl) hat ho1
  clear hat ho1
  refine lv_aload_n hx hb dX9_init_62 rfl (lv_at hl 0 rfl) ?_
  refine lv_bipush (v := 10) hx hb dX9_init_63 (by decide) ?_
  have hz := hw.1
  replace hz : _ = β + 8 := hz
  refine x_newa (G := G) (cl := vwCl) (N := 10) hx hb (hts (.arrayClass .int) (tg 60 (by decide +kernel) rfl)) C.K hS (by decide) rfl (by decide) (Nat.le_of_ble_eq_true rfl) (Nat.le_of_ble_eq_true rfl) dX9_init_65 (fun H1 hat ho1 hS => ?_)
  rw [hz]
  have hw : LW β G [.inr (9, [.int 0, .ref (β + 1), .ref (β + 2), .int 0, .int 0, .ref (β + 3), .int 0, .ref (β + 4), .ref (β + 5), .ref (β + 6), .ref (β + 7), .null, .null, .int 0, .null, .int 0, .null, .null, .null, .int 0, .int 0, .null, .int 0, .int 0, .int 0, .int 0, .long 0, .int 0, .int 0, .int 0, .int 0, .int 0, .int 0, .int 0, .int 0, .int 0, .null, .null, .null, .null, .null, .int 0, .null, .null, .null, .null, .null, .null, .int 0, .int 0, .int 0, .int 0, .int 0, .null, .null, .null, .null]), .inl (G.2.1 0, 960, .inl (fun _ => 0)), .inl (G.2.1 0, 6, .inl (fun _ => 0)), .inl (G.2.1 0, 160, .inl (fun _ => 0)), .inl (G.2.1 0, 10, .inl (fun _ => 0)), .inl (G.2.1 0, 10, .inl (fun _ => 0)), .inl (G.2.1 0, 10, .inl (fun _ => 0)), .inl (G.2.1 0, 10, .inl (fun _ => 0)), .inl (G.2.1 0, 10, .inl (fun _ => 0))] H1 := hw.push hat ho1
  clear hat ho1 hz
  refine W.widen (k := 8) (n := 1176) (Nat.le_of_ble_eq_true rfl) (Nat.le_of_ble_eq_true rfl) ?_
  refine x_putF (ci := 9) hx hb hts iwX9 tyX9 tyX9_ok nmX9 ho C.K.1 hS (hw.2 0 _ rfl) (hA 0 (by decide)) rfl 11 (by decide) (C.2.2.2.2.1 (.fieldLink RX9 35 RX9 "groundOf" "[I") (tg 927 (by decide +kernel) rfl)) (fun _ h9 => h9) rfl hin rfl (ty := tyX9 11) (by decide +kernel) rfl rfl (Nat.le_of_ble_eq_true rfl) dX9_init_67 (fun H1 locs hat ho1 hS => ?_)
  have hw : LW β G [.inr (9, [.int 0, .ref (β + 1), .ref (β + 2), .int 0, .int 0, .ref (β + 3), .int 0, .ref (β + 4), .ref (β + 5), .ref (β + 6), .ref (β + 7), .ref (β + 8), .null, .int 0, .null, .int 0, .null, .null, .null, .int 0, .int 0, .null, .int 0, .int 0, .int 0, .int 0, .long 0, .int 0, .int 0, .int 0, .int 0, .int 0, .int 0, .int 0, .int 0, .int 0, .null, .null, .null, .null, .null, .int 0, .null, .null, .null, .null, .null, .null, .int 0, .int 0, .int 0, .int 0, .int 0, .null, .null, .null, .null]), .inl (G.2.1 0, 960, .inl (fun _ => 0)), .inl (G.2.1 0, 6, .inl (fun _ => 0)), .inl (G.2.1 0, 160, .inl (fun _ => 0)), .inl (G.2.1 0, 10, .inl (fun _ => 0)), .inl (G.2.1 0, 10, .inl (fun _ => 0)), .inl (G.2.1 0, 10, .inl (fun _ => 0)), .inl (G.2.1 0, 10, .inl (fun _ => 0)), .inl (G.2.1 0, 10, .inl (fun _ => 0))] H1 := hw.set 0 (Nat.le_of_ble_eq_true rfl) hat ho1
  clear hat ho1
  refine lv_aload_n hx hb dX9_init_70 rfl (lv_at hl 0 rfl) ?_
  refine lv_bipush (v := 10) hx hb dX9_init_71 (by decide) ?_
  have hz := hw.1
  replace hz : _ = β + 9 := hz
  refine x_newa (G := G) (cl := vwCl) (N := 10) hx hb (hts (.arrayClass .int) (tg 60 (by decide +kernel) rfl)) C.K hS (by decide) rfl (by decide) (Nat.le_of_ble_eq_true rfl) (Nat.le_of_ble_eq_true rfl) dX9_init_73 (fun H1 hat ho1 hS => ?_)
  rw [hz]
  have hw : LW β G [.inr (9, [.int 0, .ref (β + 1), .ref (β + 2), .int 0, .int 0, .ref (β + 3), .int 0, .ref (β + 4), .ref (β + 5), .ref (β + 6), .ref (β + 7), .ref (β + 8), .null, .int 0, .null, .int 0, .null, .null, .null, .int 0, .int 0, .null, .int 0, .int 0, .int 0, .int 0, .long 0, .int 0, .int 0, .int 0, .int 0, .int 0, .int 0, .int 0, .int 0, .int 0, .null, .null, .null, .null, .null, .int 0, .null, .null, .null, .null, .null, .null, .int 0, .int 0, .int 0, .int 0, .int 0, .null, .null, .null, .null]), .inl (G.2.1 0, 960, .inl (fun _ => 0)), .inl (G.2.1 0, 6, .inl (fun _ => 0)), .inl (G.2.1 0, 160, .inl (fun _ => 0)), .inl (G.2.1 0, 10, .inl (fun _ => 0)), .inl (G.2.1 0, 10, .inl (fun _ => 0)), .inl (G.2.1 0, 10, .inl (fun _ => 0)), .inl (G.2.1 0, 10, .inl (fun _ => 0)), .inl (G.2.1 0, 10, .inl (fun _ => 0)), .inl (G.2.1 0, 10, .inl (fun _ => 0))] H1 := hw.push hat ho1
  clear hat ho1 hz
  refine W.widen (k := 9) (n := 1186) (Nat.le_of_ble_eq_true rfl) (Nat.le_of_ble_eq_true rfl) ?_
  refine x_putF (ci := 9) hx hb hts iwX9 tyX9 tyX9_ok nmX9 ho C.K.1 hS (hw.2 0 _ rfl) (hA 0 (by decide)) rfl 12 (by decide) (C.2.2.2.2.1 (.fieldLink RX9 38 RX9 "lead" "[I") (tg 928 (by decide +kernel) rfl)) (fun _ h9 => h9) rfl hin rfl (ty := tyX9 12) (by decide +kernel) rfl rfl (Nat.le_of_ble_eq_true rfl) dX9_init_75 (fun H1 locs hat ho1 hS => ?_)
  have hw : LW β G [.inr (9, [.int 0, .ref (β + 1), .ref (β + 2), .int 0, .int 0, .ref (β + 3), .int 0, .ref (β + 4), .ref (β + 5), .ref (β + 6), .ref (β + 7), .ref (β + 8), .ref (β + 9), .int 0, .null, .int 0, .null, .null, .null, .int 0, .int 0, .null, .int 0, .int 0, .int 0, .int 0, .long 0, .int 0, .int 0, .int 0, .int 0, .int 0, .int 0, .int 0, .int 0, .int 0, .null, .null, .null, .null, .null, .int 0, .null, .null, .null, .null, .null, .null, .int 0, .int 0, .int 0, .int 0, .int 0, .null, .null, .null, .null]), .inl (G.2.1 0, 960, .inl (fun _ => 0)), .inl (G.2.1 0, 6, .inl (fun _ => 0)), .inl (G.2.1 0, 160, .inl (fun _ => 0)), .inl (G.2.1 0, 10, .inl (fun _ => 0)), .inl (G.2.1 0, 10, .inl (fun _ => 0)), .inl (G.2.1 0, 10, .inl (fun _ => 0)), .inl (G.2.1 0, 10, .inl (fun _ => 0)), .inl (G.2.1 0, 10, .inl (fun _ => 0)), .inl (G.2.1 0, 10, .inl (fun _ => 0))] H1 := hw.set 0 (Nat.le_of_ble_eq_true rfl) hat ho1
  clear hat ho1
  refine lv_aload_n hx hb dX9_init_78 rfl (lv_at hl 0 rfl) ?_
  refine lv_iconst (v := 4) hx hb dX9_init_79 (by decide) ?_
  have hz := hw.1
  replace hz : _ = β + 10 := hz
  refine x_newa (G := G) (cl := vwCl) (N := 4) hx hb (hts (.arrayClass .int) (tg 60 (by decide +kernel) rfl)) C.K hS (by decide) rfl (by decide) (Nat.le_of_ble_eq_true rfl) (Nat.le_of_ble_eq_true rfl) dX9_init_80 (fun H1 hat ho1 hS => ?_)
  rw [hz]
  have hw : LW β G [.inr (9, [.int 0, .ref (β + 1), .ref (β + 2), .int 0, .int 0, .ref (β + 3), .int 0, .ref (β + 4), .ref (β + 5), .ref (β + 6), .ref (β + 7), .ref (β + 8), .ref (β + 9), .int 0, .null, .int 0, .null, .null, .null, .int 0, .int 0, .null, .int 0, .int 0, .int 0, .int 0, .long 0, .int 0, .int 0, .int 0, .int 0, .int 0, .int 0, .int 0, .int 0, .int 0, .null, .null, .null, .null, .null, .int 0, .null, .null, .null, .null, .null, .null, .int 0, .int 0, .int 0, .int 0, .int 0, .null, .null, .null, .null]), .inl (G.2.1 0, 960, .inl (fun _ => 0)), .inl (G.2.1 0, 6, .inl (fun _ => 0)), .inl (G.2.1 0, 160, .inl (fun _ => 0)), .inl (G.2.1 0, 10, .inl (fun _ => 0)), .inl (G.2.1 0, 10, .inl (fun _ => 0)), .inl (G.2.1 0, 10, .inl (fun _ => 0)), .inl (G.2.1 0, 10, .inl (fun _ => 0)), .inl (G.2.1 0, 10, .inl (fun _ => 0)), .inl (G.2.1 0, 10, .inl (fun _ => 0)), .inl (G.2.1 0, 4, .inl (fun _ => 0))] H1 := hw.push hat ho1
  clear hat ho1 hz
  refine W.widen (k := 10) (n := 1190) (Nat.le_of_ble_eq_true rfl) (Nat.le_of_ble_eq_true rfl) ?_
  refine x_putF (ci := 9) hx hb hts iwX9 tyX9 tyX9_ok nmX9 ho C.K.1 hS (hw.2 0 _ rfl) (hA 0 (by decide)) rfl 14 (by decide) (C.2.2.2.2.1 (.fieldLink RX9 41 RX9 "pounds" "[I") (tg 930 (by decide +kernel) rfl)) (fun _ h9 => h9) rfl hin rfl (ty := tyX9 14) (by decide +kernel) rfl rfl (Nat.le_of_ble_eq_true rfl) dX9_init_82 (fun H1 locs hat ho1 hS => ?_)
  have hw : LW β G [.inr (9, [.int 0, .ref (β + 1), .ref (β + 2), .int 0, .int 0, .ref (β + 3), .int 0, .ref (β + 4), .ref (β + 5), .ref (β + 6), .ref (β + 7), .ref (β + 8), .ref (β + 9), .int 0, .ref (β + 10), .int 0, .null, .null, .null, .int 0, .int 0, .null, .int 0, .int 0, .int 0, .int 0, .long 0, .int 0, .int 0, .int 0, .int 0, .int 0, .int 0, .int 0, .int 0, .int 0, .null, .null, .null, .null, .null, .int 0, .null, .null, .null, .null, .null, .null, .int 0, .int 0, .int 0, .int 0, .int 0, .null, .null, .null, .null]), .inl (G.2.1 0, 960, .inl (fun _ => 0)), .inl (G.2.1 0, 6, .inl (fun _ => 0)), .inl (G.2.1 0, 160, .inl (fun _ => 0)), .inl (G.2.1 0, 10, .inl (fun _ => 0)), .inl (G.2.1 0, 10, .inl (fun _ => 0)), .inl (G.2.1 0, 10, .inl (fun _ => 0)), .inl (G.2.1 0, 10, .inl (fun _ => 0)), .inl (G.2.1 0, 10, .inl (fun _ => 0)), .inl (G.2.1 0, 10, .inl (fun _ => 0)), .inl (G.2.1 0, 4, .inl (fun _ => 0))] H1 := hw.set 0 (Nat.le_of_ble_eq_true rfl) hat ho1
  clear hat ho1
  refine lv_aload_n hx hb dX9_init_85 rfl (lv_at hl 0 rfl) ?_
  refine lv_bipush (v := 10) hx hb dX9_init_86 (by decide) ?_
  have hz := hw.1
  replace hz : _ = β + 11 := hz
  refine x_newa (G := G) (cl := vwCl) (N := 10) hx hb (hts (.arrayClass .int) (tg 60 (by decide +kernel) rfl)) C.K hS (by decide) rfl (by decide) (Nat.le_of_ble_eq_true rfl) (Nat.le_of_ble_eq_true rfl) dX9_init_88 (fun H1 hat ho1 hS => ?_)
  rw [hz]
  have hw : LW β G [.inr (9, [.int 0, .ref (β + 1), .ref (β + 2), .int 0, .int 0, .ref (β + 3), .int 0, .ref (β + 4), .ref (β + 5), .ref (β + 6), .ref (β + 7), .ref (β + 8), .ref (β + 9), .int 0, .ref (β + 10), .int 0, .null, .null, .null, .int 0, .int 0, .null, .int 0, .int 0, .int 0, .int 0, .long 0, .int 0, .int 0, .int 0, .int 0, .int 0, .int 0, .int 0, .int 0, .int 0, .null, .null, .null, .null, .null, .int 0, .null, .null, .null, .null, .null, .null, .int 0, .int 0, .int 0, .int 0, .int 0, .null, .null, .null, .null]), .inl (G.2.1 0, 960, .inl (fun _ => 0)), .inl (G.2.1 0, 6, .inl (fun _ => 0)), .inl (G.2.1 0, 160, .inl (fun _ => 0)), .inl (G.2.1 0, 10, .inl (fun _ => 0)), .inl (G.2.1 0, 10, .inl (fun _ => 0)), .inl (G.2.1 0, 10, .inl (fun _ => 0)), .inl (G.2.1 0, 10, .inl (fun _ => 0)), .inl (G.2.1 0, 10, .inl (fun _ => 0)), .inl (G.2.1 0, 10, .inl (fun _ => 0)), .inl (G.2.1 0, 4, .inl (fun _ => 0)), .inl (G.2.1 0, 10, .inl (fun _ => 0))] H1 := hw.push hat ho1
  clear hat ho1 hz
  refine W.widen (k := 11) (n := 1200) (Nat.le_of_ble_eq_true rfl) (Nat.le_of_ble_eq_true rfl) ?_
  refine x_putF (ci := 9) hx hb hts iwX9 tyX9 tyX9_ok nmX9 ho C.K.1 hS (hw.2 0 _ rfl) (hA 0 (by decide)) rfl 16 (by decide) (C.2.2.2.2.1 (.fieldLink RX9 44 RX9 "base" "[I") (tg 932 (by decide +kernel) rfl)) (fun _ h9 => h9) rfl hin rfl (ty := tyX9 16) (by decide +kernel) rfl rfl (Nat.le_of_ble_eq_true rfl) dX9_init_90 (fun H1 locs hat ho1 hS => ?_)
  have hw : LW β G [.inr (9, [.int 0, .ref (β + 1), .ref (β + 2), .int 0, .int 0, .ref (β + 3), .int 0, .ref (β + 4), .ref (β + 5), .ref (β + 6), .ref (β + 7), .ref (β + 8), .ref (β + 9), .int 0, .ref (β + 10), .int 0, .ref (β + 11), .null, .null, .int 0, .int 0, .null, .int 0, .int 0, .int 0, .int 0, .long 0, .int 0, .int 0, .int 0, .int 0, .int 0, .int 0, .int 0, .int 0, .int 0, .null, .null, .null, .null, .null, .int 0, .null, .null, .null, .null, .null, .null, .int 0, .int 0, .int 0, .int 0, .int 0, .null, .null, .null, .null]), .inl (G.2.1 0, 960, .inl (fun _ => 0)), .inl (G.2.1 0, 6, .inl (fun _ => 0)), .inl (G.2.1 0, 160, .inl (fun _ => 0)), .inl (G.2.1 0, 10, .inl (fun _ => 0)), .inl (G.2.1 0, 10, .inl (fun _ => 0)), .inl (G.2.1 0, 10, .inl (fun _ => 0)), .inl (G.2.1 0, 10, .inl (fun _ => 0)), .inl (G.2.1 0, 10, .inl (fun _ => 0)), .inl (G.2.1 0, 10, .inl (fun _ => 0)), .inl (G.2.1 0, 4, .inl (fun _ => 0)), .inl (G.2.1 0, 10, .inl (fun _ => 0))] H1 := hw.set 0 (Nat.le_of_ble_eq_true rfl) hat ho1
  clear hat ho1
  refine lv_aload_n hx hb dX9_init_93 rfl (lv_at hl 0 rfl) ?_
  refine lv_bipush (v := 6) hx hb dX9_init_94 (by decide) ?_
  have hz := hw.1
  replace hz : _ = β + 12 := hz
  refine x_newa_long (G := G) (cl := vwCl) (N := 6) hx hb (hts (.arrayClass .long) (tg 1088 (by decide +kernel) rfl)) C.K hS (by decide) rfl (by decide) (Nat.le_of_ble_eq_true rfl) (Nat.le_of_ble_eq_true rfl) dX9_init_96 (fun H1 hat ho1 hS => ?_)
  rw [hz]
  have hw : LW β G [.inr (9, [.int 0, .ref (β + 1), .ref (β + 2), .int 0, .int 0, .ref (β + 3), .int 0, .ref (β + 4), .ref (β + 5), .ref (β + 6), .ref (β + 7), .ref (β + 8), .ref (β + 9), .int 0, .ref (β + 10), .int 0, .ref (β + 11), .null, .null, .int 0, .int 0, .null, .int 0, .int 0, .int 0, .int 0, .long 0, .int 0, .int 0, .int 0, .int 0, .int 0, .int 0, .int 0, .int 0, .int 0, .null, .null, .null, .null, .null, .int 0, .null, .null, .null, .null, .null, .null, .int 0, .int 0, .int 0, .int 0, .int 0, .null, .null, .null, .null]), .inl (G.2.1 0, 960, .inl (fun _ => 0)), .inl (G.2.1 0, 6, .inl (fun _ => 0)), .inl (G.2.1 0, 160, .inl (fun _ => 0)), .inl (G.2.1 0, 10, .inl (fun _ => 0)), .inl (G.2.1 0, 10, .inl (fun _ => 0)), .inl (G.2.1 0, 10, .inl (fun _ => 0)), .inl (G.2.1 0, 10, .inl (fun _ => 0)), .inl (G.2.1 0, 10, .inl (fun _ => 0)), .inl (G.2.1 0, 10, .inl (fun _ => 0)), .inl (G.2.1 0, 4, .inl (fun _ => 0)), .inl (G.2.1 0, 10, .inl (fun _ => 0)), .inl (G.2.1 1, 6, .inr (.inl (fun _ => 0)))] H1 := hw.push hat ho1
  clear hat ho1 hz
  refine W.widen (k := 12) (n := 1206) (Nat.le_of_ble_eq_true rfl) (Nat.le_of_ble_eq_true rfl) ?_
  refine x_putF (ci := 9) hx hb hts iwX9 tyX9 tyX9_ok nmX9 ho C.K.1 hS (hw.2 0 _ rfl) (hA 0 (by decide)) rfl 17 (by decide) (C.2.2.2.2.1 (.fieldLink RX9 47 RX9 "by" "[J") (tg 933 (by decide +kernel) rfl)) (fun _ h9 => h9) rfl hin rfl (ty := tyX9 17) (by decide +kernel) rfl rfl (Nat.le_of_ble_eq_true rfl) dX9_init_98 (fun H1 locs hat ho1 hS => ?_)
  have hw : LW β G [.inr (9, [.int 0, .ref (β + 1), .ref (β + 2), .int 0, .int 0, .ref (β + 3), .int 0, .ref (β + 4), .ref (β + 5), .ref (β + 6), .ref (β + 7), .ref (β + 8), .ref (β + 9), .int 0, .ref (β + 10), .int 0, .ref (β + 11), .ref (β + 12), .null, .int 0, .int 0, .null, .int 0, .int 0, .int 0, .int 0, .long 0, .int 0, .int 0, .int 0, .int 0, .int 0, .int 0, .int 0, .int 0, .int 0, .null, .null, .null, .null, .null, .int 0, .null, .null, .null, .null, .null, .null, .int 0, .int 0, .int 0, .int 0, .int 0, .null, .null, .null, .null]), .inl (G.2.1 0, 960, .inl (fun _ => 0)), .inl (G.2.1 0, 6, .inl (fun _ => 0)), .inl (G.2.1 0, 160, .inl (fun _ => 0)), .inl (G.2.1 0, 10, .inl (fun _ => 0)), .inl (G.2.1 0, 10, .inl (fun _ => 0)), .inl (G.2.1 0, 10, .inl (fun _ => 0)), .inl (G.2.1 0, 10, .inl (fun _ => 0)), .inl (G.2.1 0, 10, .inl (fun _ => 0)), .inl (G.2.1 0, 10, .inl (fun _ => 0)), .inl (G.2.1 0, 4, .inl (fun _ => 0)), .inl (G.2.1 0, 10, .inl (fun _ => 0)), .inl (G.2.1 1, 6, .inr (.inl (fun _ => 0)))] H1 := hw.set 0 (Nat.le_of_ble_eq_true rfl) hat ho1
  clear hat ho1
  refine lv_aload_n hx hb dX9_init_101 rfl (lv_at hl 0 rfl) ?_
  refine lv_iconst (v := 5) hx hb dX9_init_102 (by decide) ?_
  have hz := hw.1
  replace hz : _ = β + 13 := hz
  refine x_newa (G := G) (cl := vwCl) (N := 5) hx hb (hts (.arrayClass .int) (tg 60 (by decide +kernel) rfl)) C.K hS (by decide) rfl (by decide) (Nat.le_of_ble_eq_true rfl) (Nat.le_of_ble_eq_true rfl) dX9_init_103 (fun H1 hat ho1 hS => ?_)
  rw [hz]
  have hw : LW β G [.inr (9, [.int 0, .ref (β + 1), .ref (β + 2), .int 0, .int 0, .ref (β + 3), .int 0, .ref (β + 4), .ref (β + 5), .ref (β + 6), .ref (β + 7), .ref (β + 8), .ref (β + 9), .int 0, .ref (β + 10), .int 0, .ref (β + 11), .ref (β + 12), .null, .int 0, .int 0, .null, .int 0, .int 0, .int 0, .int 0, .long 0, .int 0, .int 0, .int 0, .int 0, .int 0, .int 0, .int 0, .int 0, .int 0, .null, .null, .null, .null, .null, .int 0, .null, .null, .null, .null, .null, .null, .int 0, .int 0, .int 0, .int 0, .int 0, .null, .null, .null, .null]), .inl (G.2.1 0, 960, .inl (fun _ => 0)), .inl (G.2.1 0, 6, .inl (fun _ => 0)), .inl (G.2.1 0, 160, .inl (fun _ => 0)), .inl (G.2.1 0, 10, .inl (fun _ => 0)), .inl (G.2.1 0, 10, .inl (fun _ => 0)), .inl (G.2.1 0, 10, .inl (fun _ => 0)), .inl (G.2.1 0, 10, .inl (fun _ => 0)), .inl (G.2.1 0, 10, .inl (fun _ => 0)), .inl (G.2.1 0, 10, .inl (fun _ => 0)), .inl (G.2.1 0, 4, .inl (fun _ => 0)), .inl (G.2.1 0, 10, .inl (fun _ => 0)), .inl (G.2.1 1, 6, .inr (.inl (fun _ => 0))), .inl (G.2.1 0, 5, .inl (fun _ => 0))] H1 := hw.push hat ho1
  clear hat ho1 hz
  refine W.widen (k := 13) (n := 1211) (Nat.le_of_ble_eq_true rfl) (Nat.le_of_ble_eq_true rfl) ?_
  refine x_putF (ci := 9) hx hb hts iwX9 tyX9 tyX9_ok nmX9 ho C.K.1 hS (hw.2 0 _ rfl) (hA 0 (by decide)) rfl 18 (by decide) (C.2.2.2.2.1 (.fieldLink RX9 51 RX9 "list" "[I") (tg 934 (by decide +kernel) rfl)) (fun _ h9 => h9) rfl hin rfl (ty := tyX9 18) (by decide +kernel) rfl rfl (Nat.le_of_ble_eq_true rfl) dX9_init_105 (fun H1 locs hat ho1 hS => ?_)
  have hw : LW β G [.inr (9, [.int 0, .ref (β + 1), .ref (β + 2), .int 0, .int 0, .ref (β + 3), .int 0, .ref (β + 4), .ref (β + 5), .ref (β + 6), .ref (β + 7), .ref (β + 8), .ref (β + 9), .int 0, .ref (β + 10), .int 0, .ref (β + 11), .ref (β + 12), .ref (β + 13), .int 0, .int 0, .null, .int 0, .int 0, .int 0, .int 0, .long 0, .int 0, .int 0, .int 0, .int 0, .int 0, .int 0, .int 0, .int 0, .int 0, .null, .null, .null, .null, .null, .int 0, .null, .null, .null, .null, .null, .null, .int 0, .int 0, .int 0, .int 0, .int 0, .null, .null, .null, .null]), .inl (G.2.1 0, 960, .inl (fun _ => 0)), .inl (G.2.1 0, 6, .inl (fun _ => 0)), .inl (G.2.1 0, 160, .inl (fun _ => 0)), .inl (G.2.1 0, 10, .inl (fun _ => 0)), .inl (G.2.1 0, 10, .inl (fun _ => 0)), .inl (G.2.1 0, 10, .inl (fun _ => 0)), .inl (G.2.1 0, 10, .inl (fun _ => 0)), .inl (G.2.1 0, 10, .inl (fun _ => 0)), .inl (G.2.1 0, 10, .inl (fun _ => 0)), .inl (G.2.1 0, 4, .inl (fun _ => 0)), .inl (G.2.1 0, 10, .inl (fun _ => 0)), .inl (G.2.1 1, 6, .inr (.inl (fun _ => 0))), .inl (G.2.1 0, 5, .inl (fun _ => 0))] H1 := hw.set 0 (Nat.le_of_ble_eq_true rfl) hat ho1
  clear hat ho1
  refine lv_aload_n hx hb dX9_init_108 rfl (lv_at hl 0 rfl) ?_
  refine lv_bipush (v := 10) hx hb dX9_init_109 (by decide) ?_
  have hz := hw.1
  replace hz : _ = β + 14 := hz
  refine x_newa (G := G) (cl := vwCl) (N := 10) hx hb (hts (.arrayClass .int) (tg 60 (by decide +kernel) rfl)) C.K hS (by decide) rfl (by decide) (Nat.le_of_ble_eq_true rfl) (Nat.le_of_ble_eq_true rfl) dX9_init_111 (fun H1 hat ho1 hS => ?_)
  rw [hz]
  have hw : LW β G [.inr (9, [.int 0, .ref (β + 1), .ref (β + 2), .int 0, .int 0, .ref (β + 3), .int 0, .ref (β + 4), .ref (β + 5), .ref (β + 6), .ref (β + 7), .ref (β + 8), .ref (β + 9), .int 0, .ref (β + 10), .int 0, .ref (β + 11), .ref (β + 12), .ref (β + 13), .int 0, .int 0, .null, .int 0, .int 0, .int 0, .int 0, .long 0, .int 0, .int 0, .int 0, .int 0, .int 0, .int 0, .int 0, .int 0, .int 0, .null, .null, .null, .null, .null, .int 0, .null, .null, .null, .null, .null, .null, .int 0, .int 0, .int 0, .int 0, .int 0, .null, .null, .null, .null]), .inl (G.2.1 0, 960, .inl (fun _ => 0)), .inl (G.2.1 0, 6, .inl (fun _ => 0)), .inl (G.2.1 0, 160, .inl (fun _ => 0)), .inl (G.2.1 0, 10, .inl (fun _ => 0)), .inl (G.2.1 0, 10, .inl (fun _ => 0)), .inl (G.2.1 0, 10, .inl (fun _ => 0)), .inl (G.2.1 0, 10, .inl (fun _ => 0)), .inl (G.2.1 0, 10, .inl (fun _ => 0)), .inl (G.2.1 0, 10, .inl (fun _ => 0)), .inl (G.2.1 0, 4, .inl (fun _ => 0)), .inl (G.2.1 0, 10, .inl (fun _ => 0)), .inl (G.2.1 1, 6, .inr (.inl (fun _ => 0))), .inl (G.2.1 0, 5, .inl (fun _ => 0)), .inl (G.2.1 0, 10, .inl (fun _ => 0))] H1 := hw.push hat ho1
  clear hat ho1 hz
  refine W.widen (k := 14) (n := 1221) (Nat.le_of_ble_eq_true rfl) (Nat.le_of_ble_eq_true rfl) ?_
  refine x_putF (ci := 9) hx hb hts iwX9 tyX9 tyX9_ok nmX9 ho C.K.1 hS (hw.2 0 _ rfl) (hA 0 (by decide)) rfl 21 (by decide) (C.2.2.2.2.1 (.fieldLink RX9 54 RX9 "aside" "[I") (tg 937 (by decide +kernel) rfl)) (fun _ h9 => h9) rfl hin rfl (ty := tyX9 21) (by decide +kernel) rfl rfl (Nat.le_of_ble_eq_true rfl) dX9_init_113 (fun H1 locs hat ho1 hS => ?_)
  have hw : LW β G [.inr (9, [.int 0, .ref (β + 1), .ref (β + 2), .int 0, .int 0, .ref (β + 3), .int 0, .ref (β + 4), .ref (β + 5), .ref (β + 6), .ref (β + 7), .ref (β + 8), .ref (β + 9), .int 0, .ref (β + 10), .int 0, .ref (β + 11), .ref (β + 12), .ref (β + 13), .int 0, .int 0, .ref (β + 14), .int 0, .int 0, .int 0, .int 0, .long 0, .int 0, .int 0, .int 0, .int 0, .int 0, .int 0, .int 0, .int 0, .int 0, .null, .null, .null, .null, .null, .int 0, .null, .null, .null, .null, .null, .null, .int 0, .int 0, .int 0, .int 0, .int 0, .null, .null, .null, .null]), .inl (G.2.1 0, 960, .inl (fun _ => 0)), .inl (G.2.1 0, 6, .inl (fun _ => 0)), .inl (G.2.1 0, 160, .inl (fun _ => 0)), .inl (G.2.1 0, 10, .inl (fun _ => 0)), .inl (G.2.1 0, 10, .inl (fun _ => 0)), .inl (G.2.1 0, 10, .inl (fun _ => 0)), .inl (G.2.1 0, 10, .inl (fun _ => 0)), .inl (G.2.1 0, 10, .inl (fun _ => 0)), .inl (G.2.1 0, 10, .inl (fun _ => 0)), .inl (G.2.1 0, 4, .inl (fun _ => 0)), .inl (G.2.1 0, 10, .inl (fun _ => 0)), .inl (G.2.1 1, 6, .inr (.inl (fun _ => 0))), .inl (G.2.1 0, 5, .inl (fun _ => 0)), .inl (G.2.1 0, 10, .inl (fun _ => 0))] H1 := hw.set 0 (Nat.le_of_ble_eq_true rfl) hat ho1
  clear hat ho1
  refine lv_aload_n hx hb dX9_init_116 rfl (lv_at hl 0 rfl) ?_
  refine lv_bipush (v := 24) hx hb dX9_init_117 (by decide) ?_
  have hz := hw.1
  replace hz : _ = β + 15 := hz
  refine x_newa (G := G) (cl := vwCl) (N := 24) hx hb (hts (.arrayClass .int) (tg 60 (by decide +kernel) rfl)) C.K hS (by decide) rfl (by decide) (Nat.le_of_ble_eq_true rfl) (Nat.le_of_ble_eq_true rfl) dX9_init_119 (fun H1 hat ho1 hS => ?_)
  rw [hz]
  have hw : LW β G [.inr (9, [.int 0, .ref (β + 1), .ref (β + 2), .int 0, .int 0, .ref (β + 3), .int 0, .ref (β + 4), .ref (β + 5), .ref (β + 6), .ref (β + 7), .ref (β + 8), .ref (β + 9), .int 0, .ref (β + 10), .int 0, .ref (β + 11), .ref (β + 12), .ref (β + 13), .int 0, .int 0, .ref (β + 14), .int 0, .int 0, .int 0, .int 0, .long 0, .int 0, .int 0, .int 0, .int 0, .int 0, .int 0, .int 0, .int 0, .int 0, .null, .null, .null, .null, .null, .int 0, .null, .null, .null, .null, .null, .null, .int 0, .int 0, .int 0, .int 0, .int 0, .null, .null, .null, .null]), .inl (G.2.1 0, 960, .inl (fun _ => 0)), .inl (G.2.1 0, 6, .inl (fun _ => 0)), .inl (G.2.1 0, 160, .inl (fun _ => 0)), .inl (G.2.1 0, 10, .inl (fun _ => 0)), .inl (G.2.1 0, 10, .inl (fun _ => 0)), .inl (G.2.1 0, 10, .inl (fun _ => 0)), .inl (G.2.1 0, 10, .inl (fun _ => 0)), .inl (G.2.1 0, 10, .inl (fun _ => 0)), .inl (G.2.1 0, 10, .inl (fun _ => 0)), .inl (G.2.1 0, 4, .inl (fun _ => 0)), .inl (G.2.1 0, 10, .inl (fun _ => 0)), .inl (G.2.1 1, 6, .inr (.inl (fun _ => 0))), .inl (G.2.1 0, 5, .inl (fun _ => 0)), .inl (G.2.1 0, 10, .inl (fun _ => 0)), .inl (G.2.1 0, 24, .inl (fun _ => 0))] H1 := hw.push hat ho1
  clear hat ho1 hz
  refine W.widen (k := 15) (n := 1245) (Nat.le_of_ble_eq_true rfl) (Nat.le_of_ble_eq_true rfl) ?_
  refine x_putF (ci := 9) hx hb hts iwX9 tyX9 tyX9_ok nmX9 ho C.K.1 hS (hw.2 0 _ rfl) (hA 0 (by decide)) rfl 36 (by decide) (C.2.2.2.2.1 (.fieldLink RX9 57 RX9 "raceGround" "[I") (tg 952 (by decide +kernel) rfl)) (fun _ h9 => h9) rfl hin rfl (ty := tyX9 36) (by decide +kernel) rfl rfl (Nat.le_of_ble_eq_true rfl) dX9_init_121 (fun H1 locs hat ho1 hS => ?_)
  have hw : LW β G [.inr (9, [.int 0, .ref (β + 1), .ref (β + 2), .int 0, .int 0, .ref (β + 3), .int 0, .ref (β + 4), .ref (β + 5), .ref (β + 6), .ref (β + 7), .ref (β + 8), .ref (β + 9), .int 0, .ref (β + 10), .int 0, .ref (β + 11), .ref (β + 12), .ref (β + 13), .int 0, .int 0, .ref (β + 14), .int 0, .int 0, .int 0, .int 0, .long 0, .int 0, .int 0, .int 0, .int 0, .int 0, .int 0, .int 0, .int 0, .int 0, .ref (β + 15), .null, .null, .null, .null, .int 0, .null, .null, .null, .null, .null, .null, .int 0, .int 0, .int 0, .int 0, .int 0, .null, .null, .null, .null]), .inl (G.2.1 0, 960, .inl (fun _ => 0)), .inl (G.2.1 0, 6, .inl (fun _ => 0)), .inl (G.2.1 0, 160, .inl (fun _ => 0)), .inl (G.2.1 0, 10, .inl (fun _ => 0)), .inl (G.2.1 0, 10, .inl (fun _ => 0)), .inl (G.2.1 0, 10, .inl (fun _ => 0)), .inl (G.2.1 0, 10, .inl (fun _ => 0)), .inl (G.2.1 0, 10, .inl (fun _ => 0)), .inl (G.2.1 0, 10, .inl (fun _ => 0)), .inl (G.2.1 0, 4, .inl (fun _ => 0)), .inl (G.2.1 0, 10, .inl (fun _ => 0)), .inl (G.2.1 1, 6, .inr (.inl (fun _ => 0))), .inl (G.2.1 0, 5, .inl (fun _ => 0)), .inl (G.2.1 0, 10, .inl (fun _ => 0)), .inl (G.2.1 0, 24, .inl (fun _ => 0))] H1 := hw.set 0 (Nat.le_of_ble_eq_true rfl) hat ho1
  clear hat ho1
  refine lv_aload_n hx hb dX9_init_124 rfl (lv_at hl 0 rfl) ?_
  refine lv_bipush (v := 24) hx hb dX9_init_125 (by decide) ?_
  have hz := hw.1
  replace hz : _ = β + 16 := hz
  refine x_newa (G := G) (cl := vwCl) (N := 24) hx hb (hts (.arrayClass .int) (tg 60 (by decide +kernel) rfl)) C.K hS (by decide) rfl (by decide) (Nat.le_of_ble_eq_true rfl) (Nat.le_of_ble_eq_true rfl) dX9_init_127 (fun H1 hat ho1 hS => ?_)
  rw [hz]
  have hw : LW β G [.inr (9, [.int 0, .ref (β + 1), .ref (β + 2), .int 0, .int 0, .ref (β + 3), .int 0, .ref (β + 4), .ref (β + 5), .ref (β + 6), .ref (β + 7), .ref (β + 8), .ref (β + 9), .int 0, .ref (β + 10), .int 0, .ref (β + 11), .ref (β + 12), .ref (β + 13), .int 0, .int 0, .ref (β + 14), .int 0, .int 0, .int 0, .int 0, .long 0, .int 0, .int 0, .int 0, .int 0, .int 0, .int 0, .int 0, .int 0, .int 0, .ref (β + 15), .null, .null, .null, .null, .int 0, .null, .null, .null, .null, .null, .null, .int 0, .int 0, .int 0, .int 0, .int 0, .null, .null, .null, .null]), .inl (G.2.1 0, 960, .inl (fun _ => 0)), .inl (G.2.1 0, 6, .inl (fun _ => 0)), .inl (G.2.1 0, 160, .inl (fun _ => 0)), .inl (G.2.1 0, 10, .inl (fun _ => 0)), .inl (G.2.1 0, 10, .inl (fun _ => 0)), .inl (G.2.1 0, 10, .inl (fun _ => 0)), .inl (G.2.1 0, 10, .inl (fun _ => 0)), .inl (G.2.1 0, 10, .inl (fun _ => 0)), .inl (G.2.1 0, 10, .inl (fun _ => 0)), .inl (G.2.1 0, 4, .inl (fun _ => 0)), .inl (G.2.1 0, 10, .inl (fun _ => 0)), .inl (G.2.1 1, 6, .inr (.inl (fun _ => 0))), .inl (G.2.1 0, 5, .inl (fun _ => 0)), .inl (G.2.1 0, 10, .inl (fun _ => 0)), .inl (G.2.1 0, 24, .inl (fun _ => 0)), .inl (G.2.1 0, 24, .inl (fun _ => 0))] H1 := hw.push hat ho1
  clear hat ho1 hz
  refine W.widen (k := 16) (n := 1269) (Nat.le_of_ble_eq_true rfl) (Nat.le_of_ble_eq_true rfl) ?_
  refine x_putF (ci := 9) hx hb hts iwX9 tyX9 tyX9_ok nmX9 ho C.K.1 hS (hw.2 0 _ rfl) (hA 0 (by decide)) rfl 37 (by decide) (C.2.2.2.2.1 (.fieldLink RX9 60 RX9 "raceDay" "[I") (tg 953 (by decide +kernel) rfl)) (fun _ h9 => h9) rfl hin rfl (ty := tyX9 37) (by decide +kernel) rfl rfl (Nat.le_of_ble_eq_true rfl) dX9_init_129 (fun H1 locs hat ho1 hS => ?_)
  have hw : LW β G [.inr (9, [.int 0, .ref (β + 1), .ref (β + 2), .int 0, .int 0, .ref (β + 3), .int 0, .ref (β + 4), .ref (β + 5), .ref (β + 6), .ref (β + 7), .ref (β + 8), .ref (β + 9), .int 0, .ref (β + 10), .int 0, .ref (β + 11), .ref (β + 12), .ref (β + 13), .int 0, .int 0, .ref (β + 14), .int 0, .int 0, .int 0, .int 0, .long 0, .int 0, .int 0, .int 0, .int 0, .int 0, .int 0, .int 0, .int 0, .int 0, .ref (β + 15), .ref (β + 16), .null, .null, .null, .int 0, .null, .null, .null, .null, .null, .null, .int 0, .int 0, .int 0, .int 0, .int 0, .null, .null, .null, .null]), .inl (G.2.1 0, 960, .inl (fun _ => 0)), .inl (G.2.1 0, 6, .inl (fun _ => 0)), .inl (G.2.1 0, 160, .inl (fun _ => 0)), .inl (G.2.1 0, 10, .inl (fun _ => 0)), .inl (G.2.1 0, 10, .inl (fun _ => 0)), .inl (G.2.1 0, 10, .inl (fun _ => 0)), .inl (G.2.1 0, 10, .inl (fun _ => 0)), .inl (G.2.1 0, 10, .inl (fun _ => 0)), .inl (G.2.1 0, 10, .inl (fun _ => 0)), .inl (G.2.1 0, 4, .inl (fun _ => 0)), .inl (G.2.1 0, 10, .inl (fun _ => 0)), .inl (G.2.1 1, 6, .inr (.inl (fun _ => 0))), .inl (G.2.1 0, 5, .inl (fun _ => 0)), .inl (G.2.1 0, 10, .inl (fun _ => 0)), .inl (G.2.1 0, 24, .inl (fun _ => 0)), .inl (G.2.1 0, 24, .inl (fun _ => 0))] H1 := hw.set 0 (Nat.le_of_ble_eq_true rfl) hat ho1
  clear hat ho1
  refine lv_aload_n hx hb dX9_init_132 rfl (lv_at hl 0 rfl) ?_
  refine lv_bipush (v := 24) hx hb dX9_init_133 (by decide) ?_
  have hz := hw.1
  replace hz : _ = β + 17 := hz
  refine x_newa (G := G) (cl := vwCl) (N := 24) hx hb (hts (.arrayClass .int) (tg 60 (by decide +kernel) rfl)) C.K hS (by decide) rfl (by decide) (Nat.le_of_ble_eq_true rfl) (Nat.le_of_ble_eq_true rfl) dX9_init_135 (fun H1 hat ho1 hS => ?_)
  rw [hz]
  have hw : LW β G [.inr (9, [.int 0, .ref (β + 1), .ref (β + 2), .int 0, .int 0, .ref (β + 3), .int 0, .ref (β + 4), .ref (β + 5), .ref (β + 6), .ref (β + 7), .ref (β + 8), .ref (β + 9), .int 0, .ref (β + 10), .int 0, .ref (β + 11), .ref (β + 12), .ref (β + 13), .int 0, .int 0, .ref (β + 14), .int 0, .int 0, .int 0, .int 0, .long 0, .int 0, .int 0, .int 0, .int 0, .int 0, .int 0, .int 0, .int 0, .int 0, .ref (β + 15), .ref (β + 16), .null, .null, .null, .int 0, .null, .null, .null, .null, .null, .null, .int 0, .int 0, .int 0, .int 0, .int 0, .null, .null, .null, .null]), .inl (G.2.1 0, 960, .inl (fun _ => 0)), .inl (G.2.1 0, 6, .inl (fun _ => 0)), .inl (G.2.1 0, 160, .inl (fun _ => 0)), .inl (G.2.1 0, 10, .inl (fun _ => 0)), .inl (G.2.1 0, 10, .inl (fun _ => 0)), .inl (G.2.1 0, 10, .inl (fun _ => 0)), .inl (G.2.1 0, 10, .inl (fun _ => 0)), .inl (G.2.1 0, 10, .inl (fun _ => 0)), .inl (G.2.1 0, 10, .inl (fun _ => 0)), .inl (G.2.1 0, 4, .inl (fun _ => 0)), .inl (G.2.1 0, 10, .inl (fun _ => 0)), .inl (G.2.1 1, 6, .inr (.inl (fun _ => 0))), .inl (G.2.1 0, 5, .inl (fun _ => 0)), .inl (G.2.1 0, 10, .inl (fun _ => 0)), .inl (G.2.1 0, 24, .inl (fun _ => 0)), .inl (G.2.1 0, 24, .inl (fun _ => 0)), .inl (G.2.1 0, 24, .inl (fun _ => 0))] H1 := hw.push hat ho1
  clear hat ho1 hz
  refine W.widen (k := 17) (n := 1293) (Nat.le_of_ble_eq_true rfl) (Nat.le_of_ble_eq_true rfl) ?_
  refine x_putF (ci := 9) hx hb hts iwX9 tyX9 tyX9_ok nmX9 ho C.K.1 hS (hw.2 0 _ rfl) (hA 0 (by decide)) rfl 38 (by decide) (C.2.2.2.2.1 (.fieldLink RX9 63 RX9 "ran" "[I") (tg 954 (by decide +kernel) rfl)) (fun _ h9 => h9) rfl hin rfl (ty := tyX9 38) (by decide +kernel) rfl rfl (Nat.le_of_ble_eq_true rfl) dX9_init_137 (fun H1 locs hat ho1 hS => ?_)
  have hw : LW β G [.inr (9, [.int 0, .ref (β + 1), .ref (β + 2), .int 0, .int 0, .ref (β + 3), .int 0, .ref (β + 4), .ref (β + 5), .ref (β + 6), .ref (β + 7), .ref (β + 8), .ref (β + 9), .int 0, .ref (β + 10), .int 0, .ref (β + 11), .ref (β + 12), .ref (β + 13), .int 0, .int 0, .ref (β + 14), .int 0, .int 0, .int 0, .int 0, .long 0, .int 0, .int 0, .int 0, .int 0, .int 0, .int 0, .int 0, .int 0, .int 0, .ref (β + 15), .ref (β + 16), .ref (β + 17), .null, .null, .int 0, .null, .null, .null, .null, .null, .null, .int 0, .int 0, .int 0, .int 0, .int 0, .null, .null, .null, .null]), .inl (G.2.1 0, 960, .inl (fun _ => 0)), .inl (G.2.1 0, 6, .inl (fun _ => 0)), .inl (G.2.1 0, 160, .inl (fun _ => 0)), .inl (G.2.1 0, 10, .inl (fun _ => 0)), .inl (G.2.1 0, 10, .inl (fun _ => 0)), .inl (G.2.1 0, 10, .inl (fun _ => 0)), .inl (G.2.1 0, 10, .inl (fun _ => 0)), .inl (G.2.1 0, 10, .inl (fun _ => 0)), .inl (G.2.1 0, 10, .inl (fun _ => 0)), .inl (G.2.1 0, 4, .inl (fun _ => 0)), .inl (G.2.1 0, 10, .inl (fun _ => 0)), .inl (G.2.1 1, 6, .inr (.inl (fun _ => 0))), .inl (G.2.1 0, 5, .inl (fun _ => 0)), .inl (G.2.1 0, 10, .inl (fun _ => 0)), .inl (G.2.1 0, 24, .inl (fun _ => 0)), .inl (G.2.1 0, 24, .inl (fun _ => 0)), .inl (G.2.1 0, 24, .inl (fun _ => 0))] H1 := hw.set 0 (Nat.le_of_ble_eq_true rfl) hat ho1
  clear hat ho1
  refine lv_aload_n hx hb dX9_init_140 rfl (lv_at hl 0 rfl) ?_
  refine lv_bipush (v := 120) hx hb dX9_init_141 (by decide) ?_
  have hz := hw.1
  replace hz : _ = β + 18 := hz
  refine x_newa (G := G) (cl := vwCl) (N := 120) hx hb (hts (.arrayClass .int) (tg 60 (by decide +kernel) rfl)) C.K hS (by decide) rfl (by decide) (Nat.le_of_ble_eq_true rfl) (Nat.le_of_ble_eq_true rfl) dX9_init_143 (fun H1 hat ho1 hS => ?_)
  rw [hz]
  have hw : LW β G [.inr (9, [.int 0, .ref (β + 1), .ref (β + 2), .int 0, .int 0, .ref (β + 3), .int 0, .ref (β + 4), .ref (β + 5), .ref (β + 6), .ref (β + 7), .ref (β + 8), .ref (β + 9), .int 0, .ref (β + 10), .int 0, .ref (β + 11), .ref (β + 12), .ref (β + 13), .int 0, .int 0, .ref (β + 14), .int 0, .int 0, .int 0, .int 0, .long 0, .int 0, .int 0, .int 0, .int 0, .int 0, .int 0, .int 0, .int 0, .int 0, .ref (β + 15), .ref (β + 16), .ref (β + 17), .null, .null, .int 0, .null, .null, .null, .null, .null, .null, .int 0, .int 0, .int 0, .int 0, .int 0, .null, .null, .null, .null]), .inl (G.2.1 0, 960, .inl (fun _ => 0)), .inl (G.2.1 0, 6, .inl (fun _ => 0)), .inl (G.2.1 0, 160, .inl (fun _ => 0)), .inl (G.2.1 0, 10, .inl (fun _ => 0)), .inl (G.2.1 0, 10, .inl (fun _ => 0)), .inl (G.2.1 0, 10, .inl (fun _ => 0)), .inl (G.2.1 0, 10, .inl (fun _ => 0)), .inl (G.2.1 0, 10, .inl (fun _ => 0)), .inl (G.2.1 0, 10, .inl (fun _ => 0)), .inl (G.2.1 0, 4, .inl (fun _ => 0)), .inl (G.2.1 0, 10, .inl (fun _ => 0)), .inl (G.2.1 1, 6, .inr (.inl (fun _ => 0))), .inl (G.2.1 0, 5, .inl (fun _ => 0)), .inl (G.2.1 0, 10, .inl (fun _ => 0)), .inl (G.2.1 0, 24, .inl (fun _ => 0)), .inl (G.2.1 0, 24, .inl (fun _ => 0)), .inl (G.2.1 0, 24, .inl (fun _ => 0)), .inl (G.2.1 0, 120, .inl (fun _ => 0))] H1 := hw.push hat ho1
  clear hat ho1 hz
  refine W.widen (k := 18) (n := 1413) (Nat.le_of_ble_eq_true rfl) (Nat.le_of_ble_eq_true rfl) ?_
  refine x_putF (ci := 9) hx hb hts iwX9 tyX9 tyX9_ok nmX9 ho C.K.1 hS (hw.2 0 _ rfl) (hA 0 (by decide)) rfl 39 (by decide) (C.2.2.2.2.1 (.fieldLink RX9 66 RX9 "order" "[I") (tg 955 (by decide +kernel) rfl)) (fun _ h9 => h9) rfl hin rfl (ty := tyX9 39) (by decide +kernel) rfl rfl (Nat.le_of_ble_eq_true rfl) dX9_init_145 (fun H1 locs hat ho1 hS => ?_)
  have hw : LW β G [.inr (9, [.int 0, .ref (β + 1), .ref (β + 2), .int 0, .int 0, .ref (β + 3), .int 0, .ref (β + 4), .ref (β + 5), .ref (β + 6), .ref (β + 7), .ref (β + 8), .ref (β + 9), .int 0, .ref (β + 10), .int 0, .ref (β + 11), .ref (β + 12), .ref (β + 13), .int 0, .int 0, .ref (β + 14), .int 0, .int 0, .int 0, .int 0, .long 0, .int 0, .int 0, .int 0, .int 0, .int 0, .int 0, .int 0, .int 0, .int 0, .ref (β + 15), .ref (β + 16), .ref (β + 17), .ref (β + 18), .null, .int 0, .null, .null, .null, .null, .null, .null, .int 0, .int 0, .int 0, .int 0, .int 0, .null, .null, .null, .null]), .inl (G.2.1 0, 960, .inl (fun _ => 0)), .inl (G.2.1 0, 6, .inl (fun _ => 0)), .inl (G.2.1 0, 160, .inl (fun _ => 0)), .inl (G.2.1 0, 10, .inl (fun _ => 0)), .inl (G.2.1 0, 10, .inl (fun _ => 0)), .inl (G.2.1 0, 10, .inl (fun _ => 0)), .inl (G.2.1 0, 10, .inl (fun _ => 0)), .inl (G.2.1 0, 10, .inl (fun _ => 0)), .inl (G.2.1 0, 10, .inl (fun _ => 0)), .inl (G.2.1 0, 4, .inl (fun _ => 0)), .inl (G.2.1 0, 10, .inl (fun _ => 0)), .inl (G.2.1 1, 6, .inr (.inl (fun _ => 0))), .inl (G.2.1 0, 5, .inl (fun _ => 0)), .inl (G.2.1 0, 10, .inl (fun _ => 0)), .inl (G.2.1 0, 24, .inl (fun _ => 0)), .inl (G.2.1 0, 24, .inl (fun _ => 0)), .inl (G.2.1 0, 24, .inl (fun _ => 0)), .inl (G.2.1 0, 120, .inl (fun _ => 0))] H1 := hw.set 0 (Nat.le_of_ble_eq_true rfl) hat ho1
  clear hat ho1
  refine lv_aload_n hx hb dX9_init_148 rfl (lv_at hl 0 rfl) ?_
  refine lv_bipush (v := 120) hx hb dX9_init_149 (by decide) ?_
  have hz := hw.1
  replace hz : _ = β + 19 := hz
  refine x_newa (G := G) (cl := vwCl) (N := 120) hx hb (hts (.arrayClass .int) (tg 60 (by decide +kernel) rfl)) C.K hS (by decide) rfl (by decide) (Nat.le_of_ble_eq_true rfl) (Nat.le_of_ble_eq_true rfl) dX9_init_151 (fun H1 hat ho1 hS => ?_)
  rw [hz]
  have hw : LW β G [.inr (9, [.int 0, .ref (β + 1), .ref (β + 2), .int 0, .int 0, .ref (β + 3), .int 0, .ref (β + 4), .ref (β + 5), .ref (β + 6), .ref (β + 7), .ref (β + 8), .ref (β + 9), .int 0, .ref (β + 10), .int 0, .ref (β + 11), .ref (β + 12), .ref (β + 13), .int 0, .int 0, .ref (β + 14), .int 0, .int 0, .int 0, .int 0, .long 0, .int 0, .int 0, .int 0, .int 0, .int 0, .int 0, .int 0, .int 0, .int 0, .ref (β + 15), .ref (β + 16), .ref (β + 17), .ref (β + 18), .null, .int 0, .null, .null, .null, .null, .null, .null, .int 0, .int 0, .int 0, .int 0, .int 0, .null, .null, .null, .null]), .inl (G.2.1 0, 960, .inl (fun _ => 0)), .inl (G.2.1 0, 6, .inl (fun _ => 0)), .inl (G.2.1 0, 160, .inl (fun _ => 0)), .inl (G.2.1 0, 10, .inl (fun _ => 0)), .inl (G.2.1 0, 10, .inl (fun _ => 0)), .inl (G.2.1 0, 10, .inl (fun _ => 0)), .inl (G.2.1 0, 10, .inl (fun _ => 0)), .inl (G.2.1 0, 10, .inl (fun _ => 0)), .inl (G.2.1 0, 10, .inl (fun _ => 0)), .inl (G.2.1 0, 4, .inl (fun _ => 0)), .inl (G.2.1 0, 10, .inl (fun _ => 0)), .inl (G.2.1 1, 6, .inr (.inl (fun _ => 0))), .inl (G.2.1 0, 5, .inl (fun _ => 0)), .inl (G.2.1 0, 10, .inl (fun _ => 0)), .inl (G.2.1 0, 24, .inl (fun _ => 0)), .inl (G.2.1 0, 24, .inl (fun _ => 0)), .inl (G.2.1 0, 24, .inl (fun _ => 0)), .inl (G.2.1 0, 120, .inl (fun _ => 0)), .inl (G.2.1 0, 120, .inl (fun _ => 0))] H1 := hw.push hat ho1
  clear hat ho1 hz
  refine W.widen (k := 19) (n := 1533) (Nat.le_of_ble_eq_true rfl) (Nat.le_of_ble_eq_true rfl) ?_
  refine x_putF (ci := 9) hx hb hts iwX9 tyX9 tyX9_ok nmX9 ho C.K.1 hS (hw.2 0 _ rfl) (hA 0 (by decide)) rfl 40 (by decide) (C.2.2.2.2.1 (.fieldLink RX9 69 RX9 "leadThen" "[I") (tg 956 (by decide +kernel) rfl)) (fun _ h9 => h9) rfl hin rfl (ty := tyX9 40) (by decide +kernel) rfl rfl (Nat.le_of_ble_eq_true rfl) dX9_init_153 (fun H1 locs hat ho1 hS => ?_)
  have hw : LW β G [.inr (9, [.int 0, .ref (β + 1), .ref (β + 2), .int 0, .int 0, .ref (β + 3), .int 0, .ref (β + 4), .ref (β + 5), .ref (β + 6), .ref (β + 7), .ref (β + 8), .ref (β + 9), .int 0, .ref (β + 10), .int 0, .ref (β + 11), .ref (β + 12), .ref (β + 13), .int 0, .int 0, .ref (β + 14), .int 0, .int 0, .int 0, .int 0, .long 0, .int 0, .int 0, .int 0, .int 0, .int 0, .int 0, .int 0, .int 0, .int 0, .ref (β + 15), .ref (β + 16), .ref (β + 17), .ref (β + 18), .ref (β + 19), .int 0, .null, .null, .null, .null, .null, .null, .int 0, .int 0, .int 0, .int 0, .int 0, .null, .null, .null, .null]), .inl (G.2.1 0, 960, .inl (fun _ => 0)), .inl (G.2.1 0, 6, .inl (fun _ => 0)), .inl (G.2.1 0, 160, .inl (fun _ => 0)), .inl (G.2.1 0, 10, .inl (fun _ => 0)), .inl (G.2.1 0, 10, .inl (fun _ => 0)), .inl (G.2.1 0, 10, .inl (fun _ => 0)), .inl (G.2.1 0, 10, .inl (fun _ => 0)), .inl (G.2.1 0, 10, .inl (fun _ => 0)), .inl (G.2.1 0, 10, .inl (fun _ => 0)), .inl (G.2.1 0, 4, .inl (fun _ => 0)), .inl (G.2.1 0, 10, .inl (fun _ => 0)), .inl (G.2.1 1, 6, .inr (.inl (fun _ => 0))), .inl (G.2.1 0, 5, .inl (fun _ => 0)), .inl (G.2.1 0, 10, .inl (fun _ => 0)), .inl (G.2.1 0, 24, .inl (fun _ => 0)), .inl (G.2.1 0, 24, .inl (fun _ => 0)), .inl (G.2.1 0, 24, .inl (fun _ => 0)), .inl (G.2.1 0, 120, .inl (fun _ => 0)), .inl (G.2.1 0, 120, .inl (fun _ => 0))] H1 := hw.set 0 (Nat.le_of_ble_eq_true rfl) hat ho1
  clear hat ho1
  refine lv_aload_n hx hb dX9_init_156 rfl (lv_at hl 0 rfl) ?_
  refine lv_bipush (v := 10) hx hb dX9_init_157 (by decide) ?_
  have hz := hw.1
  replace hz : _ = β + 20 := hz
  refine x_newa (G := G) (cl := vwCl) (N := 10) hx hb (hts (.arrayClass .int) (tg 60 (by decide +kernel) rfl)) C.K hS (by decide) rfl (by decide) (Nat.le_of_ble_eq_true rfl) (Nat.le_of_ble_eq_true rfl) dX9_init_159 (fun H1 hat ho1 hS => ?_)
  rw [hz]
  have hw : LW β G [.inr (9, [.int 0, .ref (β + 1), .ref (β + 2), .int 0, .int 0, .ref (β + 3), .int 0, .ref (β + 4), .ref (β + 5), .ref (β + 6), .ref (β + 7), .ref (β + 8), .ref (β + 9), .int 0, .ref (β + 10), .int 0, .ref (β + 11), .ref (β + 12), .ref (β + 13), .int 0, .int 0, .ref (β + 14), .int 0, .int 0, .int 0, .int 0, .long 0, .int 0, .int 0, .int 0, .int 0, .int 0, .int 0, .int 0, .int 0, .int 0, .ref (β + 15), .ref (β + 16), .ref (β + 17), .ref (β + 18), .ref (β + 19), .int 0, .null, .null, .null, .null, .null, .null, .int 0, .int 0, .int 0, .int 0, .int 0, .null, .null, .null, .null]), .inl (G.2.1 0, 960, .inl (fun _ => 0)), .inl (G.2.1 0, 6, .inl (fun _ => 0)), .inl (G.2.1 0, 160, .inl (fun _ => 0)), .inl (G.2.1 0, 10, .inl (fun _ => 0)), .inl (G.2.1 0, 10, .inl (fun _ => 0)), .inl (G.2.1 0, 10, .inl (fun _ => 0)), .inl (G.2.1 0, 10, .inl (fun _ => 0)), .inl (G.2.1 0, 10, .inl (fun _ => 0)), .inl (G.2.1 0, 10, .inl (fun _ => 0)), .inl (G.2.1 0, 4, .inl (fun _ => 0)), .inl (G.2.1 0, 10, .inl (fun _ => 0)), .inl (G.2.1 1, 6, .inr (.inl (fun _ => 0))), .inl (G.2.1 0, 5, .inl (fun _ => 0)), .inl (G.2.1 0, 10, .inl (fun _ => 0)), .inl (G.2.1 0, 24, .inl (fun _ => 0)), .inl (G.2.1 0, 24, .inl (fun _ => 0)), .inl (G.2.1 0, 24, .inl (fun _ => 0)), .inl (G.2.1 0, 120, .inl (fun _ => 0)), .inl (G.2.1 0, 120, .inl (fun _ => 0)), .inl (G.2.1 0, 10, .inl (fun _ => 0))] H1 := hw.push hat ho1
  clear hat ho1 hz
  refine W.widen (k := 20) (n := 1543) (Nat.le_of_ble_eq_true rfl) (Nat.le_of_ble_eq_true rfl) ?_
  refine x_putF (ci := 9) hx hb hts iwX9 tyX9 tyX9_ok nmX9 ho C.K.1 hS (hw.2 0 _ rfl) (hA 0 (by decide)) rfl 42 (by decide) (C.2.2.2.2.1 (.fieldLink RX9 72 RX9 "runs" "[I") (tg 958 (by decide +kernel) rfl)) (fun _ h9 => h9) rfl hin rfl (ty := tyX9 42) (by decide +kernel) rfl rfl (Nat.le_of_ble_eq_true rfl) dX9_init_161 (fun H1 locs hat ho1 hS => ?_)
  have hw : LW β G [.inr (9, [.int 0, .ref (β + 1), .ref (β + 2), .int 0, .int 0, .ref (β + 3), .int 0, .ref (β + 4), .ref (β + 5), .ref (β + 6), .ref (β + 7), .ref (β + 8), .ref (β + 9), .int 0, .ref (β + 10), .int 0, .ref (β + 11), .ref (β + 12), .ref (β + 13), .int 0, .int 0, .ref (β + 14), .int 0, .int 0, .int 0, .int 0, .long 0, .int 0, .int 0, .int 0, .int 0, .int 0, .int 0, .int 0, .int 0, .int 0, .ref (β + 15), .ref (β + 16), .ref (β + 17), .ref (β + 18), .ref (β + 19), .int 0, .ref (β + 20), .null, .null, .null, .null, .null, .int 0, .int 0, .int 0, .int 0, .int 0, .null, .null, .null, .null]), .inl (G.2.1 0, 960, .inl (fun _ => 0)), .inl (G.2.1 0, 6, .inl (fun _ => 0)), .inl (G.2.1 0, 160, .inl (fun _ => 0)), .inl (G.2.1 0, 10, .inl (fun _ => 0)), .inl (G.2.1 0, 10, .inl (fun _ => 0)), .inl (G.2.1 0, 10, .inl (fun _ => 0)), .inl (G.2.1 0, 10, .inl (fun _ => 0)), .inl (G.2.1 0, 10, .inl (fun _ => 0)), .inl (G.2.1 0, 10, .inl (fun _ => 0)), .inl (G.2.1 0, 4, .inl (fun _ => 0)), .inl (G.2.1 0, 10, .inl (fun _ => 0)), .inl (G.2.1 1, 6, .inr (.inl (fun _ => 0))), .inl (G.2.1 0, 5, .inl (fun _ => 0)), .inl (G.2.1 0, 10, .inl (fun _ => 0)), .inl (G.2.1 0, 24, .inl (fun _ => 0)), .inl (G.2.1 0, 24, .inl (fun _ => 0)), .inl (G.2.1 0, 24, .inl (fun _ => 0)), .inl (G.2.1 0, 120, .inl (fun _ => 0)), .inl (G.2.1 0, 120, .inl (fun _ => 0)), .inl (G.2.1 0, 10, .inl (fun _ => 0))] H1 := hw.set 0 (Nat.le_of_ble_eq_true rfl) hat ho1
  clear hat ho1
  refine lv_aload_n hx hb dX9_init_164 rfl (lv_at hl 0 rfl) ?_
  refine lv_bipush (v := 10) hx hb dX9_init_165 (by decide) ?_
  have hz := hw.1
  replace hz : _ = β + 21 := hz
  refine x_newa (G := G) (cl := vwCl) (N := 10) hx hb (hts (.arrayClass .int) (tg 60 (by decide +kernel) rfl)) C.K hS (by decide) rfl (by decide) (Nat.le_of_ble_eq_true rfl) (Nat.le_of_ble_eq_true rfl) dX9_init_167 (fun H1 hat ho1 hS => ?_)
  rw [hz]
  have hw : LW β G [.inr (9, [.int 0, .ref (β + 1), .ref (β + 2), .int 0, .int 0, .ref (β + 3), .int 0, .ref (β + 4), .ref (β + 5), .ref (β + 6), .ref (β + 7), .ref (β + 8), .ref (β + 9), .int 0, .ref (β + 10), .int 0, .ref (β + 11), .ref (β + 12), .ref (β + 13), .int 0, .int 0, .ref (β + 14), .int 0, .int 0, .int 0, .int 0, .long 0, .int 0, .int 0, .int 0, .int 0, .int 0, .int 0, .int 0, .int 0, .int 0, .ref (β + 15), .ref (β + 16), .ref (β + 17), .ref (β + 18), .ref (β + 19), .int 0, .ref (β + 20), .null, .null, .null, .null, .null, .int 0, .int 0, .int 0, .int 0, .int 0, .null, .null, .null, .null]), .inl (G.2.1 0, 960, .inl (fun _ => 0)), .inl (G.2.1 0, 6, .inl (fun _ => 0)), .inl (G.2.1 0, 160, .inl (fun _ => 0)), .inl (G.2.1 0, 10, .inl (fun _ => 0)), .inl (G.2.1 0, 10, .inl (fun _ => 0)), .inl (G.2.1 0, 10, .inl (fun _ => 0)), .inl (G.2.1 0, 10, .inl (fun _ => 0)), .inl (G.2.1 0, 10, .inl (fun _ => 0)), .inl (G.2.1 0, 10, .inl (fun _ => 0)), .inl (G.2.1 0, 4, .inl (fun _ => 0)), .inl (G.2.1 0, 10, .inl (fun _ => 0)), .inl (G.2.1 1, 6, .inr (.inl (fun _ => 0))), .inl (G.2.1 0, 5, .inl (fun _ => 0)), .inl (G.2.1 0, 10, .inl (fun _ => 0)), .inl (G.2.1 0, 24, .inl (fun _ => 0)), .inl (G.2.1 0, 24, .inl (fun _ => 0)), .inl (G.2.1 0, 24, .inl (fun _ => 0)), .inl (G.2.1 0, 120, .inl (fun _ => 0)), .inl (G.2.1 0, 120, .inl (fun _ => 0)), .inl (G.2.1 0, 10, .inl (fun _ => 0)), .inl (G.2.1 0, 10, .inl (fun _ => 0))] H1 := hw.push hat ho1
  clear hat ho1 hz
  refine W.widen (k := 21) (n := 1553) (Nat.le_of_ble_eq_true rfl) (Nat.le_of_ble_eq_true rfl) ?_
  refine x_putF (ci := 9) hx hb hts iwX9 tyX9 tyX9_ok nmX9 ho C.K.1 hS (hw.2 0 _ rfl) (hA 0 (by decide)) rfl 43 (by decide) (C.2.2.2.2.1 (.fieldLink RX9 75 RX9 "seasonWon" "[I") (tg 959 (by decide +kernel) rfl)) (fun _ h9 => h9) rfl hin rfl (ty := tyX9 43) (by decide +kernel) rfl rfl (Nat.le_of_ble_eq_true rfl) dX9_init_169 (fun H1 locs hat ho1 hS => ?_)
  have hw : LW β G [.inr (9, [.int 0, .ref (β + 1), .ref (β + 2), .int 0, .int 0, .ref (β + 3), .int 0, .ref (β + 4), .ref (β + 5), .ref (β + 6), .ref (β + 7), .ref (β + 8), .ref (β + 9), .int 0, .ref (β + 10), .int 0, .ref (β + 11), .ref (β + 12), .ref (β + 13), .int 0, .int 0, .ref (β + 14), .int 0, .int 0, .int 0, .int 0, .long 0, .int 0, .int 0, .int 0, .int 0, .int 0, .int 0, .int 0, .int 0, .int 0, .ref (β + 15), .ref (β + 16), .ref (β + 17), .ref (β + 18), .ref (β + 19), .int 0, .ref (β + 20), .ref (β + 21), .null, .null, .null, .null, .int 0, .int 0, .int 0, .int 0, .int 0, .null, .null, .null, .null]), .inl (G.2.1 0, 960, .inl (fun _ => 0)), .inl (G.2.1 0, 6, .inl (fun _ => 0)), .inl (G.2.1 0, 160, .inl (fun _ => 0)), .inl (G.2.1 0, 10, .inl (fun _ => 0)), .inl (G.2.1 0, 10, .inl (fun _ => 0)), .inl (G.2.1 0, 10, .inl (fun _ => 0)), .inl (G.2.1 0, 10, .inl (fun _ => 0)), .inl (G.2.1 0, 10, .inl (fun _ => 0)), .inl (G.2.1 0, 10, .inl (fun _ => 0)), .inl (G.2.1 0, 4, .inl (fun _ => 0)), .inl (G.2.1 0, 10, .inl (fun _ => 0)), .inl (G.2.1 1, 6, .inr (.inl (fun _ => 0))), .inl (G.2.1 0, 5, .inl (fun _ => 0)), .inl (G.2.1 0, 10, .inl (fun _ => 0)), .inl (G.2.1 0, 24, .inl (fun _ => 0)), .inl (G.2.1 0, 24, .inl (fun _ => 0)), .inl (G.2.1 0, 24, .inl (fun _ => 0)), .inl (G.2.1 0, 120, .inl (fun _ => 0)), .inl (G.2.1 0, 120, .inl (fun _ => 0)), .inl (G.2.1 0, 10, .inl (fun _ => 0)), .inl (G.2.1 0, 10, .inl (fun _ => 0))] H1 := hw.set 0 (Nat.le_of_ble_eq_true rfl) hat ho1
  clear hat ho1
  refine lv_aload_n hx hb dX9_init_172 rfl (lv_at hl 0 rfl) ?_
  refine lv_bipush (v := 10) hx hb dX9_init_173 (by decide) ?_
  have hz := hw.1
  replace hz : _ = β + 22 := hz
  refine x_newa (G := G) (cl := vwCl) (N := 10) hx hb (hts (.arrayClass .int) (tg 60 (by decide +kernel) rfl)) C.K hS (by decide) rfl (by decide) (Nat.le_of_ble_eq_true rfl) (Nat.le_of_ble_eq_true rfl) dX9_init_175 (fun H1 hat ho1 hS => ?_)
  rw [hz]
  have hw : LW β G [.inr (9, [.int 0, .ref (β + 1), .ref (β + 2), .int 0, .int 0, .ref (β + 3), .int 0, .ref (β + 4), .ref (β + 5), .ref (β + 6), .ref (β + 7), .ref (β + 8), .ref (β + 9), .int 0, .ref (β + 10), .int 0, .ref (β + 11), .ref (β + 12), .ref (β + 13), .int 0, .int 0, .ref (β + 14), .int 0, .int 0, .int 0, .int 0, .long 0, .int 0, .int 0, .int 0, .int 0, .int 0, .int 0, .int 0, .int 0, .int 0, .ref (β + 15), .ref (β + 16), .ref (β + 17), .ref (β + 18), .ref (β + 19), .int 0, .ref (β + 20), .ref (β + 21), .null, .null, .null, .null, .int 0, .int 0, .int 0, .int 0, .int 0, .null, .null, .null, .null]), .inl (G.2.1 0, 960, .inl (fun _ => 0)), .inl (G.2.1 0, 6, .inl (fun _ => 0)), .inl (G.2.1 0, 160, .inl (fun _ => 0)), .inl (G.2.1 0, 10, .inl (fun _ => 0)), .inl (G.2.1 0, 10, .inl (fun _ => 0)), .inl (G.2.1 0, 10, .inl (fun _ => 0)), .inl (G.2.1 0, 10, .inl (fun _ => 0)), .inl (G.2.1 0, 10, .inl (fun _ => 0)), .inl (G.2.1 0, 10, .inl (fun _ => 0)), .inl (G.2.1 0, 4, .inl (fun _ => 0)), .inl (G.2.1 0, 10, .inl (fun _ => 0)), .inl (G.2.1 1, 6, .inr (.inl (fun _ => 0))), .inl (G.2.1 0, 5, .inl (fun _ => 0)), .inl (G.2.1 0, 10, .inl (fun _ => 0)), .inl (G.2.1 0, 24, .inl (fun _ => 0)), .inl (G.2.1 0, 24, .inl (fun _ => 0)), .inl (G.2.1 0, 24, .inl (fun _ => 0)), .inl (G.2.1 0, 120, .inl (fun _ => 0)), .inl (G.2.1 0, 120, .inl (fun _ => 0)), .inl (G.2.1 0, 10, .inl (fun _ => 0)), .inl (G.2.1 0, 10, .inl (fun _ => 0)), .inl (G.2.1 0, 10, .inl (fun _ => 0))] H1 := hw.push hat ho1
  clear hat ho1 hz
  refine W.widen (k := 22) (n := 1563) (Nat.le_of_ble_eq_true rfl) (Nat.le_of_ble_eq_true rfl) ?_
  refine x_putF (ci := 9) hx hb hts iwX9 tyX9 tyX9_ok nmX9 ho C.K.1 hS (hw.2 0 _ rfl) (hA 0 (by decide)) rfl 44 (by decide) (C.2.2.2.2.1 (.fieldLink RX9 78 RX9 "imageStrength" "[I") (tg 960 (by decide +kernel) rfl)) (fun _ h9 => h9) rfl hin rfl (ty := tyX9 44) (by decide +kernel) rfl rfl (Nat.le_of_ble_eq_true rfl) dX9_init_177 (fun H1 locs hat ho1 hS => ?_)
  have hw : LW β G [.inr (9, [.int 0, .ref (β + 1), .ref (β + 2), .int 0, .int 0, .ref (β + 3), .int 0, .ref (β + 4), .ref (β + 5), .ref (β + 6), .ref (β + 7), .ref (β + 8), .ref (β + 9), .int 0, .ref (β + 10), .int 0, .ref (β + 11), .ref (β + 12), .ref (β + 13), .int 0, .int 0, .ref (β + 14), .int 0, .int 0, .int 0, .int 0, .long 0, .int 0, .int 0, .int 0, .int 0, .int 0, .int 0, .int 0, .int 0, .int 0, .ref (β + 15), .ref (β + 16), .ref (β + 17), .ref (β + 18), .ref (β + 19), .int 0, .ref (β + 20), .ref (β + 21), .ref (β + 22), .null, .null, .null, .int 0, .int 0, .int 0, .int 0, .int 0, .null, .null, .null, .null]), .inl (G.2.1 0, 960, .inl (fun _ => 0)), .inl (G.2.1 0, 6, .inl (fun _ => 0)), .inl (G.2.1 0, 160, .inl (fun _ => 0)), .inl (G.2.1 0, 10, .inl (fun _ => 0)), .inl (G.2.1 0, 10, .inl (fun _ => 0)), .inl (G.2.1 0, 10, .inl (fun _ => 0)), .inl (G.2.1 0, 10, .inl (fun _ => 0)), .inl (G.2.1 0, 10, .inl (fun _ => 0)), .inl (G.2.1 0, 10, .inl (fun _ => 0)), .inl (G.2.1 0, 4, .inl (fun _ => 0)), .inl (G.2.1 0, 10, .inl (fun _ => 0)), .inl (G.2.1 1, 6, .inr (.inl (fun _ => 0))), .inl (G.2.1 0, 5, .inl (fun _ => 0)), .inl (G.2.1 0, 10, .inl (fun _ => 0)), .inl (G.2.1 0, 24, .inl (fun _ => 0)), .inl (G.2.1 0, 24, .inl (fun _ => 0)), .inl (G.2.1 0, 24, .inl (fun _ => 0)), .inl (G.2.1 0, 120, .inl (fun _ => 0)), .inl (G.2.1 0, 120, .inl (fun _ => 0)), .inl (G.2.1 0, 10, .inl (fun _ => 0)), .inl (G.2.1 0, 10, .inl (fun _ => 0)), .inl (G.2.1 0, 10, .inl (fun _ => 0))] H1 := hw.set 0 (Nat.le_of_ble_eq_true rfl) hat ho1
  clear hat ho1
  refine lv_aload_n hx hb dX9_init_180 rfl (lv_at hl 0 rfl) ?_
  refine lv_bipush (v := 10) hx hb dX9_init_181 (by decide) ?_
  have hz := hw.1
  replace hz : _ = β + 23 := hz
  refine x_newa (G := G) (cl := vwCl) (N := 10) hx hb (hts (.arrayClass .int) (tg 60 (by decide +kernel) rfl)) C.K hS (by decide) rfl (by decide) (Nat.le_of_ble_eq_true rfl) (Nat.le_of_ble_eq_true rfl) dX9_init_183 (fun H1 hat ho1 hS => ?_)
  rw [hz]
  have hw : LW β G [.inr (9, [.int 0, .ref (β + 1), .ref (β + 2), .int 0, .int 0, .ref (β + 3), .int 0, .ref (β + 4), .ref (β + 5), .ref (β + 6), .ref (β + 7), .ref (β + 8), .ref (β + 9), .int 0, .ref (β + 10), .int 0, .ref (β + 11), .ref (β + 12), .ref (β + 13), .int 0, .int 0, .ref (β + 14), .int 0, .int 0, .int 0, .int 0, .long 0, .int 0, .int 0, .int 0, .int 0, .int 0, .int 0, .int 0, .int 0, .int 0, .ref (β + 15), .ref (β + 16), .ref (β + 17), .ref (β + 18), .ref (β + 19), .int 0, .ref (β + 20), .ref (β + 21), .ref (β + 22), .null, .null, .null, .int 0, .int 0, .int 0, .int 0, .int 0, .null, .null, .null, .null]), .inl (G.2.1 0, 960, .inl (fun _ => 0)), .inl (G.2.1 0, 6, .inl (fun _ => 0)), .inl (G.2.1 0, 160, .inl (fun _ => 0)), .inl (G.2.1 0, 10, .inl (fun _ => 0)), .inl (G.2.1 0, 10, .inl (fun _ => 0)), .inl (G.2.1 0, 10, .inl (fun _ => 0)), .inl (G.2.1 0, 10, .inl (fun _ => 0)), .inl (G.2.1 0, 10, .inl (fun _ => 0)), .inl (G.2.1 0, 10, .inl (fun _ => 0)), .inl (G.2.1 0, 4, .inl (fun _ => 0)), .inl (G.2.1 0, 10, .inl (fun _ => 0)), .inl (G.2.1 1, 6, .inr (.inl (fun _ => 0))), .inl (G.2.1 0, 5, .inl (fun _ => 0)), .inl (G.2.1 0, 10, .inl (fun _ => 0)), .inl (G.2.1 0, 24, .inl (fun _ => 0)), .inl (G.2.1 0, 24, .inl (fun _ => 0)), .inl (G.2.1 0, 24, .inl (fun _ => 0)), .inl (G.2.1 0, 120, .inl (fun _ => 0)), .inl (G.2.1 0, 120, .inl (fun _ => 0)), .inl (G.2.1 0, 10, .inl (fun _ => 0)), .inl (G.2.1 0, 10, .inl (fun _ => 0)), .inl (G.2.1 0, 10, .inl (fun _ => 0)), .inl (G.2.1 0, 10, .inl (fun _ => 0))] H1 := hw.push hat ho1
  clear hat ho1 hz
  refine W.widen (k := 23) (n := 1573) (Nat.le_of_ble_eq_true rfl) (Nat.le_of_ble_eq_true rfl) ?_
  refine x_putF (ci := 9) hx hb hts iwX9 tyX9 tyX9_ok nmX9 ho C.K.1 hS (hw.2 0 _ rfl) (hA 0 (by decide)) rfl 45 (by decide) (C.2.2.2.2.1 (.fieldLink RX9 81 RX9 "imageAge" "[I") (tg 961 (by decide +kernel) rfl)) (fun _ h9 => h9) rfl hin rfl (ty := tyX9 45) (by decide +kernel) rfl rfl (Nat.le_of_ble_eq_true rfl) dX9_init_185 (fun H1 locs hat ho1 hS => ?_)
  have hw : LW β G [.inr (9, [.int 0, .ref (β + 1), .ref (β + 2), .int 0, .int 0, .ref (β + 3), .int 0, .ref (β + 4), .ref (β + 5), .ref (β + 6), .ref (β + 7), .ref (β + 8), .ref (β + 9), .int 0, .ref (β + 10), .int 0, .ref (β + 11), .ref (β + 12), .ref (β + 13), .int 0, .int 0, .ref (β + 14), .int 0, .int 0, .int 0, .int 0, .long 0, .int 0, .int 0, .int 0, .int 0, .int 0, .int 0, .int 0, .int 0, .int 0, .ref (β + 15), .ref (β + 16), .ref (β + 17), .ref (β + 18), .ref (β + 19), .int 0, .ref (β + 20), .ref (β + 21), .ref (β + 22), .ref (β + 23), .null, .null, .int 0, .int 0, .int 0, .int 0, .int 0, .null, .null, .null, .null]), .inl (G.2.1 0, 960, .inl (fun _ => 0)), .inl (G.2.1 0, 6, .inl (fun _ => 0)), .inl (G.2.1 0, 160, .inl (fun _ => 0)), .inl (G.2.1 0, 10, .inl (fun _ => 0)), .inl (G.2.1 0, 10, .inl (fun _ => 0)), .inl (G.2.1 0, 10, .inl (fun _ => 0)), .inl (G.2.1 0, 10, .inl (fun _ => 0)), .inl (G.2.1 0, 10, .inl (fun _ => 0)), .inl (G.2.1 0, 10, .inl (fun _ => 0)), .inl (G.2.1 0, 4, .inl (fun _ => 0)), .inl (G.2.1 0, 10, .inl (fun _ => 0)), .inl (G.2.1 1, 6, .inr (.inl (fun _ => 0))), .inl (G.2.1 0, 5, .inl (fun _ => 0)), .inl (G.2.1 0, 10, .inl (fun _ => 0)), .inl (G.2.1 0, 24, .inl (fun _ => 0)), .inl (G.2.1 0, 24, .inl (fun _ => 0)), .inl (G.2.1 0, 24, .inl (fun _ => 0)), .inl (G.2.1 0, 120, .inl (fun _ => 0)), .inl (G.2.1 0, 120, .inl (fun _ => 0)), .inl (G.2.1 0, 10, .inl (fun _ => 0)), .inl (G.2.1 0, 10, .inl (fun _ => 0)), .inl (G.2.1 0, 10, .inl (fun _ => 0)), .inl (G.2.1 0, 10, .inl (fun _ => 0))] H1 := hw.set 0 (Nat.le_of_ble_eq_true rfl) hat ho1
  clear hat ho1
  refine lv_aload_n hx hb dX9_init_188 rfl (lv_at hl 0 rfl) ?_
  refine lv_bipush (v := 10) hx hb dX9_init_189 (by decide) ?_
  have hz := hw.1
  replace hz : _ = β + 24 := hz
  refine x_newa (G := G) (cl := vwCl) (N := 10) hx hb (hts (.arrayClass .int) (tg 60 (by decide +kernel) rfl)) C.K hS (by decide) rfl (by decide) (Nat.le_of_ble_eq_true rfl) (Nat.le_of_ble_eq_true rfl) dX9_init_191 (fun H1 hat ho1 hS => ?_)
  rw [hz]
  have hw : LW β G [.inr (9, [.int 0, .ref (β + 1), .ref (β + 2), .int 0, .int 0, .ref (β + 3), .int 0, .ref (β + 4), .ref (β + 5), .ref (β + 6), .ref (β + 7), .ref (β + 8), .ref (β + 9), .int 0, .ref (β + 10), .int 0, .ref (β + 11), .ref (β + 12), .ref (β + 13), .int 0, .int 0, .ref (β + 14), .int 0, .int 0, .int 0, .int 0, .long 0, .int 0, .int 0, .int 0, .int 0, .int 0, .int 0, .int 0, .int 0, .int 0, .ref (β + 15), .ref (β + 16), .ref (β + 17), .ref (β + 18), .ref (β + 19), .int 0, .ref (β + 20), .ref (β + 21), .ref (β + 22), .ref (β + 23), .null, .null, .int 0, .int 0, .int 0, .int 0, .int 0, .null, .null, .null, .null]), .inl (G.2.1 0, 960, .inl (fun _ => 0)), .inl (G.2.1 0, 6, .inl (fun _ => 0)), .inl (G.2.1 0, 160, .inl (fun _ => 0)), .inl (G.2.1 0, 10, .inl (fun _ => 0)), .inl (G.2.1 0, 10, .inl (fun _ => 0)), .inl (G.2.1 0, 10, .inl (fun _ => 0)), .inl (G.2.1 0, 10, .inl (fun _ => 0)), .inl (G.2.1 0, 10, .inl (fun _ => 0)), .inl (G.2.1 0, 10, .inl (fun _ => 0)), .inl (G.2.1 0, 4, .inl (fun _ => 0)), .inl (G.2.1 0, 10, .inl (fun _ => 0)), .inl (G.2.1 1, 6, .inr (.inl (fun _ => 0))), .inl (G.2.1 0, 5, .inl (fun _ => 0)), .inl (G.2.1 0, 10, .inl (fun _ => 0)), .inl (G.2.1 0, 24, .inl (fun _ => 0)), .inl (G.2.1 0, 24, .inl (fun _ => 0)), .inl (G.2.1 0, 24, .inl (fun _ => 0)), .inl (G.2.1 0, 120, .inl (fun _ => 0)), .inl (G.2.1 0, 120, .inl (fun _ => 0)), .inl (G.2.1 0, 10, .inl (fun _ => 0)), .inl (G.2.1 0, 10, .inl (fun _ => 0)), .inl (G.2.1 0, 10, .inl (fun _ => 0)), .inl (G.2.1 0, 10, .inl (fun _ => 0)), .inl (G.2.1 0, 10, .inl (fun _ => 0))] H1 := hw.push hat ho1
  clear hat ho1 hz
  refine W.widen (k := 24) (n := 1583) (Nat.le_of_ble_eq_true rfl) (Nat.le_of_ble_eq_true rfl) ?_
  refine x_putF (ci := 9) hx hb hts iwX9 tyX9 tyX9_ok nmX9 ho C.K.1 hS (hw.2 0 _ rfl) (hA 0 (by decide)) rfl 46 (by decide) (C.2.2.2.2.1 (.fieldLink RX9 84 RX9 "imageLead" "[I") (tg 962 (by decide +kernel) rfl)) (fun _ h9 => h9) rfl hin rfl (ty := tyX9 46) (by decide +kernel) rfl rfl (Nat.le_of_ble_eq_true rfl) dX9_init_193 (fun H1 locs hat ho1 hS => ?_)
  have hw : LW β G [.inr (9, [.int 0, .ref (β + 1), .ref (β + 2), .int 0, .int 0, .ref (β + 3), .int 0, .ref (β + 4), .ref (β + 5), .ref (β + 6), .ref (β + 7), .ref (β + 8), .ref (β + 9), .int 0, .ref (β + 10), .int 0, .ref (β + 11), .ref (β + 12), .ref (β + 13), .int 0, .int 0, .ref (β + 14), .int 0, .int 0, .int 0, .int 0, .long 0, .int 0, .int 0, .int 0, .int 0, .int 0, .int 0, .int 0, .int 0, .int 0, .ref (β + 15), .ref (β + 16), .ref (β + 17), .ref (β + 18), .ref (β + 19), .int 0, .ref (β + 20), .ref (β + 21), .ref (β + 22), .ref (β + 23), .ref (β + 24), .null, .int 0, .int 0, .int 0, .int 0, .int 0, .null, .null, .null, .null]), .inl (G.2.1 0, 960, .inl (fun _ => 0)), .inl (G.2.1 0, 6, .inl (fun _ => 0)), .inl (G.2.1 0, 160, .inl (fun _ => 0)), .inl (G.2.1 0, 10, .inl (fun _ => 0)), .inl (G.2.1 0, 10, .inl (fun _ => 0)), .inl (G.2.1 0, 10, .inl (fun _ => 0)), .inl (G.2.1 0, 10, .inl (fun _ => 0)), .inl (G.2.1 0, 10, .inl (fun _ => 0)), .inl (G.2.1 0, 10, .inl (fun _ => 0)), .inl (G.2.1 0, 4, .inl (fun _ => 0)), .inl (G.2.1 0, 10, .inl (fun _ => 0)), .inl (G.2.1 1, 6, .inr (.inl (fun _ => 0))), .inl (G.2.1 0, 5, .inl (fun _ => 0)), .inl (G.2.1 0, 10, .inl (fun _ => 0)), .inl (G.2.1 0, 24, .inl (fun _ => 0)), .inl (G.2.1 0, 24, .inl (fun _ => 0)), .inl (G.2.1 0, 24, .inl (fun _ => 0)), .inl (G.2.1 0, 120, .inl (fun _ => 0)), .inl (G.2.1 0, 120, .inl (fun _ => 0)), .inl (G.2.1 0, 10, .inl (fun _ => 0)), .inl (G.2.1 0, 10, .inl (fun _ => 0)), .inl (G.2.1 0, 10, .inl (fun _ => 0)), .inl (G.2.1 0, 10, .inl (fun _ => 0)), .inl (G.2.1 0, 10, .inl (fun _ => 0))] H1 := hw.set 0 (Nat.le_of_ble_eq_true rfl) hat ho1
  clear hat ho1
  refine lv_aload_n hx hb dX9_init_196 rfl (lv_at hl 0 rfl) ?_
  refine lv_iconst (v := 4) hx hb dX9_init_197 (by decide) ?_
  have hz := hw.1
  replace hz : _ = β + 25 := hz
  refine x_newa (G := G) (cl := vwCl) (N := 4) hx hb (hts (.arrayClass .int) (tg 60 (by decide +kernel) rfl)) C.K hS (by decide) rfl (by decide) (Nat.le_of_ble_eq_true rfl) (Nat.le_of_ble_eq_true rfl) dX9_init_198 (fun H1 hat ho1 hS => ?_)
  rw [hz]
  have hw : LW β G [.inr (9, [.int 0, .ref (β + 1), .ref (β + 2), .int 0, .int 0, .ref (β + 3), .int 0, .ref (β + 4), .ref (β + 5), .ref (β + 6), .ref (β + 7), .ref (β + 8), .ref (β + 9), .int 0, .ref (β + 10), .int 0, .ref (β + 11), .ref (β + 12), .ref (β + 13), .int 0, .int 0, .ref (β + 14), .int 0, .int 0, .int 0, .int 0, .long 0, .int 0, .int 0, .int 0, .int 0, .int 0, .int 0, .int 0, .int 0, .int 0, .ref (β + 15), .ref (β + 16), .ref (β + 17), .ref (β + 18), .ref (β + 19), .int 0, .ref (β + 20), .ref (β + 21), .ref (β + 22), .ref (β + 23), .ref (β + 24), .null, .int 0, .int 0, .int 0, .int 0, .int 0, .null, .null, .null, .null]), .inl (G.2.1 0, 960, .inl (fun _ => 0)), .inl (G.2.1 0, 6, .inl (fun _ => 0)), .inl (G.2.1 0, 160, .inl (fun _ => 0)), .inl (G.2.1 0, 10, .inl (fun _ => 0)), .inl (G.2.1 0, 10, .inl (fun _ => 0)), .inl (G.2.1 0, 10, .inl (fun _ => 0)), .inl (G.2.1 0, 10, .inl (fun _ => 0)), .inl (G.2.1 0, 10, .inl (fun _ => 0)), .inl (G.2.1 0, 10, .inl (fun _ => 0)), .inl (G.2.1 0, 4, .inl (fun _ => 0)), .inl (G.2.1 0, 10, .inl (fun _ => 0)), .inl (G.2.1 1, 6, .inr (.inl (fun _ => 0))), .inl (G.2.1 0, 5, .inl (fun _ => 0)), .inl (G.2.1 0, 10, .inl (fun _ => 0)), .inl (G.2.1 0, 24, .inl (fun _ => 0)), .inl (G.2.1 0, 24, .inl (fun _ => 0)), .inl (G.2.1 0, 24, .inl (fun _ => 0)), .inl (G.2.1 0, 120, .inl (fun _ => 0)), .inl (G.2.1 0, 120, .inl (fun _ => 0)), .inl (G.2.1 0, 10, .inl (fun _ => 0)), .inl (G.2.1 0, 10, .inl (fun _ => 0)), .inl (G.2.1 0, 10, .inl (fun _ => 0)), .inl (G.2.1 0, 10, .inl (fun _ => 0)), .inl (G.2.1 0, 10, .inl (fun _ => 0)), .inl (G.2.1 0, 4, .inl (fun _ => 0))] H1 := hw.push hat ho1
  clear hat ho1 hz
  refine W.widen (k := 25) (n := 1587) (Nat.le_of_ble_eq_true rfl) (Nat.le_of_ble_eq_true rfl) ?_
  refine x_putF (ci := 9) hx hb hts iwX9 tyX9 tyX9_ok nmX9 ho C.K.1 hS (hw.2 0 _ rfl) (hA 0 (by decide)) rfl 47 (by decide) (C.2.2.2.2.1 (.fieldLink RX9 87 RX9 "imagePounds" "[I") (tg 963 (by decide +kernel) rfl)) (fun _ h9 => h9) rfl hin rfl (ty := tyX9 47) (by decide +kernel) rfl rfl (Nat.le_of_ble_eq_true rfl) dX9_init_200 (fun H1 locs hat ho1 hS => ?_)
  have hw : LW β G [.inr (9, [.int 0, .ref (β + 1), .ref (β + 2), .int 0, .int 0, .ref (β + 3), .int 0, .ref (β + 4), .ref (β + 5), .ref (β + 6), .ref (β + 7), .ref (β + 8), .ref (β + 9), .int 0, .ref (β + 10), .int 0, .ref (β + 11), .ref (β + 12), .ref (β + 13), .int 0, .int 0, .ref (β + 14), .int 0, .int 0, .int 0, .int 0, .long 0, .int 0, .int 0, .int 0, .int 0, .int 0, .int 0, .int 0, .int 0, .int 0, .ref (β + 15), .ref (β + 16), .ref (β + 17), .ref (β + 18), .ref (β + 19), .int 0, .ref (β + 20), .ref (β + 21), .ref (β + 22), .ref (β + 23), .ref (β + 24), .ref (β + 25), .int 0, .int 0, .int 0, .int 0, .int 0, .null, .null, .null, .null]), .inl (G.2.1 0, 960, .inl (fun _ => 0)), .inl (G.2.1 0, 6, .inl (fun _ => 0)), .inl (G.2.1 0, 160, .inl (fun _ => 0)), .inl (G.2.1 0, 10, .inl (fun _ => 0)), .inl (G.2.1 0, 10, .inl (fun _ => 0)), .inl (G.2.1 0, 10, .inl (fun _ => 0)), .inl (G.2.1 0, 10, .inl (fun _ => 0)), .inl (G.2.1 0, 10, .inl (fun _ => 0)), .inl (G.2.1 0, 10, .inl (fun _ => 0)), .inl (G.2.1 0, 4, .inl (fun _ => 0)), .inl (G.2.1 0, 10, .inl (fun _ => 0)), .inl (G.2.1 1, 6, .inr (.inl (fun _ => 0))), .inl (G.2.1 0, 5, .inl (fun _ => 0)), .inl (G.2.1 0, 10, .inl (fun _ => 0)), .inl (G.2.1 0, 24, .inl (fun _ => 0)), .inl (G.2.1 0, 24, .inl (fun _ => 0)), .inl (G.2.1 0, 24, .inl (fun _ => 0)), .inl (G.2.1 0, 120, .inl (fun _ => 0)), .inl (G.2.1 0, 120, .inl (fun _ => 0)), .inl (G.2.1 0, 10, .inl (fun _ => 0)), .inl (G.2.1 0, 10, .inl (fun _ => 0)), .inl (G.2.1 0, 10, .inl (fun _ => 0)), .inl (G.2.1 0, 10, .inl (fun _ => 0)), .inl (G.2.1 0, 10, .inl (fun _ => 0)), .inl (G.2.1 0, 4, .inl (fun _ => 0))] H1 := hw.set 0 (Nat.le_of_ble_eq_true rfl) hat ho1
  clear hat ho1
  refine lv_aload_n hx hb dX9_init_203 rfl (lv_at hl 0 rfl) ?_
  refine lv_iconst (v := 4) hx hb dX9_init_204 (by decide) ?_
  have hz := hw.1
  replace hz : _ = β + 26 := hz
  refine x_newa_boolean (G := G) (cl := vwCl) (N := 4) hx hb (hts (.arrayClass .boolean) (tg 1089 (by decide +kernel) rfl)) C.K hS (by decide) rfl (by decide) (Nat.le_of_ble_eq_true rfl) (Nat.le_of_ble_eq_true rfl) dX9_init_205 (fun H1 hat ho1 hS => ?_)
  rw [hz]
  have hw : LW β G [.inr (9, [.int 0, .ref (β + 1), .ref (β + 2), .int 0, .int 0, .ref (β + 3), .int 0, .ref (β + 4), .ref (β + 5), .ref (β + 6), .ref (β + 7), .ref (β + 8), .ref (β + 9), .int 0, .ref (β + 10), .int 0, .ref (β + 11), .ref (β + 12), .ref (β + 13), .int 0, .int 0, .ref (β + 14), .int 0, .int 0, .int 0, .int 0, .long 0, .int 0, .int 0, .int 0, .int 0, .int 0, .int 0, .int 0, .int 0, .int 0, .ref (β + 15), .ref (β + 16), .ref (β + 17), .ref (β + 18), .ref (β + 19), .int 0, .ref (β + 20), .ref (β + 21), .ref (β + 22), .ref (β + 23), .ref (β + 24), .ref (β + 25), .int 0, .int 0, .int 0, .int 0, .int 0, .null, .null, .null, .null]), .inl (G.2.1 0, 960, .inl (fun _ => 0)), .inl (G.2.1 0, 6, .inl (fun _ => 0)), .inl (G.2.1 0, 160, .inl (fun _ => 0)), .inl (G.2.1 0, 10, .inl (fun _ => 0)), .inl (G.2.1 0, 10, .inl (fun _ => 0)), .inl (G.2.1 0, 10, .inl (fun _ => 0)), .inl (G.2.1 0, 10, .inl (fun _ => 0)), .inl (G.2.1 0, 10, .inl (fun _ => 0)), .inl (G.2.1 0, 10, .inl (fun _ => 0)), .inl (G.2.1 0, 4, .inl (fun _ => 0)), .inl (G.2.1 0, 10, .inl (fun _ => 0)), .inl (G.2.1 1, 6, .inr (.inl (fun _ => 0))), .inl (G.2.1 0, 5, .inl (fun _ => 0)), .inl (G.2.1 0, 10, .inl (fun _ => 0)), .inl (G.2.1 0, 24, .inl (fun _ => 0)), .inl (G.2.1 0, 24, .inl (fun _ => 0)), .inl (G.2.1 0, 24, .inl (fun _ => 0)), .inl (G.2.1 0, 120, .inl (fun _ => 0)), .inl (G.2.1 0, 120, .inl (fun _ => 0)), .inl (G.2.1 0, 10, .inl (fun _ => 0)), .inl (G.2.1 0, 10, .inl (fun _ => 0)), .inl (G.2.1 0, 10, .inl (fun _ => 0)), .inl (G.2.1 0, 10, .inl (fun _ => 0)), .inl (G.2.1 0, 10, .inl (fun _ => 0)), .inl (G.2.1 0, 4, .inl (fun _ => 0)), .inl (G.2.1 3, 4, .inl (fun _ => 0))] H1 := hw.push hat ho1
  clear hat ho1 hz
  refine W.widen (k := 26) (n := 1591) (Nat.le_of_ble_eq_true rfl) (Nat.le_of_ble_eq_true rfl) ?_
  refine x_putF (ci := 9) hx hb hts iwX9 tyX9 tyX9_ok nmX9 ho C.K.1 hS (hw.2 0 _ rfl) (hA 0 (by decide)) rfl 53 (by decide) (C.2.2.2.2.1 (.fieldLink RX9 90 RX9 "isThere" "[Z") (tg 969 (by decide +kernel) rfl)) (fun _ h9 => h9) rfl hin rfl (ty := tyX9 53) (by decide +kernel) rfl rfl (Nat.le_of_ble_eq_true rfl) dX9_init_207 (fun H1 locs hat ho1 hS => ?_)
  have hw : LW β G [.inr (9, [.int 0, .ref (β + 1), .ref (β + 2), .int 0, .int 0, .ref (β + 3), .int 0, .ref (β + 4), .ref (β + 5), .ref (β + 6), .ref (β + 7), .ref (β + 8), .ref (β + 9), .int 0, .ref (β + 10), .int 0, .ref (β + 11), .ref (β + 12), .ref (β + 13), .int 0, .int 0, .ref (β + 14), .int 0, .int 0, .int 0, .int 0, .long 0, .int 0, .int 0, .int 0, .int 0, .int 0, .int 0, .int 0, .int 0, .int 0, .ref (β + 15), .ref (β + 16), .ref (β + 17), .ref (β + 18), .ref (β + 19), .int 0, .ref (β + 20), .ref (β + 21), .ref (β + 22), .ref (β + 23), .ref (β + 24), .ref (β + 25), .int 0, .int 0, .int 0, .int 0, .int 0, .ref (β + 26), .null, .null, .null]), .inl (G.2.1 0, 960, .inl (fun _ => 0)), .inl (G.2.1 0, 6, .inl (fun _ => 0)), .inl (G.2.1 0, 160, .inl (fun _ => 0)), .inl (G.2.1 0, 10, .inl (fun _ => 0)), .inl (G.2.1 0, 10, .inl (fun _ => 0)), .inl (G.2.1 0, 10, .inl (fun _ => 0)), .inl (G.2.1 0, 10, .inl (fun _ => 0)), .inl (G.2.1 0, 10, .inl (fun _ => 0)), .inl (G.2.1 0, 10, .inl (fun _ => 0)), .inl (G.2.1 0, 4, .inl (fun _ => 0)), .inl (G.2.1 0, 10, .inl (fun _ => 0)), .inl (G.2.1 1, 6, .inr (.inl (fun _ => 0))), .inl (G.2.1 0, 5, .inl (fun _ => 0)), .inl (G.2.1 0, 10, .inl (fun _ => 0)), .inl (G.2.1 0, 24, .inl (fun _ => 0)), .inl (G.2.1 0, 24, .inl (fun _ => 0)), .inl (G.2.1 0, 24, .inl (fun _ => 0)), .inl (G.2.1 0, 120, .inl (fun _ => 0)), .inl (G.2.1 0, 120, .inl (fun _ => 0)), .inl (G.2.1 0, 10, .inl (fun _ => 0)), .inl (G.2.1 0, 10, .inl (fun _ => 0)), .inl (G.2.1 0, 10, .inl (fun _ => 0)), .inl (G.2.1 0, 10, .inl (fun _ => 0)), .inl (G.2.1 0, 10, .inl (fun _ => 0)), .inl (G.2.1 0, 4, .inl (fun _ => 0)), .inl (G.2.1 3, 4, .inl (fun _ => 0))] H1 := hw.set 0 (Nat.le_of_ble_eq_true rfl) hat ho1
  clear hat ho1
  refine lv_aload_n hx hb dX9_init_210 rfl (lv_at hl 0 rfl) ?_
  refine lv_iconst (v := 4) hx hb dX9_init_211 (by decide) ?_
  have hz := hw.1
  replace hz : _ = β + 27 := hz
  refine x_newa (G := G) (cl := vwCl) (N := 4) hx hb (hts (.arrayClass .int) (tg 60 (by decide +kernel) rfl)) C.K hS (by decide) rfl (by decide) (Nat.le_of_ble_eq_true rfl) (Nat.le_of_ble_eq_true rfl) dX9_init_212 (fun H1 hat ho1 hS => ?_)
  rw [hz]
  have hw : LW β G [.inr (9, [.int 0, .ref (β + 1), .ref (β + 2), .int 0, .int 0, .ref (β + 3), .int 0, .ref (β + 4), .ref (β + 5), .ref (β + 6), .ref (β + 7), .ref (β + 8), .ref (β + 9), .int 0, .ref (β + 10), .int 0, .ref (β + 11), .ref (β + 12), .ref (β + 13), .int 0, .int 0, .ref (β + 14), .int 0, .int 0, .int 0, .int 0, .long 0, .int 0, .int 0, .int 0, .int 0, .int 0, .int 0, .int 0, .int 0, .int 0, .ref (β + 15), .ref (β + 16), .ref (β + 17), .ref (β + 18), .ref (β + 19), .int 0, .ref (β + 20), .ref (β + 21), .ref (β + 22), .ref (β + 23), .ref (β + 24), .ref (β + 25), .int 0, .int 0, .int 0, .int 0, .int 0, .ref (β + 26), .null, .null, .null]), .inl (G.2.1 0, 960, .inl (fun _ => 0)), .inl (G.2.1 0, 6, .inl (fun _ => 0)), .inl (G.2.1 0, 160, .inl (fun _ => 0)), .inl (G.2.1 0, 10, .inl (fun _ => 0)), .inl (G.2.1 0, 10, .inl (fun _ => 0)), .inl (G.2.1 0, 10, .inl (fun _ => 0)), .inl (G.2.1 0, 10, .inl (fun _ => 0)), .inl (G.2.1 0, 10, .inl (fun _ => 0)), .inl (G.2.1 0, 10, .inl (fun _ => 0)), .inl (G.2.1 0, 4, .inl (fun _ => 0)), .inl (G.2.1 0, 10, .inl (fun _ => 0)), .inl (G.2.1 1, 6, .inr (.inl (fun _ => 0))), .inl (G.2.1 0, 5, .inl (fun _ => 0)), .inl (G.2.1 0, 10, .inl (fun _ => 0)), .inl (G.2.1 0, 24, .inl (fun _ => 0)), .inl (G.2.1 0, 24, .inl (fun _ => 0)), .inl (G.2.1 0, 24, .inl (fun _ => 0)), .inl (G.2.1 0, 120, .inl (fun _ => 0)), .inl (G.2.1 0, 120, .inl (fun _ => 0)), .inl (G.2.1 0, 10, .inl (fun _ => 0)), .inl (G.2.1 0, 10, .inl (fun _ => 0)), .inl (G.2.1 0, 10, .inl (fun _ => 0)), .inl (G.2.1 0, 10, .inl (fun _ => 0)), .inl (G.2.1 0, 10, .inl (fun _ => 0)), .inl (G.2.1 0, 4, .inl (fun _ => 0)), .inl (G.2.1 3, 4, .inl (fun _ => 0)), .inl (G.2.1 0, 4, .inl (fun _ => 0))] H1 := hw.push hat ho1
  clear hat ho1 hz
  refine W.widen (k := 27) (n := 1595) (Nat.le_of_ble_eq_true rfl) (Nat.le_of_ble_eq_true rfl) ?_
  refine x_putF (ci := 9) hx hb hts iwX9 tyX9 tyX9_ok nmX9 ho C.K.1 hS (hw.2 0 _ rfl) (hA 0 (by decide)) rfl 54 (by decide) (C.2.2.2.2.1 (.fieldLink RX9 94 RX9 "sorts" "[I") (tg 970 (by decide +kernel) rfl)) (fun _ h9 => h9) rfl hin rfl (ty := tyX9 54) (by decide +kernel) rfl rfl (Nat.le_of_ble_eq_true rfl) dX9_init_214 (fun H1 locs hat ho1 hS => ?_)
  have hw : LW β G [.inr (9, [.int 0, .ref (β + 1), .ref (β + 2), .int 0, .int 0, .ref (β + 3), .int 0, .ref (β + 4), .ref (β + 5), .ref (β + 6), .ref (β + 7), .ref (β + 8), .ref (β + 9), .int 0, .ref (β + 10), .int 0, .ref (β + 11), .ref (β + 12), .ref (β + 13), .int 0, .int 0, .ref (β + 14), .int 0, .int 0, .int 0, .int 0, .long 0, .int 0, .int 0, .int 0, .int 0, .int 0, .int 0, .int 0, .int 0, .int 0, .ref (β + 15), .ref (β + 16), .ref (β + 17), .ref (β + 18), .ref (β + 19), .int 0, .ref (β + 20), .ref (β + 21), .ref (β + 22), .ref (β + 23), .ref (β + 24), .ref (β + 25), .int 0, .int 0, .int 0, .int 0, .int 0, .ref (β + 26), .ref (β + 27), .null, .null]), .inl (G.2.1 0, 960, .inl (fun _ => 0)), .inl (G.2.1 0, 6, .inl (fun _ => 0)), .inl (G.2.1 0, 160, .inl (fun _ => 0)), .inl (G.2.1 0, 10, .inl (fun _ => 0)), .inl (G.2.1 0, 10, .inl (fun _ => 0)), .inl (G.2.1 0, 10, .inl (fun _ => 0)), .inl (G.2.1 0, 10, .inl (fun _ => 0)), .inl (G.2.1 0, 10, .inl (fun _ => 0)), .inl (G.2.1 0, 10, .inl (fun _ => 0)), .inl (G.2.1 0, 4, .inl (fun _ => 0)), .inl (G.2.1 0, 10, .inl (fun _ => 0)), .inl (G.2.1 1, 6, .inr (.inl (fun _ => 0))), .inl (G.2.1 0, 5, .inl (fun _ => 0)), .inl (G.2.1 0, 10, .inl (fun _ => 0)), .inl (G.2.1 0, 24, .inl (fun _ => 0)), .inl (G.2.1 0, 24, .inl (fun _ => 0)), .inl (G.2.1 0, 24, .inl (fun _ => 0)), .inl (G.2.1 0, 120, .inl (fun _ => 0)), .inl (G.2.1 0, 120, .inl (fun _ => 0)), .inl (G.2.1 0, 10, .inl (fun _ => 0)), .inl (G.2.1 0, 10, .inl (fun _ => 0)), .inl (G.2.1 0, 10, .inl (fun _ => 0)), .inl (G.2.1 0, 10, .inl (fun _ => 0)), .inl (G.2.1 0, 10, .inl (fun _ => 0)), .inl (G.2.1 0, 4, .inl (fun _ => 0)), .inl (G.2.1 3, 4, .inl (fun _ => 0)), .inl (G.2.1 0, 4, .inl (fun _ => 0))] H1 := hw.set 0 (Nat.le_of_ble_eq_true rfl) hat ho1
  clear hat ho1
  refine lv_aload_n hx hb dX9_init_217 rfl (lv_at hl 0 rfl) ?_
  refine lv_iconst (v := 4) hx hb dX9_init_218 (by decide) ?_
  have hz := hw.1
  replace hz : _ = β + 28 := hz
  refine x_newa (G := G) (cl := vwCl) (N := 4) hx hb (hts (.arrayClass .int) (tg 60 (by decide +kernel) rfl)) C.K hS (by decide) rfl (by decide) (Nat.le_of_ble_eq_true rfl) (Nat.le_of_ble_eq_true rfl) dX9_init_219 (fun H1 hat ho1 hS => ?_)
  rw [hz]
  have hw : LW β G [.inr (9, [.int 0, .ref (β + 1), .ref (β + 2), .int 0, .int 0, .ref (β + 3), .int 0, .ref (β + 4), .ref (β + 5), .ref (β + 6), .ref (β + 7), .ref (β + 8), .ref (β + 9), .int 0, .ref (β + 10), .int 0, .ref (β + 11), .ref (β + 12), .ref (β + 13), .int 0, .int 0, .ref (β + 14), .int 0, .int 0, .int 0, .int 0, .long 0, .int 0, .int 0, .int 0, .int 0, .int 0, .int 0, .int 0, .int 0, .int 0, .ref (β + 15), .ref (β + 16), .ref (β + 17), .ref (β + 18), .ref (β + 19), .int 0, .ref (β + 20), .ref (β + 21), .ref (β + 22), .ref (β + 23), .ref (β + 24), .ref (β + 25), .int 0, .int 0, .int 0, .int 0, .int 0, .ref (β + 26), .ref (β + 27), .null, .null]), .inl (G.2.1 0, 960, .inl (fun _ => 0)), .inl (G.2.1 0, 6, .inl (fun _ => 0)), .inl (G.2.1 0, 160, .inl (fun _ => 0)), .inl (G.2.1 0, 10, .inl (fun _ => 0)), .inl (G.2.1 0, 10, .inl (fun _ => 0)), .inl (G.2.1 0, 10, .inl (fun _ => 0)), .inl (G.2.1 0, 10, .inl (fun _ => 0)), .inl (G.2.1 0, 10, .inl (fun _ => 0)), .inl (G.2.1 0, 10, .inl (fun _ => 0)), .inl (G.2.1 0, 4, .inl (fun _ => 0)), .inl (G.2.1 0, 10, .inl (fun _ => 0)), .inl (G.2.1 1, 6, .inr (.inl (fun _ => 0))), .inl (G.2.1 0, 5, .inl (fun _ => 0)), .inl (G.2.1 0, 10, .inl (fun _ => 0)), .inl (G.2.1 0, 24, .inl (fun _ => 0)), .inl (G.2.1 0, 24, .inl (fun _ => 0)), .inl (G.2.1 0, 24, .inl (fun _ => 0)), .inl (G.2.1 0, 120, .inl (fun _ => 0)), .inl (G.2.1 0, 120, .inl (fun _ => 0)), .inl (G.2.1 0, 10, .inl (fun _ => 0)), .inl (G.2.1 0, 10, .inl (fun _ => 0)), .inl (G.2.1 0, 10, .inl (fun _ => 0)), .inl (G.2.1 0, 10, .inl (fun _ => 0)), .inl (G.2.1 0, 10, .inl (fun _ => 0)), .inl (G.2.1 0, 4, .inl (fun _ => 0)), .inl (G.2.1 3, 4, .inl (fun _ => 0)), .inl (G.2.1 0, 4, .inl (fun _ => 0)), .inl (G.2.1 0, 4, .inl (fun _ => 0))] H1 := hw.push hat ho1
  clear hat ho1 hz
  refine W.widen (k := 28) (n := 1599) (Nat.le_of_ble_eq_true rfl) (Nat.le_of_ble_eq_true rfl) ?_
  refine x_putF (ci := 9) hx hb hts iwX9 tyX9 tyX9_ok nmX9 ho C.K.1 hS (hw.2 0 _ rfl) (hA 0 (by decide)) rfl 55 (by decide) (C.2.2.2.2.1 (.fieldLink RX9 97 RX9 "sheetSize" "[I") (tg 971 (by decide +kernel) rfl)) (fun _ h9 => h9) rfl hin rfl (ty := tyX9 55) (by decide +kernel) rfl rfl (Nat.le_of_ble_eq_true rfl) dX9_init_221 (fun H1 locs hat ho1 hS => ?_)
  have hw : LW β G [.inr (9, [.int 0, .ref (β + 1), .ref (β + 2), .int 0, .int 0, .ref (β + 3), .int 0, .ref (β + 4), .ref (β + 5), .ref (β + 6), .ref (β + 7), .ref (β + 8), .ref (β + 9), .int 0, .ref (β + 10), .int 0, .ref (β + 11), .ref (β + 12), .ref (β + 13), .int 0, .int 0, .ref (β + 14), .int 0, .int 0, .int 0, .int 0, .long 0, .int 0, .int 0, .int 0, .int 0, .int 0, .int 0, .int 0, .int 0, .int 0, .ref (β + 15), .ref (β + 16), .ref (β + 17), .ref (β + 18), .ref (β + 19), .int 0, .ref (β + 20), .ref (β + 21), .ref (β + 22), .ref (β + 23), .ref (β + 24), .ref (β + 25), .int 0, .int 0, .int 0, .int 0, .int 0, .ref (β + 26), .ref (β + 27), .ref (β + 28), .null]), .inl (G.2.1 0, 960, .inl (fun _ => 0)), .inl (G.2.1 0, 6, .inl (fun _ => 0)), .inl (G.2.1 0, 160, .inl (fun _ => 0)), .inl (G.2.1 0, 10, .inl (fun _ => 0)), .inl (G.2.1 0, 10, .inl (fun _ => 0)), .inl (G.2.1 0, 10, .inl (fun _ => 0)), .inl (G.2.1 0, 10, .inl (fun _ => 0)), .inl (G.2.1 0, 10, .inl (fun _ => 0)), .inl (G.2.1 0, 10, .inl (fun _ => 0)), .inl (G.2.1 0, 4, .inl (fun _ => 0)), .inl (G.2.1 0, 10, .inl (fun _ => 0)), .inl (G.2.1 1, 6, .inr (.inl (fun _ => 0))), .inl (G.2.1 0, 5, .inl (fun _ => 0)), .inl (G.2.1 0, 10, .inl (fun _ => 0)), .inl (G.2.1 0, 24, .inl (fun _ => 0)), .inl (G.2.1 0, 24, .inl (fun _ => 0)), .inl (G.2.1 0, 24, .inl (fun _ => 0)), .inl (G.2.1 0, 120, .inl (fun _ => 0)), .inl (G.2.1 0, 120, .inl (fun _ => 0)), .inl (G.2.1 0, 10, .inl (fun _ => 0)), .inl (G.2.1 0, 10, .inl (fun _ => 0)), .inl (G.2.1 0, 10, .inl (fun _ => 0)), .inl (G.2.1 0, 10, .inl (fun _ => 0)), .inl (G.2.1 0, 10, .inl (fun _ => 0)), .inl (G.2.1 0, 4, .inl (fun _ => 0)), .inl (G.2.1 3, 4, .inl (fun _ => 0)), .inl (G.2.1 0, 4, .inl (fun _ => 0)), .inl (G.2.1 0, 4, .inl (fun _ => 0))] H1 := hw.set 0 (Nat.le_of_ble_eq_true rfl) hat ho1
  clear hat ho1
  refine lv_aload_n hx hb dX9_init_224 rfl (lv_at hl 0 rfl) ?_
  refine lv_sipush (v := 160) hx hb dX9_init_225 (by decide) ?_
  have hz := hw.1
  replace hz : _ = β + 29 := hz
  refine x_newa (G := G) (cl := vwCl) (N := 160) hx hb (hts (.arrayClass .int) (tg 60 (by decide +kernel) rfl)) C.K hS (by decide) rfl (by decide) (Nat.le_of_ble_eq_true rfl) (Nat.le_of_ble_eq_true rfl) dX9_init_228 (fun H1 hat ho1 hS => ?_)
  rw [hz]
  have hw : LW β G [.inr (9, [.int 0, .ref (β + 1), .ref (β + 2), .int 0, .int 0, .ref (β + 3), .int 0, .ref (β + 4), .ref (β + 5), .ref (β + 6), .ref (β + 7), .ref (β + 8), .ref (β + 9), .int 0, .ref (β + 10), .int 0, .ref (β + 11), .ref (β + 12), .ref (β + 13), .int 0, .int 0, .ref (β + 14), .int 0, .int 0, .int 0, .int 0, .long 0, .int 0, .int 0, .int 0, .int 0, .int 0, .int 0, .int 0, .int 0, .int 0, .ref (β + 15), .ref (β + 16), .ref (β + 17), .ref (β + 18), .ref (β + 19), .int 0, .ref (β + 20), .ref (β + 21), .ref (β + 22), .ref (β + 23), .ref (β + 24), .ref (β + 25), .int 0, .int 0, .int 0, .int 0, .int 0, .ref (β + 26), .ref (β + 27), .ref (β + 28), .null]), .inl (G.2.1 0, 960, .inl (fun _ => 0)), .inl (G.2.1 0, 6, .inl (fun _ => 0)), .inl (G.2.1 0, 160, .inl (fun _ => 0)), .inl (G.2.1 0, 10, .inl (fun _ => 0)), .inl (G.2.1 0, 10, .inl (fun _ => 0)), .inl (G.2.1 0, 10, .inl (fun _ => 0)), .inl (G.2.1 0, 10, .inl (fun _ => 0)), .inl (G.2.1 0, 10, .inl (fun _ => 0)), .inl (G.2.1 0, 10, .inl (fun _ => 0)), .inl (G.2.1 0, 4, .inl (fun _ => 0)), .inl (G.2.1 0, 10, .inl (fun _ => 0)), .inl (G.2.1 1, 6, .inr (.inl (fun _ => 0))), .inl (G.2.1 0, 5, .inl (fun _ => 0)), .inl (G.2.1 0, 10, .inl (fun _ => 0)), .inl (G.2.1 0, 24, .inl (fun _ => 0)), .inl (G.2.1 0, 24, .inl (fun _ => 0)), .inl (G.2.1 0, 24, .inl (fun _ => 0)), .inl (G.2.1 0, 120, .inl (fun _ => 0)), .inl (G.2.1 0, 120, .inl (fun _ => 0)), .inl (G.2.1 0, 10, .inl (fun _ => 0)), .inl (G.2.1 0, 10, .inl (fun _ => 0)), .inl (G.2.1 0, 10, .inl (fun _ => 0)), .inl (G.2.1 0, 10, .inl (fun _ => 0)), .inl (G.2.1 0, 10, .inl (fun _ => 0)), .inl (G.2.1 0, 4, .inl (fun _ => 0)), .inl (G.2.1 3, 4, .inl (fun _ => 0)), .inl (G.2.1 0, 4, .inl (fun _ => 0)), .inl (G.2.1 0, 4, .inl (fun _ => 0)), .inl (G.2.1 0, 160, .inl (fun _ => 0))] H1 := hw.push hat ho1
  clear hat ho1 hz
  refine W.widen (k := 29) (n := 1759) (Nat.le_of_ble_eq_true rfl) (Nat.le_of_ble_eq_true rfl) ?_
  refine x_putF (ci := 9) hx hb hts iwX9 tyX9 tyX9_ok nmX9 ho C.K.1 hS (hw.2 0 _ rfl) (hA 0 (by decide)) rfl 56 (by decide) (C.2.2.2.2.1 (.fieldLink RX9 100 RX9 "items" "[I") (tg 972 (by decide +kernel) rfl)) (fun _ h9 => h9) rfl hin rfl (ty := tyX9 56) (by decide +kernel) rfl rfl (Nat.le_of_ble_eq_true rfl) dX9_init_230 (fun H1 locs hat ho1 hS => ?_)
  have hw : LW β G [.inr (9, [.int 0, .ref (β + 1), .ref (β + 2), .int 0, .int 0, .ref (β + 3), .int 0, .ref (β + 4), .ref (β + 5), .ref (β + 6), .ref (β + 7), .ref (β + 8), .ref (β + 9), .int 0, .ref (β + 10), .int 0, .ref (β + 11), .ref (β + 12), .ref (β + 13), .int 0, .int 0, .ref (β + 14), .int 0, .int 0, .int 0, .int 0, .long 0, .int 0, .int 0, .int 0, .int 0, .int 0, .int 0, .int 0, .int 0, .int 0, .ref (β + 15), .ref (β + 16), .ref (β + 17), .ref (β + 18), .ref (β + 19), .int 0, .ref (β + 20), .ref (β + 21), .ref (β + 22), .ref (β + 23), .ref (β + 24), .ref (β + 25), .int 0, .int 0, .int 0, .int 0, .int 0, .ref (β + 26), .ref (β + 27), .ref (β + 28), .ref (β + 29)]), .inl (G.2.1 0, 960, .inl (fun _ => 0)), .inl (G.2.1 0, 6, .inl (fun _ => 0)), .inl (G.2.1 0, 160, .inl (fun _ => 0)), .inl (G.2.1 0, 10, .inl (fun _ => 0)), .inl (G.2.1 0, 10, .inl (fun _ => 0)), .inl (G.2.1 0, 10, .inl (fun _ => 0)), .inl (G.2.1 0, 10, .inl (fun _ => 0)), .inl (G.2.1 0, 10, .inl (fun _ => 0)), .inl (G.2.1 0, 10, .inl (fun _ => 0)), .inl (G.2.1 0, 4, .inl (fun _ => 0)), .inl (G.2.1 0, 10, .inl (fun _ => 0)), .inl (G.2.1 1, 6, .inr (.inl (fun _ => 0))), .inl (G.2.1 0, 5, .inl (fun _ => 0)), .inl (G.2.1 0, 10, .inl (fun _ => 0)), .inl (G.2.1 0, 24, .inl (fun _ => 0)), .inl (G.2.1 0, 24, .inl (fun _ => 0)), .inl (G.2.1 0, 24, .inl (fun _ => 0)), .inl (G.2.1 0, 120, .inl (fun _ => 0)), .inl (G.2.1 0, 120, .inl (fun _ => 0)), .inl (G.2.1 0, 10, .inl (fun _ => 0)), .inl (G.2.1 0, 10, .inl (fun _ => 0)), .inl (G.2.1 0, 10, .inl (fun _ => 0)), .inl (G.2.1 0, 10, .inl (fun _ => 0)), .inl (G.2.1 0, 10, .inl (fun _ => 0)), .inl (G.2.1 0, 4, .inl (fun _ => 0)), .inl (G.2.1 3, 4, .inl (fun _ => 0)), .inl (G.2.1 0, 4, .inl (fun _ => 0)), .inl (G.2.1 0, 4, .inl (fun _ => 0)), .inl (G.2.1 0, 160, .inl (fun _ => 0))] H1 := hw.set 0 (Nat.le_of_ble_eq_true rfl) hat ho1
  clear hat ho1
  have hw : MW β G N x0M _ := ⟨hw.1.trans hN.symm, fun k hk => match k, hk with
    | 0, _ => hw.2 0 _ rfl
    | 1, _ => hw.2 1 _ rfl
    | 2, _ => hw.2 2 _ rfl
    | 3, _ => hw.2 3 _ rfl
    | 4, _ => hw.2 4 _ rfl
    | 5, _ => hw.2 5 _ rfl
    | 6, _ => hw.2 6 _ rfl
    | 7, _ => hw.2 7 _ rfl
    | 8, _ => hw.2 8 _ rfl
    | 9, _ => hw.2 9 _ rfl
    | 10, _ => hw.2 10 _ rfl
    | 11, _ => hw.2 11 _ rfl
    | 12, _ => hw.2 12 _ rfl
    | 13, _ => hw.2 13 _ rfl
    | 14, _ => hw.2 14 _ rfl
    | 15, _ => hw.2 15 _ rfl
    | 16, _ => hw.2 16 _ rfl
    | 17, _ => hw.2 17 _ rfl
    | 18, _ => hw.2 18 _ rfl
    | 19, _ => hw.2 19 _ rfl
    | 20, _ => hw.2 20 _ rfl
    | 21, _ => hw.2 21 _ rfl
    | 22, _ => hw.2 22 _ rfl
    | 23, _ => hw.2 23 _ rfl
    | 24, _ => hw.2 24 _ rfl
    | 25, _ => hw.2 25 _ rfl
    | 26, _ => hw.2 26 _ rfl
    | 27, _ => hw.2 27 _ rfl
    | 28, _ => hw.2 28 _ rfl
    | 29, _ => hw.2 29 _ rfl
    | k + 30, hk => absurd hk (by omega)⟩
  have hRf : 1 ≤ rmX9_init.frames := Nat.le_refl _
  have hRl : 24 ≤ rmX9_init.locals := Nat.le_refl _
  have hcs : 29 ≤ rmX9_init.cells ∧ 1759 ≤ rmX9_init.slots := ⟨Nat.le_of_ble_eq_true rfl, Nat.le_of_ble_eq_true rfl⟩
  generalize x0M = x at hw hm
  unfold fX9_tail at hm
  have hl : lv_has ls 2 [(0, .ref β)] := hl
  refine lv_aload_n hx hb dX9_init_233 rfl (lv_at hl 0 rfl) ?_
  refine lv_iconst (v := 0) hx hb dX9_init_234 (by decide) ?_
  refine lv_ldc2 (v := 7954896756975363425) hx hb ho (hts (.constantLong RX9 103 7954896756975363425) (tg 905 (by decide +kernel) rfl)) dX9_init_235 ?_
  obtain ⟨x1, h2, hm⟩ := bind_e hm
  refine sX9_105 C h2 hw hS hl.1 (Nat.le_of_ble_eq_true rfl) (Nat.le_trans (Nat.le_of_ble_eq_true rfl) hRf) (Nat.le_trans (Nat.le_of_ble_eq_true rfl) hRl) hcs dX9_init_238 (fun H locs hw hS => ?_)
  refine lv_aload_n hx hb dX9_init_241 rfl (lv_at hl 0 rfl) ?_
  refine lv_bipush (v := 8) hx hb dX9_init_242 (by decide) ?_
  refine lv_ldc2 (v := 7214814020344229152) hx hb ho (hts (.constantLong RX9 109 7214814020344229152) (tg 911 (by decide +kernel) rfl)) dX9_init_244 ?_
  obtain ⟨x3, h4, hm⟩ := bind_e hm
  refine sX9_105 C h4 hw hS hl.1 (Nat.le_of_ble_eq_true rfl) (Nat.le_trans (Nat.le_of_ble_eq_true rfl) hRf) (Nat.le_trans (Nat.le_of_ble_eq_true rfl) hRl) hcs dX9_init_247 (fun H locs hw hS => ?_)
  refine lv_aload_n hx hb dX9_init_250 rfl (lv_at hl 0 rfl) ?_
  refine lv_bipush (v := 16) hx hb dX9_init_251 (by decide) ?_
  refine lv_ldc2 (v := 8100956909258947360) hx hb ho (hts (.constantLong RX9 111 8100956909258947360) (tg 912 (by decide +kernel) rfl)) dX9_init_253 ?_
  obtain ⟨x5, h6, hm⟩ := bind_e hm
  refine sX9_105 C h6 hw hS hl.1 (Nat.le_of_ble_eq_true rfl) (Nat.le_trans (Nat.le_of_ble_eq_true rfl) hRf) (Nat.le_trans (Nat.le_of_ble_eq_true rfl) hRl) hcs dX9_init_256 (fun H locs hw hS => ?_)
  refine lv_aload_n hx hb dX9_init_259 rfl (lv_at hl 0 rfl) ?_
  refine lv_bipush (v := 24) hx hb dX9_init_260 (by decide) ?_
  refine lv_ldc2 (v := 7525352679652073531) hx hb ho (hts (.constantLong RX9 113 7525352679652073531) (tg 913 (by decide +kernel) rfl)) dX9_init_262 ?_
  obtain ⟨x7, h8, hm⟩ := bind_e hm
  refine sX9_105 C h8 hw hS hl.1 (Nat.le_of_ble_eq_true rfl) (Nat.le_trans (Nat.le_of_ble_eq_true rfl) hRf) (Nat.le_trans (Nat.le_of_ble_eq_true rfl) hRl) hcs dX9_init_265 (fun H locs hw hS => ?_)
  refine lv_aload_n hx hb dX9_init_268 rfl (lv_at hl 0 rfl) ?_
  refine lv_bipush (v := 32) hx hb dX9_init_269 (by decide) ?_
  refine lv_ldc2 (v := 2338319804398793842) hx hb ho (hts (.constantLong RX9 115 2338319804398793842) (tg 914 (by decide +kernel) rfl)) dX9_init_271 ?_
  obtain ⟨x9, h10, hm⟩ := bind_e hm
  refine sX9_105 C h10 hw hS hl.1 (Nat.le_of_ble_eq_true rfl) (Nat.le_trans (Nat.le_of_ble_eq_true rfl) hRf) (Nat.le_trans (Nat.le_of_ble_eq_true rfl) hRl) hcs dX9_init_274 (fun H locs hw hS => ?_)
  refine lv_aload_n hx hb dX9_init_277 rfl (lv_at hl 0 rfl) ?_
  refine lv_bipush (v := 40) hx hb dX9_init_278 (by decide) ?_
  refine lv_ldc2 (v := 7308892994929700128) hx hb ho (hts (.constantLong RX9 117 7308892994929700128) (tg 915 (by decide +kernel) rfl)) dX9_init_280 ?_
  obtain ⟨x11, h12, hm⟩ := bind_e hm
  refine sX9_105 C h12 hw hS hl.1 (Nat.le_of_ble_eq_true rfl) (Nat.le_trans (Nat.le_of_ble_eq_true rfl) hRf) (Nat.le_trans (Nat.le_of_ble_eq_true rfl) hRl) hcs dX9_init_283 (fun H locs hw hS => ?_)
  refine lv_aload_n hx hb dX9_init_286 rfl (lv_at hl 0 rfl) ?_
  refine lv_bipush (v := 48) hx hb dX9_init_287 (by decide) ?_
  refine lv_ldc2 (v := 7810756211409362976) hx hb ho (hts (.constantLong RX9 119 7810756211409362976) (tg 916 (by decide +kernel) rfl)) dX9_init_289 ?_
  obtain ⟨x13, h14, hm⟩ := bind_e hm
  refine sX9_105 C h14 hw hS hl.1 (Nat.le_of_ble_eq_true rfl) (Nat.le_trans (Nat.le_of_ble_eq_true rfl) hRf) (Nat.le_trans (Nat.le_of_ble_eq_true rfl) hRl) hcs dX9_init_292 (fun H locs hw hS => ?_)
  refine lv_aload_n hx hb dX9_init_295 rfl (lv_at hl 0 rfl) ?_
  refine gX9_17 C hw dX9_init_296 ?_
  refine lv_iconst (v := 0) hx hb dX9_init_299 (by decide) ?_
  refine lv_bipush (v := 56) hx hb dX9_init_300 (by decide) ?_
  obtain ⟨h15, hm⟩ := chk_e hm
  refine asM_2 C hw hS h15 dX9_init_302 (fun H locs hw hS => ?_)
  obtain ⟨x16, ev, hm⟩ := lt_e hm
  rw [← ev] at hw
  clear ev
  refine lv_aload_n hx hb dX9_init_303 rfl (lv_at hl 0 rfl) ?_
  refine lv_iconst (v := 1) hx hb dX9_init_304 (by decide) ?_
  refine pX9_121 C hw hS dX9_init_305 (fun H locs hw hS => ?_)
  obtain ⟨x17, ev, hm⟩ := lt_e hm
  rw [← ev] at hw
  clear ev
  refine lv_aload_n hx hb dX9_init_308 rfl (lv_at hl 0 rfl) ?_
  refine lv_iconst (v := 1) hx hb dX9_init_309 (by decide) ?_
  refine pX9_124 C hw hS dX9_init_310 (fun H locs hw hS => ?_)
  obtain ⟨x18, ev, hm⟩ := lt_e hm
  rw [← ev] at hw
  clear ev
  refine lv_iconst (v := 0) hx hb dX9_init_313 (by decide) ?_
  refine lv_istore_n (lv' := [(1, .int 0), (0, .ref β)]) hx hb dX9_init_314 rfl hl (by decide) rfl (fun ls hl => ?_)
  obtain ⟨x22, hj, hm⟩ := bind_e hm
  refine lX9_init_315 C hRf hRl hcs NF _ _ _ _ _ _ hj hw hS (lv_sub hl [1, 0] rfl) (fun x22_ e0 H locs ls hw hS hl => ?_)
  cases e0
  obtain rfl := Option.some.inj hm
  exact xret_v C hw hS dX9_init_333
