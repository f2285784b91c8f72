/-! the cases of the law -/
def lkk (p : Program) (l : Launch) (e : Env) (s : State) (m : MethodId) (args : Array Value) (below : List Frame) (meth : Method) (c : Code) (Q : State → Prop) (D : va_G) (cI cJ cV cZ : ClassId) (ax am : Nat → Nat) (b i : Nat) : Prop := ∀ (n : Nat) (H : Heap) (locs : List Loc) (ls : Array Slot) (I : TI) (J : TJ) (K : TI) (L : TJ), LB D cI cJ cV cZ ax am s H locs I J K L → Cp n I J K L → lv_has ls 8 [(3, .int (nI i)), (0, .ref b), (1, .ref (ax 0)), (2, .ref (am 0))] → W p l e room_1 s m args below meth c H locs 600000 7302250 Q (F0 m 1043 ls [])
theorem d8N (k : Int32) : okd (FP.dmul (FP.i2d k) c8) := okd_of (FP.Core.dmul_out (FP.Core.i2d_fin k) ((FP.Core.fin_bits c8).mpr (by decide +kernel)))
theorem dcS {r : UInt64} (h : FP.dIsNaN r = false) : Op.cmpValue (FP.dcmp r r) CmpOp.l = 0 := by
  rw [show FP.dcmp r r = some .eq from FP.Core.dcmp_self ((FP.Core.notNaN_iff r).mp h)]; rfl
set_option maxHeartbeats 4000000 in
set_option maxRecDepth 100000 in
theorem law_0 {p : Program} {l : Launch} {e : Env} {s : State} {m : MethodId} {args : Array Value} {below : List Frame} {meth : Method} {c : Code} {Q : State → Prop} {D : va_G} {cI cJ cV cZ : ClassId} {ax am : Nat → Nat} {ret : Option FieldType} (C : KX p s m args meth c RL cL_law 8 ret) {b N i n : Nat} {xs : Nat → Int32} (hX : va_X b N xs s s.heap) (hbl : b < s.heap.size) (hN : N ≤ 2048) (hi : i + 4 ≤ N) {H : Heap} {locs : List Loc} {ls : Array Slot} {I : TI} {J : TJ} {K : TI} {L : TJ} (hB : LB D cI cJ cV cZ ax am s H locs I J K L) (hC : Cp n I J K L) (hl : lv_has ls 8 [(3, .int (nI i)), (0, .ref b), (1, .ref (ax 0)), (2, .ref (am 0))]) (kk : lkk p l e s m args below meth c Q D cI cJ cV cZ ax am b i) : W p l e room_1 s m args below meth c H locs 600000 7302250 Q (F0 m 156 ls []) := by
  obtain ⟨r, I', J', K', L', n', hx, hm, hc⟩ := op_input hC (xs (i + 1)) (xs (i + 2))
  refine lv_aload_n C.hx C.hb dL_law_156 rfl (lv_at hl 2 rfl) ?_
  refine l_sl (j := 1) (v := (1 : Int32)) C hB hX hbl (by omega) (by omega) rfl (lv_at hl 1 rfl) (lv_at hl 0 rfl) dL_law_157 dL_law_158 dL_law_159 (by decide) dL_law_160 dL_law_161 ?_
  refine l_sl (j := 2) (v := (2 : Int32)) C hB hX hbl (by omega) (by omega) rfl (lv_at hl 1 rfl) (lv_at hl 0 rfl) dL_law_162 dL_law_163 dL_law_164 (by decide) dL_law_165 dL_law_166 ?_
  refine l_xi hB (l_run C hB.gx [.int (xs (i + 1)), .int (xs (i + 2))] [] (cnX4_input l D cI cJ cV ax H.size hx) 0 rfl rfl tw_196 tw_197 tw_198 tw_33 tw_199 ⟨rfl, rfl⟩ hdX4_input ⟨Nat.le_of_ble_eq_true rfl, Nat.le_of_ble_eq_true rfl⟩ ⟨Nat.le_of_ble_eq_true rfl, Nat.le_of_ble_eq_true rfl⟩ hl.1 rfl (Nat.le_of_ble_eq_true rfl) dL_law_167) (fun H locs hB => ?_)
  refine lv_aload_n C.hx C.hb dL_law_170 rfl (lv_at hl 3 rfl) ?_
  refine l_sl (j := 1) (v := (1 : Int32)) C hB hX hbl (by omega) (by omega) rfl (lv_at hl 1 rfl) (lv_at hl 0 rfl) dL_law_171 dL_law_172 dL_law_173 (by decide) dL_law_174 dL_law_175 ?_
  refine l_sl (j := 2) (v := (2 : Int32)) C hB hX hbl (by omega) (by omega) rfl (lv_at hl 1 rfl) (lv_at hl 0 rfl) dL_law_176 dL_law_177 dL_law_178 (by decide) dL_law_179 dL_law_180 ?_
  refine l_mi hB (l_run C hB.gm [.int (xs (i + 1)), .int (xs (i + 2))] [.int r] (cnX5_input l D cI cJ cZ am H.size hm) 0 rfl rfl tw_616 tw_617 tw_618 tw_38 tw_619 ⟨rfl, rfl⟩ hdX5_input ⟨Nat.le_of_ble_eq_true rfl, Nat.le_of_ble_eq_true rfl⟩ ⟨Nat.le_of_ble_eq_true rfl, Nat.le_of_ble_eq_true rfl⟩ hl.1 rfl (Nat.le_of_ble_eq_true rfl) dL_law_181) (fun H locs hB => ?_)
  exact lv_icmp_eq (tgt := 1043) C.hx C.hb dL_law_184 (by decide) (fun _ => kk n' H locs ls I' J' K' L' hB hc hl) (fun z => absurd rfl z)
set_option maxHeartbeats 4000000 in
set_option maxRecDepth 100000 in
theorem law_1 {p : Program} {l : Launch} {e : Env} {s : State} {m : MethodId} {args : Array Value} {below : List Frame} {meth : Method} {c : Code} {Q : State → Prop} {D : va_G} {cI cJ cV cZ : ClassId} {ax am : Nat → Nat} {ret : Option FieldType} (C : KX p s m args meth c RL cL_law 8 ret) {b N i n : Nat} {xs : Nat → Int32} (hX : va_X b N xs s s.heap) (hbl : b < s.heap.size) (hN : N ≤ 2048) (hi : i + 4 ≤ N) {H : Heap} {locs : List Loc} {ls : Array Slot} {I : TI} {J : TJ} {K : TI} {L : TJ} (hB : LB D cI cJ cV cZ ax am s H locs I J K L) (hC : Cp n I J K L) (hl : lv_has ls 8 [(3, .int (nI i)), (0, .ref b), (1, .ref (ax 0)), (2, .ref (am 0))]) (kk : lkk p l e s m args below meth c Q D cI cJ cV cZ ax am b i) : W p l e room_1 s m args below meth c H locs 600000 7302250 Q (F0 m 189 ls []) := by
  obtain ⟨r, I', J', K', L', n', hx, hm, hc⟩ := op_fixed hC (xs (i + 1))
  refine lv_aload_n C.hx C.hb dL_law_189 rfl (lv_at hl 2 rfl) ?_
  refine l_sl (j := 1) (v := (1 : Int32)) C hB hX hbl (by omega) (by omega) rfl (lv_at hl 1 rfl) (lv_at hl 0 rfl) dL_law_190 dL_law_191 dL_law_192 (by decide) dL_law_193 dL_law_194 ?_
  refine l_xi hB (l_run C hB.gx [.int (xs (i + 1))] [] (cnX4_fixed l D cI cJ cV ax H.size hx) 0 rfl rfl tw_226 tw_227 tw_228 tw_33 tw_229 ⟨rfl, rfl⟩ hdX4_fixed ⟨Nat.le_of_ble_eq_true rfl, Nat.le_of_ble_eq_true rfl⟩ ⟨Nat.le_of_ble_eq_true rfl, Nat.le_of_ble_eq_true rfl⟩ hl.1 rfl (Nat.le_of_ble_eq_true rfl) dL_law_195) (fun H locs hB => ?_)
  refine lv_aload_n C.hx C.hb dL_law_198 rfl (lv_at hl 3 rfl) ?_
  refine l_sl (j := 1) (v := (1 : Int32)) C hB hX hbl (by omega) (by omega) rfl (lv_at hl 1 rfl) (lv_at hl 0 rfl) dL_law_199 dL_law_200 dL_law_201 (by decide) dL_law_202 dL_law_203 ?_
  refine l_mi hB (l_run C hB.gm [.int (xs (i + 1))] [.int r] (cnX5_fixed l D cI cJ cZ am H.size hm) 0 rfl rfl tw_632 tw_633 tw_634 tw_38 tw_635 ⟨rfl, rfl⟩ hdX5_fixed ⟨Nat.le_of_ble_eq_true rfl, Nat.le_of_ble_eq_true rfl⟩ ⟨Nat.le_of_ble_eq_true rfl, Nat.le_of_ble_eq_true rfl⟩ hl.1 rfl (Nat.le_of_ble_eq_true rfl) dL_law_204) (fun H locs hB => ?_)
  exact lv_icmp_eq (tgt := 1043) C.hx C.hb dL_law_207 (by decide) (fun _ => kk n' H locs ls I' J' K' L' hB hc hl) (fun z => absurd rfl z)
set_option maxHeartbeats 4000000 in
set_option maxRecDepth 100000 in
theorem law_2 {p : Program} {l : Launch} {e : Env} {s : State} {m : MethodId} {args : Array Value} {below : List Frame} {meth : Method} {c : Code} {Q : State → Prop} {D : va_G} {cI cJ cV cZ : ClassId} {ax am : Nat → Nat} {ret : Option FieldType} (C : KX p s m args meth c RL cL_law 8 ret) {b N i n : Nat} {xs : Nat → Int32} (hX : va_X b N xs s s.heap) (hbl : b < s.heap.size) (hN : N ≤ 2048) (hi : i + 4 ≤ N) {H : Heap} {locs : List Loc} {ls : Array Slot} {I : TI} {J : TJ} {K : TI} {L : TJ} (hB : LB D cI cJ cV cZ ax am s H locs I J K L) (hC : Cp n I J K L) (hl : lv_has ls 8 [(3, .int (nI i)), (0, .ref b), (1, .ref (ax 0)), (2, .ref (am 0))]) (kk : lkk p l e s m args below meth c Q D cI cJ cV cZ ax am b i) : W p l e room_1 s m args below meth c H locs 600000 7302250 Q (F0 m 212 ls []) := by
  obtain ⟨r, I', J', K', L', n', hx, hm, hc⟩ := op_work hC (xs (i + 1)) (xs (i + 2)) (xs (i + 3))
  refine lv_aload_n C.hx C.hb dL_law_212 rfl (lv_at hl 2 rfl) ?_
  refine l_sl (j := 1) (v := (1 : Int32)) C hB hX hbl (by omega) (by omega) rfl (lv_at hl 1 rfl) (lv_at hl 0 rfl) dL_law_213 dL_law_214 dL_law_215 (by decide) dL_law_216 dL_law_217 ?_
  refine l_sl (j := 2) (v := (2 : Int32)) C hB hX hbl (by omega) (by omega) rfl (lv_at hl 1 rfl) (lv_at hl 0 rfl) dL_law_218 dL_law_219 dL_law_220 (by decide) dL_law_221 dL_law_222 ?_
  refine l_sl (j := 3) (v := (3 : Int32)) C hB hX hbl (by omega) (by omega) rfl (lv_at hl 1 rfl) (lv_at hl 0 rfl) dL_law_223 dL_law_224 dL_law_225 (by decide) dL_law_226 dL_law_227 ?_
  refine l_xi hB (l_run C hB.gx [.int (xs (i + 1)), .int (xs (i + 2)), .int (xs (i + 3))] [] (cnX4_work l D cI cJ cV ax H.size hx) 0 rfl rfl tw_230 tw_231 tw_232 tw_33 tw_233 ⟨rfl, rfl⟩ hdX4_work ⟨Nat.le_of_ble_eq_true rfl, Nat.le_of_ble_eq_true rfl⟩ ⟨Nat.le_of_ble_eq_true rfl, Nat.le_of_ble_eq_true rfl⟩ hl.1 rfl (Nat.le_of_ble_eq_true rfl) dL_law_228) (fun H locs hB => ?_)
  refine lv_aload_n C.hx C.hb dL_law_231 rfl (lv_at hl 3 rfl) ?_
  refine l_sl (j := 1) (v := (1 : Int32)) C hB hX hbl (by omega) (by omega) rfl (lv_at hl 1 rfl) (lv_at hl 0 rfl) dL_law_232 dL_law_233 dL_law_234 (by decide) dL_law_235 dL_law_236 ?_
  refine l_sl (j := 2) (v := (2 : Int32)) C hB hX hbl (by omega) (by omega) rfl (lv_at hl 1 rfl) (lv_at hl 0 rfl) dL_law_237 dL_law_238 dL_law_239 (by decide) dL_law_240 dL_law_241 ?_
  refine l_sl (j := 3) (v := (3 : Int32)) C hB hX hbl (by omega) (by omega) rfl (lv_at hl 1 rfl) (lv_at hl 0 rfl) dL_law_242 dL_law_243 dL_law_244 (by decide) dL_law_245 dL_law_246 ?_
  refine l_mi hB (l_run C hB.gm [.int (xs (i + 1)), .int (xs (i + 2)), .int (xs (i + 3))] [.int r] (cnX5_work l D cI cJ cZ am H.size hm) 0 rfl rfl tw_636 tw_637 tw_638 tw_38 tw_639 ⟨rfl, rfl⟩ hdX5_work ⟨Nat.le_of_ble_eq_true rfl, Nat.le_of_ble_eq_true rfl⟩ ⟨Nat.le_of_ble_eq_true rfl, Nat.le_of_ble_eq_true rfl⟩ hl.1 rfl (Nat.le_of_ble_eq_true rfl) dL_law_247) (fun H locs hB => ?_)
  exact lv_icmp_eq (tgt := 1043) C.hx C.hb dL_law_250 (by decide) (fun _ => kk n' H locs ls I' J' K' L' hB hc hl) (fun z => absurd rfl z)
set_option maxHeartbeats 4000000 in
set_option maxRecDepth 100000 in
theorem law_3 {p : Program} {l : Launch} {e : Env} {s : State} {m : MethodId} {args : Array Value} {below : List Frame} {meth : Method} {c : Code} {Q : State → Prop} {D : va_G} {cI cJ cV cZ : ClassId} {ax am : Nat → Nat} {ret : Option FieldType} (C : KX p s m args meth c RL cL_law 8 ret) {b N i n : Nat} {xs : Nat → Int32} (hX : va_X b N xs s s.heap) (hbl : b < s.heap.size) (hN : N ≤ 2048) (hi : i + 4 ≤ N) {H : Heap} {locs : List Loc} {ls : Array Slot} {I : TI} {J : TJ} {K : TI} {L : TJ} (hB : LB D cI cJ cV cZ ax am s H locs I J K L) (hC : Cp n I J K L) (hl : lv_has ls 8 [(3, .int (nI i)), (0, .ref b), (1, .ref (ax 0)), (2, .ref (am 0))]) (kk : lkk p l e s m args below meth c Q D cI cJ cV cZ ax am b i) : W p l e room_1 s m args below meth c H locs 600000 7302250 Q (F0 m 255 ls []) := by
  obtain ⟨r, I', J', K', L', n', hx, hm, hc⟩ := op_cut hC (xs (i + 1))
  refine lv_aload_n C.hx C.hb dL_law_255 rfl (lv_at hl 2 rfl) ?_
  refine l_sl (j := 1) (v := (1 : Int32)) C hB hX hbl (by omega) (by omega) rfl (lv_at hl 1 rfl) (lv_at hl 0 rfl) dL_law_256 dL_law_257 dL_law_258 (by decide) dL_law_259 dL_law_260 ?_
  refine l_xi hB (l_run C hB.gx [.int (xs (i + 1))] [] (cnX4_cut l D cI cJ cV ax H.size hx) 0 rfl rfl tw_274 tw_275 tw_276 tw_33 tw_277 ⟨rfl, rfl⟩ hdX4_cut ⟨Nat.le_of_ble_eq_true rfl, Nat.le_of_ble_eq_true rfl⟩ ⟨Nat.le_of_ble_eq_true rfl, Nat.le_of_ble_eq_true rfl⟩ hl.1 rfl (Nat.le_of_ble_eq_true rfl) dL_law_261) (fun H locs hB => ?_)
  refine lv_aload_n C.hx C.hb dL_law_264 rfl (lv_at hl 3 rfl) ?_
  refine l_sl (j := 1) (v := (1 : Int32)) C hB hX hbl (by omega) (by omega) rfl (lv_at hl 1 rfl) (lv_at hl 0 rfl) dL_law_265 dL_law_266 dL_law_267 (by decide) dL_law_268 dL_law_269 ?_
  refine l_mi hB (l_run C hB.gm [.int (xs (i + 1))] [.int r] (cnX5_cut l D cI cJ cZ am H.size hm) 0 rfl rfl tw_658 tw_659 tw_660 tw_38 tw_661 ⟨rfl, rfl⟩ hdX5_cut ⟨Nat.le_of_ble_eq_true rfl, Nat.le_of_ble_eq_true rfl⟩ ⟨Nat.le_of_ble_eq_true rfl, Nat.le_of_ble_eq_true rfl⟩ hl.1 rfl (Nat.le_of_ble_eq_true rfl) dL_law_270) (fun H locs hB => ?_)
  exact lv_icmp_eq (tgt := 1043) C.hx C.hb dL_law_273 (by decide) (fun _ => kk n' H locs ls I' J' K' L' hB hc hl) (fun z => absurd rfl z)
set_option maxHeartbeats 4000000 in
set_option maxRecDepth 100000 in
theorem law_4 {p : Program} {l : Launch} {e : Env} {s : State} {m : MethodId} {args : Array Value} {below : List Frame} {meth : Method} {c : Code} {Q : State → Prop} {D : va_G} {cI cJ cV cZ : ClassId} {ax am : Nat → Nat} {ret : Option FieldType} (C : KX p s m args meth c RL cL_law 8 ret) {b N i n : Nat} {xs : Nat → Int32} (hX : va_X b N xs s s.heap) (hbl : b < s.heap.size) (hN : N ≤ 2048) (hi : i + 4 ≤ N) {H : Heap} {locs : List Loc} {ls : Array Slot} {I : TI} {J : TJ} {K : TI} {L : TJ} (hB : LB D cI cJ cV cZ ax am s H locs I J K L) (hC : Cp n I J K L) (hl : lv_has ls 8 [(3, .int (nI i)), (0, .ref b), (1, .ref (ax 0)), (2, .ref (am 0))]) (kk : lkk p l e s m args below meth c Q D cI cJ cV cZ ax am b i) : W p l e room_1 s m args below meth c H locs 600000 7302250 Q (F0 m 278 ls []) := by
  obtain ⟨r, I', J', K', L', n', hx, hm, hc⟩ := op_bits hC (xs (i + 1)) (xs (i + 2))
  refine lv_aload_n C.hx C.hb dL_law_278 rfl (lv_at hl 2 rfl) ?_
  refine l_sl (j := 1) (v := (1 : Int32)) C hB hX hbl (by omega) (by omega) rfl (lv_at hl 1 rfl) (lv_at hl 0 rfl) dL_law_279 dL_law_280 dL_law_281 (by decide) dL_law_282 dL_law_283 ?_
  refine l_sl (j := 2) (v := (2 : Int32)) C hB hX hbl (by omega) (by omega) rfl (lv_at hl 1 rfl) (lv_at hl 0 rfl) dL_law_284 dL_law_285 dL_law_286 (by decide) dL_law_287 dL_law_288 ?_
  refine l_xi hB (l_run C hB.gx [.int (xs (i + 1)), .int (xs (i + 2))] [] (cnX4_bits l D cI cJ cV ax H.size hx) 0 rfl rfl tw_278 tw_279 tw_280 tw_33 tw_281 ⟨rfl, rfl⟩ hdX4_bits ⟨Nat.le_of_ble_eq_true rfl, Nat.le_of_ble_eq_true rfl⟩ ⟨Nat.le_of_ble_eq_true rfl, Nat.le_of_ble_eq_true rfl⟩ hl.1 rfl (Nat.le_of_ble_eq_true rfl) dL_law_289) (fun H locs hB => ?_)
  refine lv_aload_n C.hx C.hb dL_law_292 rfl (lv_at hl 3 rfl) ?_
  refine l_sl (j := 1) (v := (1 : Int32)) C hB hX hbl (by omega) (by omega) rfl (lv_at hl 1 rfl) (lv_at hl 0 rfl) dL_law_293 dL_law_294 dL_law_295 (by decide) dL_law_296 dL_law_297 ?_
  refine l_sl (j := 2) (v := (2 : Int32)) C hB hX hbl (by omega) (by omega) rfl (lv_at hl 1 rfl) (lv_at hl 0 rfl) dL_law_298 dL_law_299 dL_law_300 (by decide) dL_law_301 dL_law_302 ?_
  refine l_mi hB (l_run C hB.gm [.int (xs (i + 1)), .int (xs (i + 2))] [.int r] (cnX5_bits l D cI cJ cZ am H.size hm) 0 rfl rfl tw_662 tw_663 tw_664 tw_38 tw_665 ⟨rfl, rfl⟩ hdX5_bits ⟨Nat.le_of_ble_eq_true rfl, Nat.le_of_ble_eq_true rfl⟩ ⟨Nat.le_of_ble_eq_true rfl, Nat.le_of_ble_eq_true rfl⟩ hl.1 rfl (Nat.le_of_ble_eq_true rfl) dL_law_303) (fun H locs hB => ?_)
  exact lv_icmp_eq (tgt := 1043) C.hx C.hb dL_law_306 (by decide) (fun _ => kk n' H locs ls I' J' K' L' hB hc hl) (fun z => absurd rfl z)
set_option maxHeartbeats 4000000 in
set_option maxRecDepth 100000 in
theorem law_5 {p : Program} {l : Launch} {e : Env} {s : State} {m : MethodId} {args : Array Value} {below : List Frame} {meth : Method} {c : Code} {Q : State → Prop} {D : va_G} {cI cJ cV cZ : ClassId} {ax am : Nat → Nat} {ret : Option FieldType} (C : KX p s m args meth c RL cL_law 8 ret) {b N i n : Nat} {xs : Nat → Int32} (hX : va_X b N xs s s.heap) (hbl : b < s.heap.size) (hN : N ≤ 2048) (hi : i + 4 ≤ N) {H : Heap} {locs : List Loc} {ls : Array Slot} {I : TI} {J : TJ} {K : TI} {L : TJ} (hB : LB D cI cJ cV cZ ax am s H locs I J K L) (hC : Cp n I J K L) (hl : lv_has ls 8 [(3, .int (nI i)), (0, .ref b), (1, .ref (ax 0)), (2, .ref (am 0))]) (kk : lkk p l e s m args below meth c Q D cI cJ cV cZ ax am b i) : W p l e room_1 s m args below meth c H locs 600000 7302250 Q (F0 m 311 ls []) := by
  obtain ⟨r, I', J', K', L', n', hx, hm, hc⟩ := op_rounding hC (xs (i + 1)) (xs (i + 2))
  refine lv_aload_n C.hx C.hb dL_law_311 rfl (lv_at hl 2 rfl) ?_
  refine l_sl (j := 1) (v := (1 : Int32)) C hB hX hbl (by omega) (by omega) rfl (lv_at hl 1 rfl) (lv_at hl 0 rfl) dL_law_312 dL_law_313 dL_law_314 (by decide) dL_law_315 dL_law_316 ?_
  refine l_sl (j := 2) (v := (2 : Int32)) C hB hX hbl (by omega) (by omega) rfl (lv_at hl 1 rfl) (lv_at hl 0 rfl) dL_law_317 dL_law_318 dL_law_319 (by decide) dL_law_320 dL_law_321 ?_
  refine l_xi hB (l_run C hB.gx [.int (xs (i + 1)), .int (xs (i + 2))] [] (cnX4_rounding l D cI cJ cV ax H.size hx) 0 rfl rfl tw_291 tw_292 tw_293 tw_33 tw_294 ⟨rfl, rfl⟩ hdX4_rounding ⟨Nat.le_of_ble_eq_true rfl, Nat.le_of_ble_eq_true rfl⟩ ⟨Nat.le_of_ble_eq_true rfl, Nat.le_of_ble_eq_true rfl⟩ hl.1 rfl (Nat.le_of_ble_eq_true rfl) dL_law_322) (fun H locs hB => ?_)
  refine lv_aload_n C.hx C.hb dL_law_325 rfl (lv_at hl 3 rfl) ?_
  refine l_sl (j := 1) (v := (1 : Int32)) C hB hX hbl (by omega) (by omega) rfl (lv_at hl 1 rfl) (lv_at hl 0 rfl) dL_law_326 dL_law_327 dL_law_328 (by decide) dL_law_329 dL_law_330 ?_
  refine l_sl (j := 2) (v := (2 : Int32)) C hB hX hbl (by omega) (by omega) rfl (lv_at hl 1 rfl) (lv_at hl 0 rfl) dL_law_331 dL_law_332 dL_law_333 (by decide) dL_law_334 dL_law_335 ?_
  refine l_mi hB (l_run C hB.gm [.int (xs (i + 1)), .int (xs (i + 2))] [.int r] (cnX5_rounding l D cI cJ cZ am H.size hm) 0 rfl rfl tw_671 tw_672 tw_673 tw_38 tw_674 ⟨rfl, rfl⟩ hdX5_rounding ⟨Nat.le_of_ble_eq_true rfl, Nat.le_of_ble_eq_true rfl⟩ ⟨Nat.le_of_ble_eq_true rfl, Nat.le_of_ble_eq_true rfl⟩ hl.1 rfl (Nat.le_of_ble_eq_true rfl) dL_law_336) (fun H locs hB => ?_)
  exact lv_icmp_eq (tgt := 1043) C.hx C.hb dL_law_339 (by decide) (fun _ => kk n' H locs ls I' J' K' L' hB hc hl) (fun z => absurd rfl z)
set_option maxHeartbeats 4000000 in
set_option maxRecDepth 100000 in
theorem law_6 {p : Program} {l : Launch} {e : Env} {s : State} {m : MethodId} {args : Array Value} {below : List Frame} {meth : Method} {c : Code} {Q : State → Prop} {D : va_G} {cI cJ cV cZ : ClassId} {ax am : Nat → Nat} {ret : Option FieldType} (C : KX p s m args meth c RL cL_law 8 ret) {b N i n : Nat} {xs : Nat → Int32} (hX : va_X b N xs s s.heap) (hbl : b < s.heap.size) (hN : N ≤ 2048) (hi : i + 4 ≤ N) {H : Heap} {locs : List Loc} {ls : Array Slot} {I : TI} {J : TJ} {K : TI} {L : TJ} (hB : LB D cI cJ cV cZ ax am s H locs I J K L) (hC : Cp n I J K L) (hl : lv_has ls 8 [(3, .int (nI i)), (0, .ref b), (1, .ref (ax 0)), (2, .ref (am 0))]) (kk : lkk p l e s m args below meth c Q D cI cJ cV cZ ax am b i) : W p l e room_1 s m args below meth c H locs 600000 7302250 Q (F0 m 344 ls []) := by
  obtain ⟨r, I', J', K', L', n', hx, hm, hc⟩ := op_weight hC (xs (i + 1)) (xs (i + 2))
  refine lv_aload_n C.hx C.hb dL_law_344 rfl (lv_at hl 2 rfl) ?_
  refine l_sl (j := 1) (v := (1 : Int32)) C hB hX hbl (by omega) (by omega) rfl (lv_at hl 1 rfl) (lv_at hl 0 rfl) dL_law_345 dL_law_346 dL_law_347 (by decide) dL_law_348 dL_law_349 ?_
  refine l_sl (j := 2) (v := (2 : Int32)) C hB hX hbl (by omega) (by omega) rfl (lv_at hl 1 rfl) (lv_at hl 0 rfl) dL_law_350 dL_law_351 dL_law_352 (by decide) dL_law_353 dL_law_354 ?_
  refine l_xi hB (l_run C hB.gx [.int (xs (i + 1)), .int (xs (i + 2))] [] (cnX4_weight l D cI cJ cV ax H.size hx) 0 rfl rfl tw_295 tw_296 tw_297 tw_33 tw_298 ⟨rfl, rfl⟩ hdX4_weight ⟨Nat.le_of_ble_eq_true rfl, Nat.le_of_ble_eq_true rfl⟩ ⟨Nat.le_of_ble_eq_true rfl, Nat.le_of_ble_eq_true rfl⟩ hl.1 rfl (Nat.le_of_ble_eq_true rfl) dL_law_355) (fun H locs hB => ?_)
  refine lv_aload_n C.hx C.hb dL_law_358 rfl (lv_at hl 3 rfl) ?_
  refine l_sl (j := 1) (v := (1 : Int32)) C hB hX hbl (by omega) (by omega) rfl (lv_at hl 1 rfl) (lv_at hl 0 rfl) dL_law_359 dL_law_360 dL_law_361 (by decide) dL_law_362 dL_law_363 ?_
  refine l_sl (j := 2) (v := (2 : Int32)) C hB hX hbl (by omega) (by omega) rfl (lv_at hl 1 rfl) (lv_at hl 0 rfl) dL_law_364 dL_law_365 dL_law_366 (by decide) dL_law_367 dL_law_368 ?_
  refine l_mi hB (l_run C hB.gm [.int (xs (i + 1)), .int (xs (i + 2))] [.int r] (cnX5_weight l D cI cJ cZ am H.size hm) 0 rfl rfl tw_675 tw_676 tw_677 tw_38 tw_678 ⟨rfl, rfl⟩ hdX5_weight ⟨Nat.le_of_ble_eq_true rfl, Nat.le_of_ble_eq_true rfl⟩ ⟨Nat.le_of_ble_eq_true rfl, Nat.le_of_ble_eq_true rfl⟩ hl.1 rfl (Nat.le_of_ble_eq_true rfl) dL_law_369) (fun H locs hB => ?_)
  exact lv_icmp_eq (tgt := 1043) C.hx C.hb dL_law_372 (by decide) (fun _ => kk n' H locs ls I' J' K' L' hB hc hl) (fun z => absurd rfl z)
set_option maxHeartbeats 4000000 in
set_option maxRecDepth 100000 in
theorem law_7 {p : Program} {l : Launch} {e : Env} {s : State} {m : MethodId} {args : Array Value} {below : List Frame} {meth : Method} {c : Code} {Q : State → Prop} {D : va_G} {cI cJ cV cZ : ClassId} {ax am : Nat → Nat} {ret : Option FieldType} (C : KX p s m args meth c RL cL_law 8 ret) {b N i n : Nat} {xs : Nat → Int32} (hX : va_X b N xs s s.heap) (hbl : b < s.heap.size) (hN : N ≤ 2048) (hi : i + 4 ≤ N) {H : Heap} {locs : List Loc} {ls : Array Slot} {I : TI} {J : TJ} {K : TI} {L : TJ} (hB : LB D cI cJ cV cZ ax am s H locs I J K L) (hC : Cp n I J K L) (hl : lv_has ls 8 [(3, .int (nI i)), (0, .ref b), (1, .ref (ax 0)), (2, .ref (am 0))]) (kk : lkk p l e s m args below meth c Q D cI cJ cV cZ ax am b i) : W p l e room_1 s m args below meth c H locs 600000 7302250 Q (F0 m 377 ls []) := by
  obtain ⟨r, I', J', K', L', n', hx, hm, hc⟩ := op_about hC (xs (i + 1)) (xs (i + 2))
  refine lv_aload_n C.hx C.hb dL_law_377 rfl (lv_at hl 2 rfl) ?_
  refine l_sl (j := 1) (v := (1 : Int32)) C hB hX hbl (by omega) (by omega) rfl (lv_at hl 1 rfl) (lv_at hl 0 rfl) dL_law_378 dL_law_379 dL_law_380 (by decide) dL_law_381 dL_law_382 ?_
  refine l_sl (j := 2) (v := (2 : Int32)) C hB hX hbl (by omega) (by omega) rfl (lv_at hl 1 rfl) (lv_at hl 0 rfl) dL_law_383 dL_law_384 dL_law_385 (by decide) dL_law_386 dL_law_387 ?_
  refine l_xl hB (l_run C hB.gx [.int (xs (i + 1)), .int (xs (i + 2))] [] (cnX4_about l D cI cJ cV ax H.size hx) 0 rfl rfl tw_299 tw_300 tw_301 tw_33 tw_302 ⟨rfl, rfl⟩ hdX4_about ⟨Nat.le_of_ble_eq_true rfl, Nat.le_of_ble_eq_true rfl⟩ ⟨Nat.le_of_ble_eq_true rfl, Nat.le_of_ble_eq_true rfl⟩ hl.1 rfl (Nat.le_of_ble_eq_true rfl) dL_law_388) (fun H locs hB => ?_)
  refine lv_aload_n C.hx C.hb dL_law_391 rfl (lv_at hl 3 rfl) ?_
  refine l_sl (j := 1) (v := (1 : Int32)) C hB hX hbl (by omega) (by omega) rfl (lv_at hl 1 rfl) (lv_at hl 0 rfl) dL_law_392 dL_law_393 dL_law_394 (by decide) dL_law_395 dL_law_396 ?_
  refine l_sl (j := 2) (v := (2 : Int32)) C hB hX hbl (by omega) (by omega) rfl (lv_at hl 1 rfl) (lv_at hl 0 rfl) dL_law_397 dL_law_398 dL_law_399 (by decide) dL_law_400 dL_law_401 ?_
  refine l_ml hB (l_run C hB.gm [.int (xs (i + 1)), .int (xs (i + 2))] [.long r] (cnX5_about l D cI cJ cZ am H.size hm) 0 rfl rfl tw_680 tw_681 tw_682 tw_38 tw_683 ⟨rfl, rfl⟩ hdX5_about ⟨Nat.le_of_ble_eq_true rfl, Nat.le_of_ble_eq_true rfl⟩ ⟨Nat.le_of_ble_eq_true rfl, Nat.le_of_ble_eq_true rfl⟩ hl.1 rfl (Nat.le_of_ble_eq_true rfl) dL_law_402) (fun H locs hB => ?_)
  refine W.lcmp C.hx C.hb dL_law_405 ?_
  exact lv_if_eq (tgt := 1043) C.hx C.hb dL_law_406 (by decide) (fun _ => kk n' H locs ls I' J' K' L' hB hc hl) (fun z => absurd ((lg_cmp_zero r r).mpr rfl) z)
set_option maxHeartbeats 4000000 in
set_option maxRecDepth 100000 in
theorem law_8 {p : Program} {l : Launch} {e : Env} {s : State} {m : MethodId} {args : Array Value} {below : List Frame} {meth : Method} {c : Code} {Q : State → Prop} {D : va_G} {cI cJ cV cZ : ClassId} {ax am : Nat → Nat} {ret : Option FieldType} (C : KX p s m args meth c RL cL_law 8 ret) {b N i n : Nat} {xs : Nat → Int32} (hX : va_X b N xs s s.heap) (hbl : b < s.heap.size) (hN : N ≤ 2048) (hi : i + 4 ≤ N) {H : Heap} {locs : List Loc} {ls : Array Slot} {I : TI} {J : TJ} {K : TI} {L : TJ} (hB : LB D cI cJ cV cZ ax am s H locs I J K L) (hC : Cp n I J K L) (hl : lv_has ls 8 [(3, .int (nI i)), (0, .ref b), (1, .ref (ax 0)), (2, .ref (am 0))]) (kk : lkk p l e s m args below meth c Q D cI cJ cV cZ ax am b i) : W p l e room_1 s m args below meth c H locs 600000 7302250 Q (F0 m 411 ls []) := by
  obtain ⟨r, I', J', K', L', n', hx, hm, hc⟩ := op_price hC 
  refine lv_aload_n C.hx C.hb dL_law_411 rfl (lv_at hl 2 rfl) ?_
  refine l_xi hB (l_run C hB.gx [] [] (cnX4_price l D cI cJ cV ax H.size hx) 0 rfl rfl tw_338 tw_339 tw_340 tw_33 tw_341 ⟨rfl, rfl⟩ hdX4_price ⟨Nat.le_of_ble_eq_true rfl, Nat.le_of_ble_eq_true rfl⟩ ⟨Nat.le_of_ble_eq_true rfl, Nat.le_of_ble_eq_true rfl⟩ hl.1 rfl (Nat.le_of_ble_eq_true rfl) dL_law_412) (fun H locs hB => ?_)
  refine lv_aload_n C.hx C.hb dL_law_415 rfl (lv_at hl 3 rfl) ?_
  refine l_mi hB (l_run C hB.gm [] [.int r] (cnX5_price l D cI cJ cZ am H.size hm) 0 rfl rfl tw_701 tw_702 tw_703 tw_38 tw_704 ⟨rfl, rfl⟩ hdX5_price ⟨Nat.le_of_ble_eq_true rfl, Nat.le_of_ble_eq_true rfl⟩ ⟨Nat.le_of_ble_eq_true rfl, Nat.le_of_ble_eq_true rfl⟩ hl.1 rfl (Nat.le_of_ble_eq_true rfl) dL_law_416) (fun H locs hB => ?_)
  exact lv_icmp_eq (tgt := 1043) C.hx C.hb dL_law_419 (by decide) (fun _ => kk n' H locs ls I' J' K' L' hB hc hl) (fun z => absurd rfl z)
set_option maxHeartbeats 4000000 in
set_option maxRecDepth 100000 in
theorem law_9 {p : Program} {l : Launch} {e : Env} {s : State} {m : MethodId} {args : Array Value} {below : List Frame} {meth : Method} {c : Code} {Q : State → Prop} {D : va_G} {cI cJ cV cZ : ClassId} {ax am : Nat → Nat} {ret : Option FieldType} (C : KX p s m args meth c RL cL_law 8 ret) {b N i n : Nat} {xs : Nat → Int32} (hX : va_X b N xs s s.heap) (hbl : b < s.heap.size) (hN : N ≤ 2048) (hi : i + 4 ≤ N) {H : Heap} {locs : List Loc} {ls : Array Slot} {I : TI} {J : TJ} {K : TI} {L : TJ} (hB : LB D cI cJ cV cZ ax am s H locs I J K L) (hC : Cp n I J K L) (hl : lv_has ls 8 [(3, .int (nI i)), (0, .ref b), (1, .ref (ax 0)), (2, .ref (am 0))]) (kk : lkk p l e s m args below meth c Q D cI cJ cV cZ ax am b i) : W p l e room_1 s m args below meth c H locs 600000 7302250 Q (F0 m 424 ls []) := by
  obtain ⟨r, I', J', K', L', n', hx, hm, hc⟩ := op_set hC (xs (i + 1)) (xs (i + 2))
  refine lv_aload_n C.hx C.hb dL_law_424 rfl (lv_at hl 2 rfl) ?_
  refine l_sl (j := 1) (v := (1 : Int32)) C hB hX hbl (by omega) (by omega) rfl (lv_at hl 1 rfl) (lv_at hl 0 rfl) dL_law_425 dL_law_426 dL_law_427 (by decide) dL_law_428 dL_law_429 ?_
  refine l_sl (j := 2) (v := (2 : Int32)) C hB hX hbl (by omega) (by omega) rfl (lv_at hl 1 rfl) (lv_at hl 0 rfl) dL_law_430 dL_law_431 dL_law_432 (by decide) dL_law_433 dL_law_434 ?_
  refine l_xi hB (l_run C hB.gx [.int (xs (i + 1)), .int (xs (i + 2))] [] (cnX4_set l D cI cJ cV ax H.size hx) 0 rfl rfl tw_346 tw_347 tw_348 tw_33 tw_349 ⟨rfl, rfl⟩ hdX4_set ⟨Nat.le_of_ble_eq_true rfl, Nat.le_of_ble_eq_true rfl⟩ ⟨Nat.le_of_ble_eq_true rfl, Nat.le_of_ble_eq_true rfl⟩ hl.1 rfl (Nat.le_of_ble_eq_true rfl) dL_law_435) (fun H locs hB => ?_)
  refine lv_aload_n C.hx C.hb dL_law_438 rfl (lv_at hl 3 rfl) ?_
  refine l_sl (j := 1) (v := (1 : Int32)) C hB hX hbl (by omega) (by omega) rfl (lv_at hl 1 rfl) (lv_at hl 0 rfl) dL_law_439 dL_law_440 dL_law_441 (by decide) dL_law_442 dL_law_443 ?_
  refine l_sl (j := 2) (v := (2 : Int32)) C hB hX hbl (by omega) (by omega) rfl (lv_at hl 1 rfl) (lv_at hl 0 rfl) dL_law_444 dL_law_445 dL_law_446 (by decide) dL_law_447 dL_law_448 ?_
  refine l_mi hB (l_run C hB.gm [.int (xs (i + 1)), .int (xs (i + 2))] [.int r] (cnX5_set l D cI cJ cZ am H.size hm) 0 rfl rfl tw_705 tw_706 tw_707 tw_38 tw_708 ⟨rfl, rfl⟩ hdX5_set ⟨Nat.le_of_ble_eq_true rfl, Nat.le_of_ble_eq_true rfl⟩ ⟨Nat.le_of_ble_eq_true rfl, Nat.le_of_ble_eq_true rfl⟩ hl.1 rfl (Nat.le_of_ble_eq_true rfl) dL_law_449) (fun H locs hB => ?_)
  exact lv_icmp_eq (tgt := 1043) C.hx C.hb dL_law_452 (by decide) (fun _ => kk n' H locs ls I' J' K' L' hB hc hl) (fun z => absurd rfl z)
set_option maxHeartbeats 4000000 in
set_option maxRecDepth 100000 in
theorem law_10 {p : Program} {l : Launch} {e : Env} {s : State} {m : MethodId} {args : Array Value} {below : List Frame} {meth : Method} {c : Code} {Q : State → Prop} {D : va_G} {cI cJ cV cZ : ClassId} {ax am : Nat → Nat} {ret : Option FieldType} (C : KX p s m args meth c RL cL_law 8 ret) {b N i n : Nat} {xs : Nat → Int32} (hX : va_X b N xs s s.heap) (hbl : b < s.heap.size) (hN : N ≤ 2048) (hi : i + 4 ≤ N) {H : Heap} {locs : List Loc} {ls : Array Slot} {I : TI} {J : TJ} {K : TI} {L : TJ} (hB : LB D cI cJ cV cZ ax am s H locs I J K L) (hC : Cp n I J K L) (hl : lv_has ls 8 [(3, .int (nI i)), (0, .ref b), (1, .ref (ax 0)), (2, .ref (am 0))]) (kk : lkk p l e s m args below meth c Q D cI cJ cV cZ ax am b i) : W p l e room_1 s m args below meth c H locs 600000 7302250 Q (F0 m 457 ls []) := by
  obtain ⟨r, I', J', K', L', n', hx, hm, hc⟩ := op_enter hC (xs (i + 1)) (xs (i + 2))
  refine lv_aload_n C.hx C.hb dL_law_457 rfl (lv_at hl 2 rfl) ?_
  refine l_sl (j := 1) (v := (1 : Int32)) C hB hX hbl (by omega) (by omega) rfl (lv_at hl 1 rfl) (lv_at hl 0 rfl) dL_law_458 dL_law_459 dL_law_460 (by decide) dL_law_461 dL_law_462 ?_
  refine l_sl (j := 2) (v := (2 : Int32)) C hB hX hbl (by omega) (by omega) rfl (lv_at hl 1 rfl) (lv_at hl 0 rfl) dL_law_463 dL_law_464 dL_law_465 (by decide) dL_law_466 dL_law_467 ?_
  refine lv_i2d C.hx C.hb dL_law_468 ?_
  refine lv_ldc2d C.hx C.hb C.hown (C.hts _ tw_855) dL_law_469 ?_
  refine lv_dmul C.hx C.hb dL_law_472 (d8N _) ?_
  refine l_xi hB (l_run C hB.gx [.int (xs (i + 1)), .double (FP.dmul (FP.i2d (xs (i + 2))) c8)] [] (cnX4_enter l D cI cJ cV ax H.size hx) 0 rfl rfl tw_354 tw_355 tw_356 tw_33 tw_357 ⟨rfl, rfl⟩ hdX4_enter ⟨Nat.le_of_ble_eq_true rfl, Nat.le_of_ble_eq_true rfl⟩ ⟨Nat.le_of_ble_eq_true rfl, Nat.le_of_ble_eq_true rfl⟩ hl.1 rfl (Nat.le_of_ble_eq_true rfl) dL_law_473) (fun H locs hB => ?_)
  refine lv_aload_n C.hx C.hb dL_law_476 rfl (lv_at hl 3 rfl) ?_
  refine l_sl (j := 1) (v := (1 : Int32)) C hB hX hbl (by omega) (by omega) rfl (lv_at hl 1 rfl) (lv_at hl 0 rfl) dL_law_477 dL_law_478 dL_law_479 (by decide) dL_law_480 dL_law_481 ?_
  refine l_sl (j := 2) (v := (2 : Int32)) C hB hX hbl (by omega) (by omega) rfl (lv_at hl 1 rfl) (lv_at hl 0 rfl) dL_law_482 dL_law_483 dL_law_484 (by decide) dL_law_485 dL_law_486 ?_
  refine lv_i2d C.hx C.hb dL_law_487 ?_
  refine lv_ldc2d C.hx C.hb C.hown (C.hts _ tw_855) dL_law_488 ?_
  refine lv_dmul C.hx C.hb dL_law_491 (d8N _) ?_
  refine l_mi hB (l_run C hB.gm [.int (xs (i + 1)), .double (FP.dmul (FP.i2d (xs (i + 2))) c8)] [.int r] (cnX5_enter l D cI cJ cZ am H.size hm) 0 rfl rfl tw_718 tw_719 tw_720 tw_38 tw_721 ⟨rfl, rfl⟩ hdX5_enter ⟨Nat.le_of_ble_eq_true rfl, Nat.le_of_ble_eq_true rfl⟩ ⟨Nat.le_of_ble_eq_true rfl, Nat.le_of_ble_eq_true rfl⟩ hl.1 rfl (Nat.le_of_ble_eq_true rfl) dL_law_492) (fun H locs hB => ?_)
  exact lv_icmp_eq (tgt := 1043) C.hx C.hb dL_law_495 (by decide) (fun _ => kk n' H locs ls I' J' K' L' hB hc hl) (fun z => absurd rfl z)
set_option maxHeartbeats 4000000 in
set_option maxRecDepth 100000 in
theorem law_11 {p : Program} {l : Launch} {e : Env} {s : State} {m : MethodId} {args : Array Value} {below : List Frame} {meth : Method} {c : Code} {Q : State → Prop} {D : va_G} {cI cJ cV cZ : ClassId} {ax am : Nat → Nat} {ret : Option FieldType} (C : KX p s m args meth c RL cL_law 8 ret) {b N i n : Nat} {xs : Nat → Int32} (hX : va_X b N xs s s.heap) (hbl : b < s.heap.size) (hN : N ≤ 2048) (hi : i + 4 ≤ N) {H : Heap} {locs : List Loc} {ls : Array Slot} {I : TI} {J : TJ} {K : TI} {L : TJ} (hB : LB D cI cJ cV cZ ax am s H locs I J K L) (hC : Cp n I J K L) (hl : lv_has ls 8 [(3, .int (nI i)), (0, .ref b), (1, .ref (ax 0)), (2, .ref (am 0))]) (kk : lkk p l e s m args below meth c Q D cI cJ cV cZ ax am b i) : W p l e room_1 s m args below meth c H locs 600000 7302250 Q (F0 m 500 ls []) := by
  obtain ⟨r, I', J', K', L', n', hx, hm, hc⟩ := op_exact hC (xs (i + 1))
  refine lv_aload_n C.hx C.hb dL_law_500 rfl (lv_at hl 2 rfl) ?_
  refine l_sl (j := 1) (v := (1 : Int32)) C hB hX hbl (by omega) (by omega) rfl (lv_at hl 1 rfl) (lv_at hl 0 rfl) dL_law_501 dL_law_502 dL_law_503 (by decide) dL_law_504 dL_law_505 ?_
  refine l_xl hB (l_run C hB.gx [.int (xs (i + 1))] [] (cnX4_exact l D cI cJ cV ax H.size hx) 0 rfl rfl tw_362 tw_363 tw_364 tw_33 tw_365 ⟨rfl, rfl⟩ hdX4_exact ⟨Nat.le_of_ble_eq_true rfl, Nat.le_of_ble_eq_true rfl⟩ ⟨Nat.le_of_ble_eq_true rfl, Nat.le_of_ble_eq_true rfl⟩ hl.1 rfl (Nat.le_of_ble_eq_true rfl) dL_law_506) (fun H locs hB => ?_)
  refine lv_aload_n C.hx C.hb dL_law_509 rfl (lv_at hl 3 rfl) ?_
  refine l_sl (j := 1) (v := (1 : Int32)) C hB hX hbl (by omega) (by omega) rfl (lv_at hl 1 rfl) (lv_at hl 0 rfl) dL_law_510 dL_law_511 dL_law_512 (by decide) dL_law_513 dL_law_514 ?_
  refine l_ml hB (l_run C hB.gm [.int (xs (i + 1))] [.long r] (cnX5_exact l D cI cJ cZ am H.size hm) 0 rfl rfl tw_725 tw_726 tw_727 tw_38 tw_728 ⟨rfl, rfl⟩ hdX5_exact ⟨Nat.le_of_ble_eq_true rfl, Nat.le_of_ble_eq_true rfl⟩ ⟨Nat.le_of_ble_eq_true rfl, Nat.le_of_ble_eq_true rfl⟩ hl.1 rfl (Nat.le_of_ble_eq_true rfl) dL_law_515) (fun H locs hB => ?_)
  refine W.lcmp C.hx C.hb dL_law_518 ?_
  exact lv_if_eq (tgt := 1043) C.hx C.hb dL_law_519 (by decide) (fun _ => kk n' H locs ls I' J' K' L' hB hc hl) (fun z => absurd ((lg_cmp_zero r r).mpr rfl) z)
set_option maxHeartbeats 4000000 in
set_option maxRecDepth 100000 in
theorem law_12 {p : Program} {l : Launch} {e : Env} {s : State} {m : MethodId} {args : Array Value} {below : List Frame} {meth : Method} {c : Code} {Q : State → Prop} {D : va_G} {cI cJ cV cZ : ClassId} {ax am : Nat → Nat} {ret : Option FieldType} (C : KX p s m args meth c RL cL_law 8 ret) {b N i n : Nat} {xs : Nat → Int32} (hX : va_X b N xs s s.heap) (hbl : b < s.heap.size) (hN : N ≤ 2048) (hi : i + 4 ≤ N) {H : Heap} {locs : List Loc} {ls : Array Slot} {I : TI} {J : TJ} {K : TI} {L : TJ} (hB : LB D cI cJ cV cZ ax am s H locs I J K L) (hC : Cp n I J K L) (hl : lv_has ls 8 [(3, .int (nI i)), (0, .ref b), (1, .ref (ax 0)), (2, .ref (am 0))]) (kk : lkk p l e s m args below meth c Q D cI cJ cV cZ ax am b i) : W p l e room_1 s m args below meth c H locs 600000 7302250 Q (F0 m 524 ls []) := by
  obtain ⟨r, I', J', K', L', n', hx, hm, hc⟩ := op_tuned hC (xs (i + 1))
  refine lv_aload_n C.hx C.hb dL_law_524 rfl (lv_at hl 2 rfl) ?_
  refine l_sl (j := 1) (v := (1 : Int32)) C hB hX hbl (by omega) (by omega) rfl (lv_at hl 1 rfl) (lv_at hl 0 rfl) dL_law_525 dL_law_526 dL_law_527 (by decide) dL_law_528 dL_law_529 ?_
  refine l_xl hB (l_run C hB.gx [.int (xs (i + 1))] [] (cnX4_tuned l D cI cJ cV ax H.size hx) 0 rfl rfl tw_390 tw_391 tw_392 tw_33 tw_393 ⟨rfl, rfl⟩ hdX4_tuned ⟨Nat.le_of_ble_eq_true rfl, Nat.le_of_ble_eq_true rfl⟩ ⟨Nat.le_of_ble_eq_true rfl, Nat.le_of_ble_eq_true rfl⟩ hl.1 rfl (Nat.le_of_ble_eq_true rfl) dL_law_530) (fun H locs hB => ?_)
  refine lv_aload_n C.hx C.hb dL_law_533 rfl (lv_at hl 3 rfl) ?_
  refine l_sl (j := 1) (v := (1 : Int32)) C hB hX hbl (by omega) (by omega) rfl (lv_at hl 1 rfl) (lv_at hl 0 rfl) dL_law_534 dL_law_535 dL_law_536 (by decide) dL_law_537 dL_law_538 ?_
  refine l_ml hB (l_run C hB.gm [.int (xs (i + 1))] [.long r] (cnX5_tuned l D cI cJ cZ am H.size hm) 0 rfl rfl tw_744 tw_745 tw_746 tw_38 tw_747 ⟨rfl, rfl⟩ hdX5_tuned ⟨Nat.le_of_ble_eq_true rfl, Nat.le_of_ble_eq_true rfl⟩ ⟨Nat.le_of_ble_eq_true rfl, Nat.le_of_ble_eq_true rfl⟩ hl.1 rfl (Nat.le_of_ble_eq_true rfl) dL_law_539) (fun H locs hB => ?_)
  refine W.lcmp C.hx C.hb dL_law_542 ?_
  exact lv_if_eq (tgt := 1043) C.hx C.hb dL_law_543 (by decide) (fun _ => kk n' H locs ls I' J' K' L' hB hc hl) (fun z => absurd ((lg_cmp_zero r r).mpr rfl) z)
set_option maxHeartbeats 4000000 in
set_option maxRecDepth 100000 in
theorem law_13 {p : Program} {l : Launch} {e : Env} {s : State} {m : MethodId} {args : Array Value} {below : List Frame} {meth : Method} {c : Code} {Q : State → Prop} {D : va_G} {cI cJ cV cZ : ClassId} {ax am : Nat → Nat} {ret : Option FieldType} (C : KX p s m args meth c RL cL_law 8 ret) {b N i n : Nat} {xs : Nat → Int32} (hX : va_X b N xs s s.heap) (hbl : b < s.heap.size) (hN : N ≤ 2048) (hi : i + 4 ≤ N) {H : Heap} {locs : List Loc} {ls : Array Slot} {I : TI} {J : TJ} {K : TI} {L : TJ} (hB : LB D cI cJ cV cZ ax am s H locs I J K L) (hC : Cp n I J K L) (hl : lv_has ls 8 [(3, .int (nI i)), (0, .ref b), (1, .ref (ax 0)), (2, .ref (am 0))]) (kk : lkk p l e s m args below meth c Q D cI cJ cV cZ ax am b i) : W p l e room_1 s m args below meth c H locs 600000 7302250 Q (F0 m 548 ls []) := by
  obtain ⟨r, I', J', K', L', n', hx, hm, hc⟩ := op_miss hC (xs (i + 1))
  refine lv_aload_n C.hx C.hb dL_law_548 rfl (lv_at hl 2 rfl) ?_
  refine l_sl (j := 1) (v := (1 : Int32)) C hB hX hbl (by omega) (by omega) rfl (lv_at hl 1 rfl) (lv_at hl 0 rfl) dL_law_549 dL_law_550 dL_law_551 (by decide) dL_law_552 dL_law_553 ?_
  refine l_xl hB (l_run C hB.gx [.int (xs (i + 1))] [] (cnX4_miss l D cI cJ cV ax H.size hx) 0 rfl rfl tw_394 tw_395 tw_396 tw_33 tw_397 ⟨rfl, rfl⟩ hdX4_miss ⟨Nat.le_of_ble_eq_true rfl, Nat.le_of_ble_eq_true rfl⟩ ⟨Nat.le_of_ble_eq_true rfl, Nat.le_of_ble_eq_true rfl⟩ hl.1 rfl (Nat.le_of_ble_eq_true rfl) dL_law_554) (fun H locs hB => ?_)
  refine lv_aload_n C.hx C.hb dL_law_557 rfl (lv_at hl 3 rfl) ?_
  refine l_sl (j := 1) (v := (1 : Int32)) C hB hX hbl (by omega) (by omega) rfl (lv_at hl 1 rfl) (lv_at hl 0 rfl) dL_law_558 dL_law_559 dL_law_560 (by decide) dL_law_561 dL_law_562 ?_
  refine l_ml hB (l_run C hB.gm [.int (xs (i + 1))] [.long r] (cnX5_miss l D cI cJ cZ am H.size hm) 0 rfl rfl tw_748 tw_749 tw_750 tw_38 tw_751 ⟨rfl, rfl⟩ hdX5_miss ⟨Nat.le_of_ble_eq_true rfl, Nat.le_of_ble_eq_true rfl⟩ ⟨Nat.le_of_ble_eq_true rfl, Nat.le_of_ble_eq_true rfl⟩ hl.1 rfl (Nat.le_of_ble_eq_true rfl) dL_law_563) (fun H locs hB => ?_)
  refine W.lcmp C.hx C.hb dL_law_566 ?_
  exact lv_if_eq (tgt := 1043) C.hx C.hb dL_law_567 (by decide) (fun _ => kk n' H locs ls I' J' K' L' hB hc hl) (fun z => absurd ((lg_cmp_zero r r).mpr rfl) z)
set_option maxHeartbeats 4000000 in
set_option maxRecDepth 100000 in
theorem law_14 {p : Program} {l : Launch} {e : Env} {s : State} {m : MethodId} {args : Array Value} {below : List Frame} {meth : Method} {c : Code} {Q : State → Prop} {D : va_G} {cI cJ cV cZ : ClassId} {ax am : Nat → Nat} {ret : Option FieldType} (C : KX p s m args meth c RL cL_law 8 ret) {b N i n : Nat} {xs : Nat → Int32} (hX : va_X b N xs s s.heap) (hbl : b < s.heap.size) (hN : N ≤ 2048) (hi : i + 4 ≤ N) {H : Heap} {locs : List Loc} {ls : Array Slot} {I : TI} {J : TJ} {K : TI} {L : TJ} (hB : LB D cI cJ cV cZ ax am s H locs I J K L) (hC : Cp n I J K L) (hl : lv_has ls 8 [(3, .int (nI i)), (0, .ref b), (1, .ref (ax 0)), (2, .ref (am 0))]) (kk : lkk p l e s m args below meth c Q D cI cJ cV cZ ax am b i) : W p l e room_1 s m args below meth c H locs 600000 7302250 Q (F0 m 572 ls []) := by
  obtain ⟨r, I', J', K', L', n', hx, hm, hc, hnn⟩ := op_leave hC (xs (i + 1))
  refine lv_aload_n C.hx C.hb dL_law_572 rfl (lv_at hl 2 rfl) ?_
  refine l_sl (j := 1) (v := (1 : Int32)) C hB hX hbl (by omega) (by omega) rfl (lv_at hl 1 rfl) (lv_at hl 0 rfl) dL_law_573 dL_law_574 dL_law_575 (by decide) dL_law_576 dL_law_577 ?_
  refine l_xd hB (l_run C hB.gx [.int (xs (i + 1))] [] (cnX4_leave l D cI cJ cV ax H.size hx) 0 rfl rfl tw_403 tw_404 tw_405 tw_33 tw_406 ⟨rfl, rfl⟩ hdX4_leave ⟨Nat.le_of_ble_eq_true rfl, Nat.le_of_ble_eq_true rfl⟩ ⟨Nat.le_of_ble_eq_true rfl, Nat.le_of_ble_eq_true rfl⟩ hl.1 rfl (Nat.le_of_ble_eq_true rfl) dL_law_578) (fun H locs hB => ?_)
  refine lv_dstore (lv' := [(4, .double r), (3, .int (nI i)), (0, .ref b), (1, .ref (ax 0)), (2, .ref (am 0))]) C.hx C.hb dL_law_581 hl (by decide) rfl (fun ls hl => ?_)
  refine lv_aload_n C.hx C.hb dL_law_583 rfl (lv_at hl 4 rfl) ?_
  refine l_sl (j := 1) (v := (1 : Int32)) C hB hX hbl (by omega) (by omega) rfl (lv_at hl 2 rfl) (lv_at hl 1 rfl) dL_law_584 dL_law_585 dL_law_586 (by decide) dL_law_587 dL_law_588 ?_
  refine l_md hB (l_run C hB.gm [.int (xs (i + 1))] [] (cnX5_leave l D cI cJ cZ am H.size hm) 0 rfl rfl tw_756 tw_757 tw_758 tw_38 tw_759 ⟨rfl, rfl⟩ hdX5_leave ⟨Nat.le_of_ble_eq_true rfl, Nat.le_of_ble_eq_true rfl⟩ ⟨Nat.le_of_ble_eq_true rfl, Nat.le_of_ble_eq_true rfl⟩ hl.1 rfl (Nat.le_of_ble_eq_true rfl) dL_law_589) (fun H locs hB => ?_)
  refine lv_dstore (lv' := [(6, .double r), (4, .double r), (3, .int (nI i)), (0, .ref b), (1, .ref (ax 0)), (2, .ref (am 0))]) C.hx C.hb dL_law_592 hl (by decide) rfl (fun ls hl => ?_)
  refine lv_dload C.hx C.hb dL_law_594 (lv_at hl 1 rfl) ?_
  refine lv_dload C.hx C.hb dL_law_596 (lv_at hl 0 rfl) ?_
  refine lv_dcmp C.hx C.hb dL_law_598 ?_
  refine lv_if_eq (tgt := 620) C.hx C.hb dL_law_599 (by decide) (fun _ => ?_) (fun z => absurd (dcS hnn) z)
  refine lv_goto (tgt := 1043) C.hx C.hb dL_law_620 (by decide) ?_
  exact kk n' H locs ls I' J' K' L' hB hc (lv_sub hl [2, 3, 4, 5] rfl)
set_option maxHeartbeats 4000000 in
set_option maxRecDepth 100000 in
theorem law_15 {p : Program} {l : Launch} {e : Env} {s : State} {m : MethodId} {args : Array Value} {below : List Frame} {meth : Method} {c : Code} {Q : State → Prop} {D : va_G} {cI cJ cV cZ : ClassId} {ax am : Nat → Nat} {ret : Option FieldType} (C : KX p s m args meth c RL cL_law 8 ret) {b N i n : Nat} {xs : Nat → Int32} (hX : va_X b N xs s s.heap) (hbl : b < s.heap.size) (hN : N ≤ 2048) (hi : i + 4 ≤ N) {H : Heap} {locs : List Loc} {ls : Array Slot} {I : TI} {J : TJ} {K : TI} {L : TJ} (hB : LB D cI cJ cV cZ ax am s H locs I J K L) (hC : Cp n I J K L) (hl : lv_has ls 8 [(3, .int (nI i)), (0, .ref b), (1, .ref (ax 0)), (2, .ref (am 0))]) (kk : lkk p l e s m args below meth c Q D cI cJ cV cZ ax am b i) : W p l e room_1 s m args below meth c H locs 600000 7302250 Q (F0 m 623 ls []) := by
  obtain ⟨r, I', J', K', L', n', hx, hm, hc, hnn⟩ := op_narrow hC (xs (i + 1))
  refine lv_aload_n C.hx C.hb dL_law_623 rfl (lv_at hl 2 rfl) ?_
  refine l_sl (j := 1) (v := (1 : Int32)) C hB hX hbl (by omega) (by omega) rfl (lv_at hl 1 rfl) (lv_at hl 0 rfl) dL_law_624 dL_law_625 dL_law_626 (by decide) dL_law_627 dL_law_628 ?_
  refine l_xf hB (l_run C hB.gx [.int (xs (i + 1))] [] (cnX4_narrow l D cI cJ cV ax H.size hx) 0 rfl rfl tw_408 tw_409 tw_410 tw_33 tw_411 ⟨rfl, rfl⟩ hdX4_narrow ⟨Nat.le_of_ble_eq_true rfl, Nat.le_of_ble_eq_true rfl⟩ ⟨Nat.le_of_ble_eq_true rfl, Nat.le_of_ble_eq_true rfl⟩ hl.1 rfl (Nat.le_of_ble_eq_true rfl) dL_law_629) (fun H locs hB => ?_)
  refine lv_f2d C.hx C.hb dL_law_632 (okd_of (by rw [FP.f2d_nan]; exact hnn)) ?_
  refine lv_dstore (lv' := [(4, .double (FP.f2d r)), (3, .int (nI i)), (0, .ref b), (1, .ref (ax 0)), (2, .ref (am 0))]) C.hx C.hb dL_law_633 hl (by decide) rfl (fun ls hl => ?_)
  refine lv_aload_n C.hx C.hb dL_law_635 rfl (lv_at hl 4 rfl) ?_
  refine l_sl (j := 1) (v := (1 : Int32)) C hB hX hbl (by omega) (by omega) rfl (lv_at hl 2 rfl) (lv_at hl 1 rfl) dL_law_636 dL_law_637 dL_law_638 (by decide) dL_law_639 dL_law_640 ?_
  refine l_mf hB (l_run C hB.gm [.int (xs (i + 1))] [] (cnX5_narrow l D cI cJ cZ am H.size hm) 0 rfl rfl tw_760 tw_761 tw_762 tw_38 tw_763 ⟨rfl, rfl⟩ hdX5_narrow ⟨Nat.le_of_ble_eq_true rfl, Nat.le_of_ble_eq_true rfl⟩ ⟨Nat.le_of_ble_eq_true rfl, Nat.le_of_ble_eq_true rfl⟩ hl.1 rfl (Nat.le_of_ble_eq_true rfl) dL_law_641) (fun H locs hB => ?_)
  refine lv_f2d C.hx C.hb dL_law_644 (okd_of (by rw [FP.f2d_nan]; exact hnn)) ?_
  refine lv_dstore (lv' := [(6, .double (FP.f2d r)), (4, .double (FP.f2d r)), (3, .int (nI i)), (0, .ref b), (1, .ref (ax 0)), (2, .ref (am 0))]) C.hx C.hb dL_law_645 hl (by decide) rfl (fun ls hl => ?_)
  refine lv_dload C.hx C.hb dL_law_647 (lv_at hl 1 rfl) ?_
  refine lv_dload C.hx C.hb dL_law_649 (lv_at hl 0 rfl) ?_
  refine lv_dcmp C.hx C.hb dL_law_651 ?_
  refine lv_if_eq (tgt := 673) C.hx C.hb dL_law_652 (by decide) (fun _ => ?_) (fun z => absurd (dcS (by rw [FP.f2d_nan]; exact hnn)) z)
  refine lv_goto (tgt := 1043) C.hx C.hb dL_law_673 (by decide) ?_
  exact kk n' H locs ls I' J' K' L' hB hc (lv_sub hl [2, 3, 4, 5] rfl)
set_option maxHeartbeats 4000000 in
set_option maxRecDepth 100000 in
theorem law_16 {p : Program} {l : Launch} {e : Env} {s : State} {m : MethodId} {args : Array Value} {below : List Frame} {meth : Method} {c : Code} {Q : State → Prop} {D : va_G} {cI cJ cV cZ : ClassId} {ax am : Nat → Nat} {ret : Option FieldType} (C : KX p s m args meth c RL cL_law 8 ret) {b N i n : Nat} {xs : Nat → Int32} (hX : va_X b N xs s s.heap) (hbl : b < s.heap.size) (hN : N ≤ 2048) (hi : i + 4 ≤ N) {H : Heap} {locs : List Loc} {ls : Array Slot} {I : TI} {J : TJ} {K : TI} {L : TJ} (hB : LB D cI cJ cV cZ ax am s H locs I J K L) (hC : Cp n I J K L) (hl : lv_has ls 8 [(3, .int (nI i)), (0, .ref b), (1, .ref (ax 0)), (2, .ref (am 0))]) (kk : lkk p l e s m args below meth c Q D cI cJ cV cZ ax am b i) : W p l e room_1 s m args below meth c H locs 600000 7302250 Q (F0 m 676 ls []) := by
  obtain ⟨r, I', J', K', L', n', hx, hm, hc⟩ := op_rows hC 
  refine lv_aload_n C.hx C.hb dL_law_676 rfl (lv_at hl 2 rfl) ?_
  refine l_xi hB (l_run C hB.gx [] [] (cnX4_rows l D cI cJ cV ax H.size hx) 0 rfl rfl tw_413 tw_414 tw_415 tw_33 tw_416 ⟨rfl, rfl⟩ hdX4_rows ⟨Nat.le_of_ble_eq_true rfl, Nat.le_of_ble_eq_true rfl⟩ ⟨Nat.le_of_ble_eq_true rfl, Nat.le_of_ble_eq_true rfl⟩ hl.1 rfl (Nat.le_of_ble_eq_true rfl) dL_law_677) (fun H locs hB => ?_)
  refine lv_aload_n C.hx C.hb dL_law_680 rfl (lv_at hl 3 rfl) ?_
  refine l_mi hB (l_run C hB.gm [] [.int r] (cnX5_rows l D cI cJ cZ am H.size hm) 0 rfl rfl tw_764 tw_765 tw_766 tw_38 tw_767 ⟨rfl, rfl⟩ hdX5_rows ⟨Nat.le_of_ble_eq_true rfl, Nat.le_of_ble_eq_true rfl⟩ ⟨Nat.le_of_ble_eq_true rfl, Nat.le_of_ble_eq_true rfl⟩ hl.1 rfl (Nat.le_of_ble_eq_true rfl) dL_law_681) (fun H locs hB => ?_)
  exact lv_icmp_eq (tgt := 1043) C.hx C.hb dL_law_684 (by decide) (fun _ => kk n' H locs ls I' J' K' L' hB hc hl) (fun z => absurd rfl z)
set_option maxHeartbeats 4000000 in
set_option maxRecDepth 100000 in
theorem law_17 {p : Program} {l : Launch} {e : Env} {s : State} {m : MethodId} {args : Array Value} {below : List Frame} {meth : Method} {c : Code} {Q : State → Prop} {D : va_G} {cI cJ cV cZ : ClassId} {ax am : Nat → Nat} {ret : Option FieldType} (C : KX p s m args meth c RL cL_law 8 ret) {b N i n : Nat} {xs : Nat → Int32} (hX : va_X b N xs s s.heap) (hbl : b < s.heap.size) (hN : N ≤ 2048) (hi : i + 4 ≤ N) {H : Heap} {locs : List Loc} {ls : Array Slot} {I : TI} {J : TJ} {K : TI} {L : TJ} (hB : LB D cI cJ cV cZ ax am s H locs I J K L) (hC : Cp n I J K L) (hl : lv_has ls 8 [(3, .int (nI i)), (0, .ref b), (1, .ref (ax 0)), (2, .ref (am 0))]) (kk : lkk p l e s m args below meth c Q D cI cJ cV cZ ax am b i) : W p l e room_1 s m args below meth c H locs 600000 7302250 Q (F0 m 689 ls []) := by
  obtain ⟨r, I', J', K', L', n', hx, hm, hc⟩ := op_worst hC (xs (i + 1))
  refine lv_aload_n C.hx C.hb dL_law_689 rfl (lv_at hl 2 rfl) ?_
  refine l_sl (j := 1) (v := (1 : Int32)) C hB hX hbl (by omega) (by omega) rfl (lv_at hl 1 rfl) (lv_at hl 0 rfl) dL_law_690 dL_law_691 dL_law_692 (by decide) dL_law_693 dL_law_694 ?_
  refine l_xl hB (l_run C hB.gx [.int (xs (i + 1))] [] (cnX4_worst l D cI cJ cV ax H.size hx) 0 rfl rfl tw_423 tw_424 tw_425 tw_33 tw_426 ⟨rfl, rfl⟩ hdX4_worst ⟨Nat.le_of_ble_eq_true rfl, Nat.le_of_ble_eq_true rfl⟩ ⟨Nat.le_of_ble_eq_true rfl, Nat.le_of_ble_eq_true rfl⟩ hl.1 rfl (Nat.le_of_ble_eq_true rfl) dL_law_695) (fun H locs hB => ?_)
  refine lv_aload_n C.hx C.hb dL_law_698 rfl (lv_at hl 3 rfl) ?_
  refine l_sl (j := 1) (v := (1 : Int32)) C hB hX hbl (by omega) (by omega) rfl (lv_at hl 1 rfl) (lv_at hl 0 rfl) dL_law_699 dL_law_700 dL_law_701 (by decide) dL_law_702 dL_law_703 ?_
  refine l_ml hB (l_run C hB.gm [.int (xs (i + 1))] [.long r] (cnX5_worst l D cI cJ cZ am H.size hm) 0 rfl rfl tw_769 tw_770 tw_771 tw_38 tw_772 ⟨rfl, rfl⟩ hdX5_worst ⟨Nat.le_of_ble_eq_true rfl, Nat.le_of_ble_eq_true rfl⟩ ⟨Nat.le_of_ble_eq_true rfl, Nat.le_of_ble_eq_true rfl⟩ hl.1 rfl (Nat.le_of_ble_eq_true rfl) dL_law_704) (fun H locs hB => ?_)
  refine W.lcmp C.hx C.hb dL_law_707 ?_
  exact lv_if_eq (tgt := 1043) C.hx C.hb dL_law_708 (by decide) (fun _ => kk n' H locs ls I' J' K' L' hB hc hl) (fun z => absurd ((lg_cmp_zero r r).mpr rfl) z)
set_option maxHeartbeats 4000000 in
set_option maxRecDepth 100000 in
theorem law_18 {p : Program} {l : Launch} {e : Env} {s : State} {m : MethodId} {args : Array Value} {below : List Frame} {meth : Method} {c : Code} {Q : State → Prop} {D : va_G} {cI cJ cV cZ : ClassId} {ax am : Nat → Nat} {ret : Option FieldType} (C : KX p s m args meth c RL cL_law 8 ret) {b N i n : Nat} {xs : Nat → Int32} (hX : va_X b N xs s s.heap) (hbl : b < s.heap.size) (hN : N ≤ 2048) (hi : i + 4 ≤ N) {H : Heap} {locs : List Loc} {ls : Array Slot} {I : TI} {J : TJ} {K : TI} {L : TJ} (hB : LB D cI cJ cV cZ ax am s H locs I J K L) (hC : Cp n I J K L) (hl : lv_has ls 8 [(3, .int (nI i)), (0, .ref b), (1, .ref (ax 0)), (2, .ref (am 0))]) (kk : lkk p l e s m args below meth c Q D cI cJ cV cZ ax am b i) : W p l e room_1 s m args below meth c H locs 600000 7302250 Q (F0 m 713 ls []) := by
  obtain ⟨r, I', J', K', L', n', hx, hm, hc⟩ := op_worstAt hC (xs (i + 1))
  refine lv_aload_n C.hx C.hb dL_law_713 rfl (lv_at hl 2 rfl) ?_
  refine l_sl (j := 1) (v := (1 : Int32)) C hB hX hbl (by omega) (by omega) rfl (lv_at hl 1 rfl) (lv_at hl 0 rfl) dL_law_714 dL_law_715 dL_law_716 (by decide) dL_law_717 dL_law_718 ?_
  refine l_xi hB (l_run C hB.gx [.int (xs (i + 1))] [] (cnX4_worstAt l D cI cJ cV ax H.size hx) 0 rfl rfl tw_451 tw_452 tw_453 tw_33 tw_454 ⟨rfl, rfl⟩ hdX4_worstAt ⟨Nat.le_of_ble_eq_true rfl, Nat.le_of_ble_eq_true rfl⟩ ⟨Nat.le_of_ble_eq_true rfl, Nat.le_of_ble_eq_true rfl⟩ hl.1 rfl (Nat.le_of_ble_eq_true rfl) dL_law_719) (fun H locs hB => ?_)
  refine lv_aload_n C.hx C.hb dL_law_722 rfl (lv_at hl 3 rfl) ?_
  refine l_sl (j := 1) (v := (1 : Int32)) C hB hX hbl (by omega) (by omega) rfl (lv_at hl 1 rfl) (lv_at hl 0 rfl) dL_law_723 dL_law_724 dL_law_725 (by decide) dL_law_726 dL_law_727 ?_
  refine l_mi hB (l_run C hB.gm [.int (xs (i + 1))] [.int r] (cnX5_worstAt l D cI cJ cZ am H.size hm) 0 rfl rfl tw_787 tw_788 tw_789 tw_38 tw_790 ⟨rfl, rfl⟩ hdX5_worstAt ⟨Nat.le_of_ble_eq_true rfl, Nat.le_of_ble_eq_true rfl⟩ ⟨Nat.le_of_ble_eq_true rfl, Nat.le_of_ble_eq_true rfl⟩ hl.1 rfl (Nat.le_of_ble_eq_true rfl) dL_law_728) (fun H locs hB => ?_)
  exact lv_icmp_eq (tgt := 1043) C.hx C.hb dL_law_731 (by decide) (fun _ => kk n' H locs ls I' J' K' L' hB hc hl) (fun z => absurd rfl z)
set_option maxHeartbeats 4000000 in
set_option maxRecDepth 100000 in
theorem law_19 {p : Program} {l : Launch} {e : Env} {s : State} {m : MethodId} {args : Array Value} {below : List Frame} {meth : Method} {c : Code} {Q : State → Prop} {D : va_G} {cI cJ cV cZ : ClassId} {ax am : Nat → Nat} {ret : Option FieldType} (C : KX p s m args meth c RL cL_law 8 ret) {b N i n : Nat} {xs : Nat → Int32} (hX : va_X b N xs s s.heap) (hbl : b < s.heap.size) (hN : N ≤ 2048) (hi : i + 4 ≤ N) {H : Heap} {locs : List Loc} {ls : Array Slot} {I : TI} {J : TJ} {K : TI} {L : TJ} (hB : LB D cI cJ cV cZ ax am s H locs I J K L) (hC : Cp n I J K L) (hl : lv_has ls 8 [(3, .int (nI i)), (0, .ref b), (1, .ref (ax 0)), (2, .ref (am 0))]) (kk : lkk p l e s m args below meth c Q D cI cJ cV cZ ax am b i) : W p l e room_1 s m args below meth c H locs 600000 7302250 Q (F0 m 736 ls []) := by
  obtain ⟨r, I', J', K', L', n', hx, hm, hc⟩ := op_above hC (xs (i + 1)) ((xs (i + 2)).toInt64 <<< ((32 : Int32).toInt64 &&& 63) ||| ((xs (i + 3)).toInt64 &&& 4294967295))
  refine lv_aload_n C.hx C.hb dL_law_736 rfl (lv_at hl 2 rfl) ?_
  refine l_sl (j := 1) (v := (1 : Int32)) C hB hX hbl (by omega) (by omega) rfl (lv_at hl 1 rfl) (lv_at hl 0 rfl) dL_law_737 dL_law_738 dL_law_739 (by decide) dL_law_740 dL_law_741 ?_
  refine l_sl (j := 2) (v := (2 : Int32)) C hB hX hbl (by omega) (by omega) rfl (lv_at hl 1 rfl) (lv_at hl 0 rfl) dL_law_742 dL_law_743 dL_law_744 (by decide) dL_law_745 dL_law_746 ?_
  refine lv_i2l C.hx C.hb dL_law_747 rfl ?_
  refine lv_bipush (v := (32 : Int32)) C.hx C.hb dL_law_748 (by decide) ?_
  refine lv_lshl C.hx C.hb dL_law_750 rfl ?_
  refine l_sl (j := 3) (v := (3 : Int32)) C hB hX hbl (by omega) (by omega) rfl (lv_at hl 1 rfl) (lv_at hl 0 rfl) dL_law_751 dL_law_752 dL_law_753 (by decide) dL_law_754 dL_law_755 ?_
  refine lv_i2l C.hx C.hb dL_law_756 rfl ?_
  refine lv_ldc2 C.hx C.hb C.hown (C.hts _ tw_856) dL_law_757 ?_
  refine lv_land C.hx C.hb dL_law_760 ?_
  refine lv_lor C.hx C.hb dL_law_761 ?_
  refine l_xi hB (l_run C hB.gx [.int (xs (i + 1)), .long ((xs (i + 2)).toInt64 <<< ((32 : Int32).toInt64 &&& 63) ||| ((xs (i + 3)).toInt64 &&& 4294967295))] [] (cnX4_above l D cI cJ cV ax H.size hx) 0 rfl rfl tw_455 tw_456 tw_457 tw_33 tw_458 ⟨rfl, rfl⟩ hdX4_above ⟨Nat.le_of_ble_eq_true rfl, Nat.le_of_ble_eq_true rfl⟩ ⟨Nat.le_of_ble_eq_true rfl, Nat.le_of_ble_eq_true rfl⟩ hl.1 rfl (Nat.le_of_ble_eq_true rfl) dL_law_762) (fun H locs hB => ?_)
  refine lv_aload_n C.hx C.hb dL_law_765 rfl (lv_at hl 3 rfl) ?_
  refine l_sl (j := 1) (v := (1 : Int32)) C hB hX hbl (by omega) (by omega) rfl (lv_at hl 1 rfl) (lv_at hl 0 rfl) dL_law_766 dL_law_767 dL_law_768 (by decide) dL_law_769 dL_law_770 ?_
  refine l_sl (j := 2) (v := (2 : Int32)) C hB hX hbl (by omega) (by omega) rfl (lv_at hl 1 rfl) (lv_at hl 0 rfl) dL_law_771 dL_law_772 dL_law_773 (by decide) dL_law_774 dL_law_775 ?_
  refine lv_i2l C.hx C.hb dL_law_776 rfl ?_
  refine lv_bipush (v := (32 : Int32)) C.hx C.hb dL_law_777 (by decide) ?_
  refine lv_lshl C.hx C.hb dL_law_779 rfl ?_
  refine l_sl (j := 3) (v := (3 : Int32)) C hB hX hbl (by omega) (by omega) rfl (lv_at hl 1 rfl) (lv_at hl 0 rfl) dL_law_780 dL_law_781 dL_law_782 (by decide) dL_law_783 dL_law_784 ?_
  refine lv_i2l C.hx C.hb dL_law_785 rfl ?_
  refine lv_ldc2 C.hx C.hb C.hown (C.hts _ tw_856) dL_law_786 ?_
  refine lv_land C.hx C.hb dL_law_789 ?_
  refine lv_lor C.hx C.hb dL_law_790 ?_
  refine l_mi hB (l_run C hB.gm [.int (xs (i + 1)), .long ((xs (i + 2)).toInt64 <<< ((32 : Int32).toInt64 &&& 63) ||| ((xs (i + 3)).toInt64 &&& 4294967295))] [.int r] (cnX5_above l D cI cJ cZ am H.size hm) 0 rfl rfl tw_792 tw_793 tw_794 tw_38 tw_795 ⟨rfl, rfl⟩ hdX5_above ⟨Nat.le_of_ble_eq_true rfl, Nat.le_of_ble_eq_true rfl⟩ ⟨Nat.le_of_ble_eq_true rfl, Nat.le_of_ble_eq_true rfl⟩ hl.1 rfl (Nat.le_of_ble_eq_true rfl) dL_law_791) (fun H locs hB => ?_)
  exact lv_icmp_eq (tgt := 1043) C.hx C.hb dL_law_794 (by decide) (fun _ => kk n' H locs ls I' J' K' L' hB hc hl) (fun z => absurd rfl z)
set_option maxHeartbeats 4000000 in
set_option maxRecDepth 100000 in
theorem law_20 {p : Program} {l : Launch} {e : Env} {s : State} {m : MethodId} {args : Array Value} {below : List Frame} {meth : Method} {c : Code} {Q : State → Prop} {D : va_G} {cI cJ cV cZ : ClassId} {ax am : Nat → Nat} {ret : Option FieldType} (C : KX p s m args meth c RL cL_law 8 ret) {b N i n : Nat} {xs : Nat → Int32} (hX : va_X b N xs s s.heap) (hbl : b < s.heap.size) (hN : N ≤ 2048) (hi : i + 4 ≤ N) {H : Heap} {locs : List Loc} {ls : Array Slot} {I : TI} {J : TJ} {K : TI} {L : TJ} (hB : LB D cI cJ cV cZ ax am s H locs I J K L) (hC : Cp n I J K L) (hl : lv_has ls 8 [(3, .int (nI i)), (0, .ref b), (1, .ref (ax 0)), (2, .ref (am 0))]) (kk : lkk p l e s m args below meth c Q D cI cJ cV cZ ax am b i) : W p l e room_1 s m args below meth c H locs 600000 7302250 Q (F0 m 799 ls []) := by
  obtain ⟨r, I', J', K', L', n', hx, hm, hc⟩ := op_least hC (xs (i + 1)) ((xs (i + 2)).toInt64 <<< ((32 : Int32).toInt64 &&& 63) ||| ((xs (i + 3)).toInt64 &&& 4294967295))
  refine lv_aload_n C.hx C.hb dL_law_799 rfl (lv_at hl 2 rfl) ?_
  refine l_sl (j := 1) (v := (1 : Int32)) C hB hX hbl (by omega) (by omega) rfl (lv_at hl 1 rfl) (lv_at hl 0 rfl) dL_law_800 dL_law_801 dL_law_802 (by decide) dL_law_803 dL_law_804 ?_
  refine l_sl (j := 2) (v := (2 : Int32)) C hB hX hbl (by omega) (by omega) rfl (lv_at hl 1 rfl) (lv_at hl 0 rfl) dL_law_805 dL_law_806 dL_law_807 (by decide) dL_law_808 dL_law_809 ?_
  refine lv_i2l C.hx C.hb dL_law_810 rfl ?_
  refine lv_bipush (v := (32 : Int32)) C.hx C.hb dL_law_811 (by decide) ?_
  refine lv_lshl C.hx C.hb dL_law_813 rfl ?_
  refine l_sl (j := 3) (v := (3 : Int32)) C hB hX hbl (by omega) (by omega) rfl (lv_at hl 1 rfl) (lv_at hl 0 rfl) dL_law_814 dL_law_815 dL_law_816 (by decide) dL_law_817 dL_law_818 ?_
  refine lv_i2l C.hx C.hb dL_law_819 rfl ?_
  refine lv_ldc2 C.hx C.hb C.hown (C.hts _ tw_856) dL_law_820 ?_
  refine lv_land C.hx C.hb dL_law_823 ?_
  refine lv_lor C.hx C.hb dL_law_824 ?_
  refine l_xi hB (l_run C hB.gx [.int (xs (i + 1)), .long ((xs (i + 2)).toInt64 <<< ((32 : Int32).toInt64 &&& 63) ||| ((xs (i + 3)).toInt64 &&& 4294967295))] [] (cnX4_least l D cI cJ cV ax H.size hx) 0 rfl rfl tw_463 tw_464 tw_465 tw_33 tw_466 ⟨rfl, rfl⟩ hdX4_least ⟨Nat.le_of_ble_eq_true rfl, Nat.le_of_ble_eq_true rfl⟩ ⟨Nat.le_of_ble_eq_true rfl, Nat.le_of_ble_eq_true rfl⟩ hl.1 rfl (Nat.le_of_ble_eq_true rfl) dL_law_825) (fun H locs hB => ?_)
  refine lv_aload_n C.hx C.hb dL_law_828 rfl (lv_at hl 3 rfl) ?_
  refine l_sl (j := 1) (v := (1 : Int32)) C hB hX hbl (by omega) (by omega) rfl (lv_at hl 1 rfl) (lv_at hl 0 rfl) dL_law_829 dL_law_830 dL_law_831 (by decide) dL_law_832 dL_law_833 ?_
  refine l_sl (j := 2) (v := (2 : Int32)) C hB hX hbl (by omega) (by omega) rfl (lv_at hl 1 rfl) (lv_at hl 0 rfl) dL_law_834 dL_law_835 dL_law_836 (by decide) dL_law_837 dL_law_838 ?_
  refine lv_i2l C.hx C.hb dL_law_839 rfl ?_
  refine lv_bipush (v := (32 : Int32)) C.hx C.hb dL_law_840 (by decide) ?_
  refine lv_lshl C.hx C.hb dL_law_842 rfl ?_
  refine l_sl (j := 3) (v := (3 : Int32)) C hB hX hbl (by omega) (by omega) rfl (lv_at hl 1 rfl) (lv_at hl 0 rfl) dL_law_843 dL_law_844 dL_law_845 (by decide) dL_law_846 dL_law_847 ?_
  refine lv_i2l C.hx C.hb dL_law_848 rfl ?_
  refine lv_ldc2 C.hx C.hb C.hown (C.hts _ tw_856) dL_law_849 ?_
  refine lv_land C.hx C.hb dL_law_852 ?_
  refine lv_lor C.hx C.hb dL_law_853 ?_
  refine l_mi hB (l_run C hB.gm [.int (xs (i + 1)), .long ((xs (i + 2)).toInt64 <<< ((32 : Int32).toInt64 &&& 63) ||| ((xs (i + 3)).toInt64 &&& 4294967295))] [.int r] (cnX5_least l D cI cJ cZ am H.size hm) 0 rfl rfl tw_796 tw_797 tw_798 tw_38 tw_799 ⟨rfl, rfl⟩ hdX5_least ⟨Nat.le_of_ble_eq_true rfl, Nat.le_of_ble_eq_true rfl⟩ ⟨Nat.le_of_ble_eq_true rfl, Nat.le_of_ble_eq_true rfl⟩ hl.1 rfl (Nat.le_of_ble_eq_true rfl) dL_law_854) (fun H locs hB => ?_)
  exact lv_icmp_eq (tgt := 1043) C.hx C.hb dL_law_857 (by decide) (fun _ => kk n' H locs ls I' J' K' L' hB hc hl) (fun z => absurd rfl z)
set_option maxHeartbeats 4000000 in
set_option maxRecDepth 100000 in
theorem law_21 {p : Program} {l : Launch} {e : Env} {s : State} {m : MethodId} {args : Array Value} {below : List Frame} {meth : Method} {c : Code} {Q : State → Prop} {D : va_G} {cI cJ cV cZ : ClassId} {ax am : Nat → Nat} {ret : Option FieldType} (C : KX p s m args meth c RL cL_law 8 ret) {b N i n : Nat} {xs : Nat → Int32} (hX : va_X b N xs s s.heap) (hbl : b < s.heap.size) (hN : N ≤ 2048) (hi : i + 4 ≤ N) {H : Heap} {locs : List Loc} {ls : Array Slot} {I : TI} {J : TJ} {K : TI} {L : TJ} (hB : LB D cI cJ cV cZ ax am s H locs I J K L) (hC : Cp n I J K L) (hl : lv_has ls 8 [(3, .int (nI i)), (0, .ref b), (1, .ref (ax 0)), (2, .ref (am 0))]) (kk : lkk p l e s m args below meth c Q D cI cJ cV cZ ax am b i) : W p l e room_1 s m args below meth c H locs 600000 7302250 Q (F0 m 862 ls []) := by
  obtain ⟨r, I', J', K', L', n', hx, hm, hc⟩ := op_trim hC (xs (i + 1)) ((xs (i + 2)).toInt64 <<< ((32 : Int32).toInt64 &&& 63) ||| ((xs (i + 3)).toInt64 &&& 4294967295))
  refine lv_aload_n C.hx C.hb dL_law_862 rfl (lv_at hl 2 rfl) ?_
  refine l_sl (j := 1) (v := (1 : Int32)) C hB hX hbl (by omega) (by omega) rfl (lv_at hl 1 rfl) (lv_at hl 0 rfl) dL_law_863 dL_law_864 dL_law_865 (by decide) dL_law_866 dL_law_867 ?_
  refine l_sl (j := 2) (v := (2 : Int32)) C hB hX hbl (by omega) (by omega) rfl (lv_at hl 1 rfl) (lv_at hl 0 rfl) dL_law_868 dL_law_869 dL_law_870 (by decide) dL_law_871 dL_law_872 ?_
  refine lv_i2l C.hx C.hb dL_law_873 rfl ?_
  refine lv_bipush (v := (32 : Int32)) C.hx C.hb dL_law_874 (by decide) ?_
  refine lv_lshl C.hx C.hb dL_law_876 rfl ?_
  refine l_sl (j := 3) (v := (3 : Int32)) C hB hX hbl (by omega) (by omega) rfl (lv_at hl 1 rfl) (lv_at hl 0 rfl) dL_law_877 dL_law_878 dL_law_879 (by decide) dL_law_880 dL_law_881 ?_
  refine lv_i2l C.hx C.hb dL_law_882 rfl ?_
  refine lv_ldc2 C.hx C.hb C.hown (C.hts _ tw_856) dL_law_883 ?_
  refine lv_land C.hx C.hb dL_law_886 ?_
  refine lv_lor C.hx C.hb dL_law_887 ?_
  refine l_xi hB (l_run C hB.gx [.int (xs (i + 1)), .long ((xs (i + 2)).toInt64 <<< ((32 : Int32).toInt64 &&& 63) ||| ((xs (i + 3)).toInt64 &&& 4294967295))] [] (cnX4_trim l D cI cJ cV ax H.size hx) 0 rfl rfl tw_488 tw_489 tw_490 tw_33 tw_491 ⟨rfl, rfl⟩ hdX4_trim ⟨Nat.le_of_ble_eq_true rfl, Nat.le_of_ble_eq_true rfl⟩ ⟨Nat.le_of_ble_eq_true rfl, Nat.le_of_ble_eq_true rfl⟩ hl.1 rfl (Nat.le_of_ble_eq_true rfl) dL_law_888) (fun H locs hB => ?_)
  refine lv_aload_n C.hx C.hb dL_law_891 rfl (lv_at hl 3 rfl) ?_
  refine l_sl (j := 1) (v := (1 : Int32)) C hB hX hbl (by omega) (by omega) rfl (lv_at hl 1 rfl) (lv_at hl 0 rfl) dL_law_892 dL_law_893 dL_law_894 (by decide) dL_law_895 dL_law_896 ?_
  refine l_sl (j := 2) (v := (2 : Int32)) C hB hX hbl (by omega) (by omega) rfl (lv_at hl 1 rfl) (lv_at hl 0 rfl) dL_law_897 dL_law_898 dL_law_899 (by decide) dL_law_900 dL_law_901 ?_
  refine lv_i2l C.hx C.hb dL_law_902 rfl ?_
  refine lv_bipush (v := (32 : Int32)) C.hx C.hb dL_law_903 (by decide) ?_
  refine lv_lshl C.hx C.hb dL_law_905 rfl ?_
  refine l_sl (j := 3) (v := (3 : Int32)) C hB hX hbl (by omega) (by omega) rfl (lv_at hl 1 rfl) (lv_at hl 0 rfl) dL_law_906 dL_law_907 dL_law_908 (by decide) dL_law_909 dL_law_910 ?_
  refine lv_i2l C.hx C.hb dL_law_911 rfl ?_
  refine lv_ldc2 C.hx C.hb C.hown (C.hts _ tw_856) dL_law_912 ?_
  refine lv_land C.hx C.hb dL_law_915 ?_
  refine lv_lor C.hx C.hb dL_law_916 ?_
  refine l_mi hB (l_run C hB.gm [.int (xs (i + 1)), .long ((xs (i + 2)).toInt64 <<< ((32 : Int32).toInt64 &&& 63) ||| ((xs (i + 3)).toInt64 &&& 4294967295))] [.int r] (cnX5_trim l D cI cJ cZ am H.size hm) 0 rfl rfl tw_821 tw_822 tw_823 tw_38 tw_824 ⟨rfl, rfl⟩ hdX5_trim ⟨Nat.le_of_ble_eq_true rfl, Nat.le_of_ble_eq_true rfl⟩ ⟨Nat.le_of_ble_eq_true rfl, Nat.le_of_ble_eq_true rfl⟩ hl.1 rfl (Nat.le_of_ble_eq_true rfl) dL_law_917) (fun H locs hB => ?_)
  exact lv_icmp_eq (tgt := 1043) C.hx C.hb dL_law_920 (by decide) (fun _ => kk n' H locs ls I' J' K' L' hB hc hl) (fun z => absurd rfl z)
set_option maxHeartbeats 4000000 in
set_option maxRecDepth 100000 in
theorem law_22 {p : Program} {l : Launch} {e : Env} {s : State} {m : MethodId} {args : Array Value} {below : List Frame} {meth : Method} {c : Code} {Q : State → Prop} {D : va_G} {cI cJ cV cZ : ClassId} {ax am : Nat → Nat} {ret : Option FieldType} (C : KX p s m args meth c RL cL_law 8 ret) {b N i n : Nat} {xs : Nat → Int32} (hX : va_X b N xs s s.heap) (hbl : b < s.heap.size) (hN : N ≤ 2048) (hi : i + 4 ≤ N) {H : Heap} {locs : List Loc} {ls : Array Slot} {I : TI} {J : TJ} {K : TI} {L : TJ} (hB : LB D cI cJ cV cZ ax am s H locs I J K L) (hC : Cp n I J K L) (hl : lv_has ls 8 [(3, .int (nI i)), (0, .ref b), (1, .ref (ax 0)), (2, .ref (am 0))]) (kk : lkk p l e s m args below meth c Q D cI cJ cV cZ ax am b i) : W p l e room_1 s m args below meth c H locs 600000 7302250 Q (F0 m 925 ls []) := by
  obtain ⟨r, I', J', K', L', n', hx, hm, hc⟩ := op_floor hC (xs (i + 1))
  refine lv_aload_n C.hx C.hb dL_law_925 rfl (lv_at hl 2 rfl) ?_
  refine l_sl (j := 1) (v := (1 : Int32)) C hB hX hbl (by omega) (by omega) rfl (lv_at hl 1 rfl) (lv_at hl 0 rfl) dL_law_926 dL_law_927 dL_law_928 (by decide) dL_law_929 dL_law_930 ?_
  refine l_xl hB (l_run C hB.gx [.int (xs (i + 1))] [] (cnX4_floor l D cI cJ cV ax H.size hx) 0 rfl rfl tw_509 tw_510 tw_511 tw_33 tw_512 ⟨rfl, rfl⟩ hdX4_floor ⟨Nat.le_of_ble_eq_true rfl, Nat.le_of_ble_eq_true rfl⟩ ⟨Nat.le_of_ble_eq_true rfl, Nat.le_of_ble_eq_true rfl⟩ hl.1 rfl (Nat.le_of_ble_eq_true rfl) dL_law_931) (fun H locs hB => ?_)
  refine lv_aload_n C.hx C.hb dL_law_934 rfl (lv_at hl 3 rfl) ?_
  refine l_sl (j := 1) (v := (1 : Int32)) C hB hX hbl (by omega) (by omega) rfl (lv_at hl 1 rfl) (lv_at hl 0 rfl) dL_law_935 dL_law_936 dL_law_937 (by decide) dL_law_938 dL_law_939 ?_
  refine l_ml hB (l_run C hB.gm [.int (xs (i + 1))] [.long r] (cnX5_floor l D cI cJ cZ am H.size hm) 0 rfl rfl tw_825 tw_826 tw_827 tw_38 tw_828 ⟨rfl, rfl⟩ hdX5_floor ⟨Nat.le_of_ble_eq_true rfl, Nat.le_of_ble_eq_true rfl⟩ ⟨Nat.le_of_ble_eq_true rfl, Nat.le_of_ble_eq_true rfl⟩ hl.1 rfl (Nat.le_of_ble_eq_true rfl) dL_law_940) (fun H locs hB => ?_)
  refine W.lcmp C.hx C.hb dL_law_943 ?_
  exact lv_if_eq (tgt := 1043) C.hx C.hb dL_law_944 (by decide) (fun _ => kk n' H locs ls I' J' K' L' hB hc hl) (fun z => absurd ((lg_cmp_zero r r).mpr rfl) z)
set_option maxHeartbeats 4000000 in
set_option maxRecDepth 100000 in
theorem law_23 {p : Program} {l : Launch} {e : Env} {s : State} {m : MethodId} {args : Array Value} {below : List Frame} {meth : Method} {c : Code} {Q : State → Prop} {D : va_G} {cI cJ cV cZ : ClassId} {ax am : Nat → Nat} {ret : Option FieldType} (C : KX p s m args meth c RL cL_law 8 ret) {b N i n : Nat} {xs : Nat → Int32} (hX : va_X b N xs s s.heap) (hbl : b < s.heap.size) (hN : N ≤ 2048) (hi : i + 4 ≤ N) {H : Heap} {locs : List Loc} {ls : Array Slot} {I : TI} {J : TJ} {K : TI} {L : TJ} (hB : LB D cI cJ cV cZ ax am s H locs I J K L) (hC : Cp n I J K L) (hl : lv_has ls 8 [(3, .int (nI i)), (0, .ref b), (1, .ref (ax 0)), (2, .ref (am 0))]) (kk : lkk p l e s m args below meth c Q D cI cJ cV cZ ax am b i) : W p l e room_1 s m args below meth c H locs 600000 7302250 Q (F0 m 949 ls []) := by
  obtain ⟨r, I', J', K', L', n', hx, hm, hc⟩ := op_gain hC (xs (i + 1)) (xs (i + 2))
  refine lv_aload_n C.hx C.hb dL_law_949 rfl (lv_at hl 2 rfl) ?_
  refine l_sl (j := 1) (v := (1 : Int32)) C hB hX hbl (by omega) (by omega) rfl (lv_at hl 1 rfl) (lv_at hl 0 rfl) dL_law_950 dL_law_951 dL_law_952 (by decide) dL_law_953 dL_law_954 ?_
  refine l_sl (j := 2) (v := (2 : Int32)) C hB hX hbl (by omega) (by omega) rfl (lv_at hl 1 rfl) (lv_at hl 0 rfl) dL_law_955 dL_law_956 dL_law_957 (by decide) dL_law_958 dL_law_959 ?_
  refine l_xl hB (l_run C hB.gx [.int (xs (i + 1)), .int (xs (i + 2))] [] (cnX4_gain l D cI cJ cV ax H.size hx) 0 rfl rfl tw_514 tw_515 tw_516 tw_33 tw_517 ⟨rfl, rfl⟩ hdX4_gain ⟨Nat.le_of_ble_eq_true rfl, Nat.le_of_ble_eq_true rfl⟩ ⟨Nat.le_of_ble_eq_true rfl, Nat.le_of_ble_eq_true rfl⟩ hl.1 rfl (Nat.le_of_ble_eq_true rfl) dL_law_960) (fun H locs hB => ?_)
  refine lv_aload_n C.hx C.hb dL_law_963 rfl (lv_at hl 3 rfl) ?_
  refine l_sl (j := 1) (v := (1 : Int32)) C hB hX hbl (by omega) (by omega) rfl (lv_at hl 1 rfl) (lv_at hl 0 rfl) dL_law_964 dL_law_965 dL_law_966 (by decide) dL_law_967 dL_law_968 ?_
  refine l_sl (j := 2) (v := (2 : Int32)) C hB hX hbl (by omega) (by omega) rfl (lv_at hl 1 rfl) (lv_at hl 0 rfl) dL_law_969 dL_law_970 dL_law_971 (by decide) dL_law_972 dL_law_973 ?_
  refine l_ml hB (l_run C hB.gm [.int (xs (i + 1)), .int (xs (i + 2))] [.long r] (cnX5_gain l D cI cJ cZ am H.size hm) 0 rfl rfl tw_829 tw_830 tw_831 tw_38 tw_832 ⟨rfl, rfl⟩ hdX5_gain ⟨Nat.le_of_ble_eq_true rfl, Nat.le_of_ble_eq_true rfl⟩ ⟨Nat.le_of_ble_eq_true rfl, Nat.le_of_ble_eq_true rfl⟩ hl.1 rfl (Nat.le_of_ble_eq_true rfl) dL_law_974) (fun H locs hB => ?_)
  refine W.lcmp C.hx C.hb dL_law_977 ?_
  exact lv_if_eq (tgt := 1043) C.hx C.hb dL_law_978 (by decide) (fun _ => kk n' H locs ls I' J' K' L' hB hc hl) (fun z => absurd ((lg_cmp_zero r r).mpr rfl) z)
set_option maxHeartbeats 4000000 in
set_option maxRecDepth 100000 in
theorem law_24 {p : Program} {l : Launch} {e : Env} {s : State} {m : MethodId} {args : Array Value} {below : List Frame} {meth : Method} {c : Code} {Q : State → Prop} {D : va_G} {cI cJ cV cZ : ClassId} {ax am : Nat → Nat} {ret : Option FieldType} (C : KX p s m args meth c RL cL_law 8 ret) {b N i n : Nat} {xs : Nat → Int32} (hX : va_X b N xs s s.heap) (hbl : b < s.heap.size) (hN : N ≤ 2048) (hi : i + 4 ≤ N) {H : Heap} {locs : List Loc} {ls : Array Slot} {I : TI} {J : TJ} {K : TI} {L : TJ} (hB : LB D cI cJ cV cZ ax am s H locs I J K L) (hC : Cp n I J K L) (hl : lv_has ls 8 [(3, .int (nI i)), (0, .ref b), (1, .ref (ax 0)), (2, .ref (am 0))]) (kk : lkk p l e s m args below meth c Q D cI cJ cV cZ ax am b i) : W p l e room_1 s m args below meth c H locs 600000 7302250 Q (F0 m 983 ls []) := by
  obtain ⟨r, I', J', K', L', n', hx, hm, hc⟩ := op_blame hC (xs (i + 1))
  refine lv_aload_n C.hx C.hb dL_law_983 rfl (lv_at hl 2 rfl) ?_
  refine l_sl (j := 1) (v := (1 : Int32)) C hB hX hbl (by omega) (by omega) rfl (lv_at hl 1 rfl) (lv_at hl 0 rfl) dL_law_984 dL_law_985 dL_law_986 (by decide) dL_law_987 dL_law_988 ?_
  refine l_xi hB (l_run C hB.gx [.int (xs (i + 1))] [] (cnX4_blame l D cI cJ cV ax H.size hx) 0 rfl rfl tw_523 tw_524 tw_525 tw_33 tw_526 ⟨rfl, rfl⟩ hdX4_blame ⟨Nat.le_of_ble_eq_true rfl, Nat.le_of_ble_eq_true rfl⟩ ⟨Nat.le_of_ble_eq_true rfl, Nat.le_of_ble_eq_true rfl⟩ hl.1 rfl (Nat.le_of_ble_eq_true rfl) dL_law_989) (fun H locs hB => ?_)
  refine lv_aload_n C.hx C.hb dL_law_992 rfl (lv_at hl 3 rfl) ?_
  refine l_sl (j := 1) (v := (1 : Int32)) C hB hX hbl (by omega) (by omega) rfl (lv_at hl 1 rfl) (lv_at hl 0 rfl) dL_law_993 dL_law_994 dL_law_995 (by decide) dL_law_996 dL_law_997 ?_
  refine l_mi hB (l_run C hB.gm [.int (xs (i + 1))] [.int r] (cnX5_blame l D cI cJ cZ am H.size hm) 0 rfl rfl tw_837 tw_838 tw_839 tw_38 tw_840 ⟨rfl, rfl⟩ hdX5_blame ⟨Nat.le_of_ble_eq_true rfl, Nat.le_of_ble_eq_true rfl⟩ ⟨Nat.le_of_ble_eq_true rfl, Nat.le_of_ble_eq_true rfl⟩ hl.1 rfl (Nat.le_of_ble_eq_true rfl) dL_law_998) (fun H locs hB => ?_)
  exact lv_icmp_eq (tgt := 1043) C.hx C.hb dL_law_1001 (by decide) (fun _ => kk n' H locs ls I' J' K' L' hB hc hl) (fun z => absurd rfl z)
set_option maxHeartbeats 4000000 in
set_option maxRecDepth 100000 in
theorem law_25 {p : Program} {l : Launch} {e : Env} {s : State} {m : MethodId} {args : Array Value} {below : List Frame} {meth : Method} {c : Code} {Q : State → Prop} {D : va_G} {cI cJ cV cZ : ClassId} {ax am : Nat → Nat} {ret : Option FieldType} (C : KX p s m args meth c RL cL_law 8 ret) {b N i n : Nat} {xs : Nat → Int32} (hX : va_X b N xs s s.heap) (hbl : b < s.heap.size) (hN : N ≤ 2048) (hi : i + 4 ≤ N) {H : Heap} {locs : List Loc} {ls : Array Slot} {I : TI} {J : TJ} {K : TI} {L : TJ} (hB : LB D cI cJ cV cZ ax am s H locs I J K L) (hC : Cp n I J K L) (hl : lv_has ls 8 [(3, .int (nI i)), (0, .ref b), (1, .ref (ax 0)), (2, .ref (am 0))]) (kk : lkk p l e s m args below meth c Q D cI cJ cV cZ ax am b i) : W p l e room_1 s m args below meth c H locs 600000 7302250 Q (F0 m 1006 ls []) := by
  obtain ⟨r, I', J', K', L', n', hx, hm, hc⟩ := op_count hC (xs (i + 1))
  refine lv_aload_n C.hx C.hb dL_law_1006 rfl (lv_at hl 2 rfl) ?_
  refine l_sl (j := 1) (v := (1 : Int32)) C hB hX hbl (by omega) (by omega) rfl (lv_at hl 1 rfl) (lv_at hl 0 rfl) dL_law_1007 dL_law_1008 dL_law_1009 (by decide) dL_law_1010 dL_law_1011 ?_
  refine l_xi hB (l_run C hB.gx [.int (xs (i + 1))] [] (cnX4_count l D cI cJ cV ax H.size hx) 0 rfl rfl tw_532 tw_533 tw_534 tw_33 tw_535 ⟨rfl, rfl⟩ hdX4_count ⟨Nat.le_of_ble_eq_true rfl, Nat.le_of_ble_eq_true rfl⟩ ⟨Nat.le_of_ble_eq_true rfl, Nat.le_of_ble_eq_true rfl⟩ hl.1 rfl (Nat.le_of_ble_eq_true rfl) dL_law_1012) (fun H locs hB => ?_)
  refine lv_aload_n C.hx C.hb dL_law_1015 rfl (lv_at hl 3 rfl) ?_
  refine l_sl (j := 1) (v := (1 : Int32)) C hB hX hbl (by omega) (by omega) rfl (lv_at hl 1 rfl) (lv_at hl 0 rfl) dL_law_1016 dL_law_1017 dL_law_1018 (by decide) dL_law_1019 dL_law_1020 ?_
  refine l_mi hB (l_run C hB.gm [.int (xs (i + 1))] [.int r] (cnX5_count l D cI cJ cZ am H.size hm) 0 rfl rfl tw_841 tw_842 tw_843 tw_38 tw_844 ⟨rfl, rfl⟩ hdX5_count ⟨Nat.le_of_ble_eq_true rfl, Nat.le_of_ble_eq_true rfl⟩ ⟨Nat.le_of_ble_eq_true rfl, Nat.le_of_ble_eq_true rfl⟩ hl.1 rfl (Nat.le_of_ble_eq_true rfl) dL_law_1021) (fun H locs hB => ?_)
  exact lv_icmp_eq (tgt := 1043) C.hx C.hb dL_law_1024 (by decide) (fun _ => kk n' H locs ls I' J' K' L' hB hc hl) (fun z => absurd rfl z)
set_option maxHeartbeats 4000000 in
set_option maxRecDepth 100000 in
theorem law_26 {p : Program} {l : Launch} {e : Env} {s : State} {m : MethodId} {args : Array Value} {below : List Frame} {meth : Method} {c : Code} {Q : State → Prop} {D : va_G} {cI cJ cV cZ : ClassId} {ax am : Nat → Nat} {ret : Option FieldType} (C : KX p s m args meth c RL cL_law 8 ret) {b N i n : Nat} {xs : Nat → Int32} (hX : va_X b N xs s s.heap) (hbl : b < s.heap.size) (hN : N ≤ 2048) (hi : i + 4 ≤ N) {H : Heap} {locs : List Loc} {ls : Array Slot} {I : TI} {J : TJ} {K : TI} {L : TJ} (hB : LB D cI cJ cV cZ ax am s H locs I J K L) (hC : Cp n I J K L) (hl : lv_has ls 8 [(3, .int (nI i)), (0, .ref b), (1, .ref (ax 0)), (2, .ref (am 0))]) (kk : lkk p l e s m args below meth c Q D cI cJ cV cZ ax am b i) : W p l e room_1 s m args below meth c H locs 600000 7302250 Q (F0 m 1029 ls []) := by
  obtain ⟨r, I', J', K', L', n', hx, hm, hc⟩ := op_digest hC 
  refine lv_aload_n C.hx C.hb dL_law_1029 rfl (lv_at hl 2 rfl) ?_
  refine l_xl hB (l_run C hB.gx [] [] (cnX4_digest l D cI cJ cV ax H.size hx) 0 rfl rfl tw_541 tw_542 tw_543 tw_33 tw_544 ⟨rfl, rfl⟩ hdX4_digest ⟨Nat.le_of_ble_eq_true rfl, Nat.le_of_ble_eq_true rfl⟩ ⟨Nat.le_of_ble_eq_true rfl, Nat.le_of_ble_eq_true rfl⟩ hl.1 rfl (Nat.le_of_ble_eq_true rfl) dL_law_1030) (fun H locs hB => ?_)
  refine lv_aload_n C.hx C.hb dL_law_1033 rfl (lv_at hl 3 rfl) ?_
  refine l_ml hB (l_run C hB.gm [] [.long r] (cnX5_digest l D cI cJ cZ am H.size hm) 0 rfl rfl tw_845 tw_846 tw_847 tw_38 tw_848 ⟨rfl, rfl⟩ hdX5_digest ⟨Nat.le_of_ble_eq_true rfl, Nat.le_of_ble_eq_true rfl⟩ ⟨Nat.le_of_ble_eq_true rfl, Nat.le_of_ble_eq_true rfl⟩ hl.1 rfl (Nat.le_of_ble_eq_true rfl) dL_law_1034) (fun H locs hB => ?_)
  refine W.lcmp C.hx C.hb dL_law_1037 ?_
  exact lv_if_eq (tgt := 1043) C.hx C.hb dL_law_1038 (by decide) (fun _ => kk n' H locs ls I' J' K' L' hB hc hl) (fun z => absurd ((lg_cmp_zero r r).mpr rfl) z)
