/-! THE LAW: its two worlds side by side -/
def LB (D : va_G) (cI cJ cV cZ : ClassId) (ax am : Nat → Nat) (s : State) (H : Heap) (locs : List Loc) (I : TI) (J : TJ) (K : TI) (L : TJ) : Prop :=
  va_P D classes (xw cI cJ cV ax I J) H ∧ va_P D classes (mw cI cJ cZ am K L) H ∧ va_D (fun _ => True) (xw cI cJ cV ax I J) ∧ va_D (fun _ => True) (mw cI cJ cZ am K L) ∧ (∀ q, q ∈ xL ax → q ∉ mL am) ∧ (∀ q, q ∈ xL ax → s.heap.size ≤ q) ∧ (∀ q, q ∈ mL am → s.heap.size ≤ q) ∧ va_K D classes (nt cI cJ cV cZ) s ∧ va_S (fun q => s.heap.size ≤ q) s.heap H locs ∧ xN s
section LX
variable {p : Program} {l : Launch} {e : Env} {R : Room} {s : State} {m : MethodId} {args : Array Value} {below : List Frame} {meth : Method} {c : Code} {H : Heap} {locs : List Loc} {Q : State → Prop} {cells slots : Nat}
variable {own : String} {cc : ByteArray} {nL : Nat} {ret : Option FieldType} {D : va_G} {cI cJ cV cZ : ClassId} {ax am : Nat → Nat} {I I' K K' : TI} {J J' L L' : TJ}
variable {pc : Nat} {ls : Array Slot} {rest st0 : List Value}
theorem LB.gx (h : LB D cI cJ cV cZ ax am s H locs I J K L) : GB D (xw cI cJ cV ax) (xt cI cJ cV) (xL ax) s H locs I J := by
  obtain ⟨h1, h2, h3, h4, h5, h6, h7, h8, h9, h10⟩ := h
  exact ⟨h1, h3.weaken (fun k q hk _ => Or.inl (xw_WL I J k q hk)), h8.sub [0, 1, 2] rfl, ⟨h9.1, fun q a b => h9.2.1 q a (fun z => b (Or.inr z)), fun q hq => Or.inr (h9.2.2 q hq)⟩, h10⟩
theorem LB.gm (h : LB D cI cJ cV cZ ax am s H locs I J K L) : GB D (mw cI cJ cZ am) (mt cI cJ cZ) (mL am) s H locs K L := by
  obtain ⟨h1, h2, h3, h4, h5, h6, h7, h8, h9, h10⟩ := h
  exact ⟨h2, h4.weaken (fun k q hk _ => Or.inl (mw_WL K L k q hk)), h8.sub [0, 1, 3] rfl, ⟨h9.1, fun q a b => h9.2.1 q a (fun z => b (Or.inr z)), fun q hq => Or.inr (h9.2.2 q hq)⟩, h10⟩
theorem LB.x (h : LB D cI cJ cV cZ ax am s H locs I J K L) {t : State} {H1 : Heap} {locs1 : List Loc} (ht : t.heap = H1) (hP : gPost D (xw cI cJ cV ax) (xt cI cJ cV) (xL ax) H.size (I', J') t) (hk : ∀ q : Nat, q < H.size → ¬ gA (xL ax) H.size q → H1[q]? = H[q]?) (hS : va_S (fun q => s.heap.size ≤ q) s.heap H1 locs1) : LB D cI cJ cV cZ ax am s H1 locs1 I' J' K L := by
  obtain ⟨h1, h2, h3, h4, h5, h6, h7, h8, h9, h10⟩ := h
  obtain ⟨p1, p2, p3⟩ := hP
  rw [ht] at p1
  refine ⟨p1, h2.kept (fun k q hq => ?_), p3.weaken (fun _ _ _ _ => trivial), h4, h5, h6, h7, h8, hS, h10⟩
  have lt := (h2 k q hq).lt
  refine hk q.1 lt (fun z => ?_)
  rcases z with z | z
  · exact h5 q.1 z (mw_WL K L k q hq)
  · omega
theorem LB.mm (h : LB D cI cJ cV cZ ax am s H locs I J K L) {t : State} {H1 : Heap} {locs1 : List Loc} (ht : t.heap = H1) (hP : gPost D (mw cI cJ cZ am) (mt cI cJ cZ) (mL am) H.size (K', L') t) (hk : ∀ q : Nat, q < H.size → ¬ gA (mL am) H.size q → H1[q]? = H[q]?) (hS : va_S (fun q => s.heap.size ≤ q) s.heap H1 locs1) : LB D cI cJ cV cZ ax am s H1 locs1 I J K' L' := by
  obtain ⟨h1, h2, h3, h4, h5, h6, h7, h8, h9, h10⟩ := h
  obtain ⟨p1, p2, p3⟩ := hP
  rw [ht] at p1
  refine ⟨h1.kept (fun k q hq => ?_), p1, h3, p3.weaken (fun _ _ _ _ => trivial), h5, h6, h7, h8, hS, h10⟩
  have lt := (h1 k q hq).lt
  refine hk q.1 lt (fun z => ?_)
  rcases z with z | z
  · exact h5 q.1 (xw_WL I J k q hq) z
  · omega
theorem LB.fx (h : LB D cI cJ cV cZ ax am s H locs I J K L) : ∀ q, gA (xL ax) H.size q → s.heap.size ≤ q := fun q z => by
  rcases z with z | z
  · exact h.2.2.2.2.2.1 q z
  · exact Nat.le_trans h.2.2.2.2.2.2.2.2.1.1 z
theorem LB.fm (h : LB D cI cJ cV cZ ax am s H locs I J K L) : ∀ q, gA (mL am) H.size q → s.heap.size ≤ q := fun q z => by
  rcases z with z | z
  · exact h.2.2.2.2.2.2.1 q z
  · exact Nat.le_trans h.2.2.2.2.2.2.2.2.1.1 z
variable {y : MethodName} {cy : ByteArray} {ny : Nat} {rety : Option FieldType} {rm : Room} {Qc : Array Value → State → Outcome → State → Prop} {free : Addr → Prop} {index : Nat} {As : List Value}
theorem l_run {wd : TI → TJ → va_W} {tys : List (ClassId × FieldType)} {Ls : List Nat} (C : KX p s m args meth c own cc nL ret) (hB : GB D wd tys Ls s H locs I J) (As : List Value) (rest : List Value) {b ci : Nat} {fs : List Value} {q : vw_C} (hM : Met l y (wsm y cy ny rety) rm (va_Pc (.ref b :: As) (gPre D wd tys H.size I J)) Qc 0 0 free) (q0 : Nat) (he : (wd I J)[q0]? = some (b, .inr (ci, fs))) (hc : classes[ci]? = some q)
    (h1 : Cond.methodLink own index y ∈ lw_gd) (h2 : Cond.instanceMethod y ∈ lw_gd) (h3 : Cond.selects q.1 y y ∈ lw_gd) (h4 : Cond.initialized q.1 ∈ lw_gd) (h : Cond.code y cy ny rety ∈ lw_gd) (hrm : rm.cells = 0 ∧ rm.slots = 0) (hd : y.cls = q.1 ∧ y.cls ≠ "java/lang/invoke/MethodHandle" ∧ y.cls ≠ "java/lang/invoke/VarHandle" ∧ (parseMethodDescriptor y.desc).map (fun d => d.parameters.length) = some As.length) (hR : rm.frames + 1 ≤ R.frames ∧ 8 + (ny + 11) + rm.locals ≤ R.locals) (hcs : cells ≤ R.cells ∧ slots ≤ R.slots) (hsz : ls.size = nL) (hst : st0 = As.reverse ++ .ref b :: rest) (hW : (rest.map fun v => v.category).sum ≤ 8) (hdg : decode cc pc = .ok (.invokevirtual index, 3)) : va_Run p l e R s m args below meth c H locs cells slots 0 0 (F0 m pc ls st0) rest (Qc (Value.ref b :: As).toArray) free := by
  subst hst
  exact va_runV C.fix hM (cwV As.length C.hts (good_V h1 h2 h3 h4 h) rfl hrm.1 hrm.2 hd hR) ⟨gpre_blind, va_recv hB.K hB.P hc he, gpre_at hB⟩ rfl rfl hsz rfl (lv_room hW) hdg hcs
theorem l_xi (hB : LB D cI cJ cV cZ ax am s H locs I J K L) {a : Array Value} {r : Int32} (hr : va_Run p l e R s m args below meth c H locs cells slots 0 0 (F0 m pc ls st0) rest (gQi D (xw cI cJ cV ax) (xt cI cJ cV) (xL ax) H.size (r, I', J') a) (gA (xL ax) H.size)) (kk : ∀ (H1 : Heap) (locs1 : List Loc), LB D cI cJ cV cZ ax am s H1 locs1 I' J' K L → W p l e R s m args below meth c H1 locs1 cells slots Q (F0 m (pc + 3) ls (.int r :: rest))) : W p l e R s m args below meth c H locs cells slots Q (F0 m pc ls st0) := by
  refine va_calli hr hB.2.2.2.2.2.2.2.2.1 (fun q _ h => hB.fx q h) hB.fx (fun r' u t H1 locs1 ht hvm hw hBt hz hk hS => ?_)
  cases hw
  exact kk H1 locs1 (hB.x ht hBt hk hS)
theorem l_mi (hB : LB D cI cJ cV cZ ax am s H locs I J K L) {a : Array Value} {r : Int32} (hr : va_Run p l e R s m args below meth c H locs cells slots 0 0 (F0 m pc ls st0) rest (gQi D (mw cI cJ cZ am) (mt cI cJ cZ) (mL am) H.size (r, K', L') a) (gA (mL am) H.size)) (kk : ∀ (H1 : Heap) (locs1 : List Loc), LB D cI cJ cV cZ ax am s H1 locs1 I J K' L' → W p l e R s m args below meth c H1 locs1 cells slots Q (F0 m (pc + 3) ls (.int r :: rest))) : W p l e R s m args below meth c H locs cells slots Q (F0 m pc ls st0) := by
  refine va_calli hr hB.2.2.2.2.2.2.2.2.1 (fun q _ h => hB.fm q h) hB.fm (fun r' u t H1 locs1 ht hvm hw hBt hz hk hS => ?_)
  cases hw
  exact kk H1 locs1 (hB.mm ht hBt hk hS)
theorem l_xl (hB : LB D cI cJ cV cZ ax am s H locs I J K L) {a : Array Value} {r : Int64} (hr : va_Run p l e R s m args below meth c H locs cells slots 0 0 (F0 m pc ls st0) rest (gQl D (xw cI cJ cV ax) (xt cI cJ cV) (xL ax) H.size (r, I', J') a) (gA (xL ax) H.size)) (kk : ∀ (H1 : Heap) (locs1 : List Loc), LB D cI cJ cV cZ ax am s H1 locs1 I' J' K L → W p l e R s m args below meth c H1 locs1 cells slots Q (F0 m (pc + 3) ls (.long r :: rest))) : W p l e R s m args below meth c H locs cells slots Q (F0 m pc ls st0) := by
  refine va_calll hr hB.2.2.2.2.2.2.2.2.1 (fun q _ h => hB.fx q h) hB.fx (fun r' u t H1 locs1 ht hvm hw hBt hz hk hS => ?_)
  cases hw
  exact kk H1 locs1 (hB.x ht hBt hk hS)
theorem l_ml (hB : LB D cI cJ cV cZ ax am s H locs I J K L) {a : Array Value} {r : Int64} (hr : va_Run p l e R s m args below meth c H locs cells slots 0 0 (F0 m pc ls st0) rest (gQl D (mw cI cJ cZ am) (mt cI cJ cZ) (mL am) H.size (r, K', L') a) (gA (mL am) H.size)) (kk : ∀ (H1 : Heap) (locs1 : List Loc), LB D cI cJ cV cZ ax am s H1 locs1 I J K' L' → W p l e R s m args below meth c H1 locs1 cells slots Q (F0 m (pc + 3) ls (.long r :: rest))) : W p l e R s m args below meth c H locs cells slots Q (F0 m pc ls st0) := by
  refine va_calll hr hB.2.2.2.2.2.2.2.2.1 (fun q _ h => hB.fm q h) hB.fm (fun r' u t H1 locs1 ht hvm hw hBt hz hk hS => ?_)
  cases hw
  exact kk H1 locs1 (hB.mm ht hBt hk hS)
theorem l_xd (hB : LB D cI cJ cV cZ ax am s H locs I J K L) {a : Array Value} {r : UInt64} (hr : va_Run p l e R s m args below meth c H locs cells slots 0 0 (F0 m pc ls st0) rest (gQd D (xw cI cJ cV ax) (xt cI cJ cV) (xL ax) H.size (r, I', J') a) (gA (xL ax) H.size)) (kk : ∀ (H1 : Heap) (locs1 : List Loc), LB D cI cJ cV cZ ax am s H1 locs1 I' J' K L → W p l e R s m args below meth c H1 locs1 cells slots Q (F0 m (pc + 3) ls (.double r :: rest))) : W p l e R s m args below meth c H locs cells slots Q (F0 m pc ls st0) := by
  refine va_calld hr hB.2.2.2.2.2.2.2.2.1 (fun q _ h => hB.fx q h) hB.fx (fun r' u t H1 locs1 ht hvm hw hBt hz hk hS => ?_)
  cases hw
  exact kk H1 locs1 (hB.x ht hBt hk hS)
theorem l_md (hB : LB D cI cJ cV cZ ax am s H locs I J K L) {a : Array Value} {r : UInt64} (hr : va_Run p l e R s m args below meth c H locs cells slots 0 0 (F0 m pc ls st0) rest (gQd D (mw cI cJ cZ am) (mt cI cJ cZ) (mL am) H.size (r, K', L') a) (gA (mL am) H.size)) (kk : ∀ (H1 : Heap) (locs1 : List Loc), LB D cI cJ cV cZ ax am s H1 locs1 I J K' L' → W p l e R s m args below meth c H1 locs1 cells slots Q (F0 m (pc + 3) ls (.double r :: rest))) : W p l e R s m args below meth c H locs cells slots Q (F0 m pc ls st0) := by
  refine va_calld hr hB.2.2.2.2.2.2.2.2.1 (fun q _ h => hB.fm q h) hB.fm (fun r' u t H1 locs1 ht hvm hw hBt hz hk hS => ?_)
  cases hw
  exact kk H1 locs1 (hB.mm ht hBt hk hS)
theorem l_xf (hB : LB D cI cJ cV cZ ax am s H locs I J K L) {a : Array Value} {r : UInt32} (hr : va_Run p l e R s m args below meth c H locs cells slots 0 0 (F0 m pc ls st0) rest (gQf D (xw cI cJ cV ax) (xt cI cJ cV) (xL ax) H.size (r, I', J') a) (gA (xL ax) H.size)) (kk : ∀ (H1 : Heap) (locs1 : List Loc), LB D cI cJ cV cZ ax am s H1 locs1 I' J' K L → W p l e R s m args below meth c H1 locs1 cells slots Q (F0 m (pc + 3) ls (.float r :: rest))) : W p l e R s m args below meth c H locs cells slots Q (F0 m pc ls st0) := by
  refine va_callf hr hB.2.2.2.2.2.2.2.2.1 (fun q _ h => hB.fx q h) hB.fx (fun r' u t H1 locs1 ht hvm hw hBt hz hk hS => ?_)
  cases hw
  exact kk H1 locs1 (hB.x ht hBt hk hS)
theorem l_mf (hB : LB D cI cJ cV cZ ax am s H locs I J K L) {a : Array Value} {r : UInt32} (hr : va_Run p l e R s m args below meth c H locs cells slots 0 0 (F0 m pc ls st0) rest (gQf D (mw cI cJ cZ am) (mt cI cJ cZ) (mL am) H.size (r, K', L') a) (gA (mL am) H.size)) (kk : ∀ (H1 : Heap) (locs1 : List Loc), LB D cI cJ cV cZ ax am s H1 locs1 I J K' L' → W p l e R s m args below meth c H1 locs1 cells slots Q (F0 m (pc + 3) ls (.float r :: rest))) : W p l e R s m args below meth c H locs cells slots Q (F0 m pc ls st0) := by
  refine va_callf hr hB.2.2.2.2.2.2.2.2.1 (fun q _ h => hB.fm q h) hB.fm (fun r' u t H1 locs1 ht hvm hw hBt hz hk hS => ?_)
  cases hw
  exact kk H1 locs1 (hB.mm ht hBt hk hS)
/-- a word of the script, five instructions -/
theorem l_sl (C : KX p s m args meth c own cc nL ret) (hB : LB D cI cJ cV cZ ax am s H locs I J K L) {b N : Nat} {xs : Nat → Int32} (hX : va_X b N xs s s.heap) (hbl : b < s.heap.size) {i j : Nat} (hij : i + j < N) (hN : N ≤ 4096) {v : Int32} (hv : v = nI j) (h0 : ls[0]? = some (.val (.ref b))) (h3 : ls[3]? = some (.val (.int (nI i)))) (d0 : decode cc pc = .ok (.aload_n 0, 1)) (d1 : decode cc (pc + 1) = .ok (.iload_n 3, 1)) {k : Int} (d2 : decode cc (pc + 1 + 1) = .ok (.iconst k, 1)) (hk : Int32.ofInt k = v) (d3 : decode cc (pc + 1 + 1 + 1) = .ok (.iadd, 1)) (d4 : decode cc (pc + 1 + 1 + 1 + 1) = .ok (.iaload, 1))
    (kk : W p l e R s m args below meth c H locs cells slots Q (F0 m (pc + 1 + 1 + 1 + 1 + 1) ls (.int (xs (i + j)) :: rest))) : W p l e R s m args below meth c H locs cells slots Q (F0 m pc ls rest) := by
  refine lv_aload_n C.hx C.hb d0 rfl h0 ?_
  refine lv_iload_n C.hx C.hb d1 rfl h3 ?_
  refine lv_iconst (v := v) C.hx C.hb d2 hk ?_
  refine lv_iadd C.hx C.hb d3 ?_
  have e : nI i + v = nI (i + j) := by rw [hv, nI_add]
  rw [e]
  refine va_sld C.hx C.hb hX hbl (Nat.not_le.mpr hbl) hB.2.2.2.2.2.2.2.2.1 (nI_in hij (by omega)) d4 ?_
  rw [nI_clamp (by omega)]
  exact kk
end LX
