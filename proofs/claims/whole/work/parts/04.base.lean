/-! BASE: words, the generic world bundle GB, rows over it, calls over it -/
def lw_gd : List Cond := lw_tbl.filter goodWord
theorem gd_of {w : Cond} (h : w ∈ lw_tbl) (g : goodWord w = true) : w ∈ lw_gd := List.mem_filter.mpr ⟨h, g⟩
theorem gd_good {w : Cond} (h : w ∈ lw_gd) : (w.onTables && w.keeps) = true ∨ ∃ ty, w = .arrayClass ty := good_of_word (List.mem_filter.mp h).2
theorem gd_tbl {args : Array Value} {s : State} (hts : ∀ w ∈ lw_tbl, w.before args s = true) : ∀ w ∈ lw_gd, w.before args s = true := fun w h => hts w (List.mem_filter.mp h).1
def wsm (y : MethodName) (cc : ByteArray) (nL : Nat) (ret : Option FieldType) : List Cond := .code y cc nL ret :: lw_gd
theorem good_wsm {y : MethodName} {cc : ByteArray} {nL : Nat} {ret : Option FieldType} (h : Cond.code y cc nL ret ∈ lw_gd) : GoodIn lw_gd (wsm y cc nL ret) := fun w hw => by
  rcases List.mem_cons.mp hw with rfl | hw
  · exact ⟨h, gd_good h⟩
  · exact ⟨hw, gd_good hw⟩
theorem good_V {own C : String} {idx : Nat} {y : MethodName} {cc : ByteArray} {nL : Nat} {ret : Option FieldType} (h1 : Cond.methodLink own idx y ∈ lw_gd) (h2 : Cond.instanceMethod y ∈ lw_gd) (h3 : Cond.selects C y y ∈ lw_gd) (h4 : Cond.initialized C ∈ lw_gd) (h : Cond.code y cc nL ret ∈ lw_gd) : GoodIn lw_gd (wsV own idx C y (wsm y cc nL ret)) := fun w hw => by
  unfold wsV at hw
  rcases List.mem_append.mp hw with hw | hw
  · have : w ∈ lw_gd := by
      simp only [List.mem_cons, List.not_mem_nil, or_false] at hw
      rcases hw with rfl | rfl | rfl | rfl <;> assumption
    exact ⟨this, gd_good this⟩
  · exact good_wsm h w hw
theorem good_S {own : String} {idx : Nat} {y : MethodName} {cc : ByteArray} {nL : Nat} {ret : Option FieldType} (h1 : Cond.methodLink own idx y ∈ lw_gd) (h2 : Cond.static y ∈ lw_gd) (h4 : Cond.initialized own ∈ lw_gd) (h : Cond.code y cc nL ret ∈ lw_gd) : GoodIn lw_gd (wsS own idx y (wsm y cc nL ret)) := fun w hw => by
  unfold wsS at hw
  rcases List.mem_append.mp hw with hw | hw
  · have : w ∈ lw_gd := by
      simp only [List.mem_cons, List.not_mem_nil, or_false] at hw
      rcases hw with rfl | rfl | rfl <;> assumption
    exact ⟨this, gd_good this⟩
  · exact good_wsm h w hw
-- the classes whose objects the worlds hold
abbrev classes : List vw_C := [(RX0, TX0, 2), (RX1, TX1, 5), (RX2, TX2, 11), (RX3, TX3, 5), (RX4, TX4, 3), (RX5, TX5, 19)]
abbrev TI : Type := Nat → Nat → Int32
abbrev TJ : Type := Nat → Nat → Int64
abbrev SS : Type := TI × TJ
def sI (I : TI) (c : Nat) (f : Nat → Int32) : TI := fun c' => if c' = c then f else I c'
def sJ (J : TJ) (c : Nat) (f : Nat → Int64) : TJ := fun c' => if c' = c then f else J c'
def uI (I : TI) (c k : Nat) (v : Int32) : TI := sI I c (upd (I c) k v)
def uJ (J : TJ) (c k : Nat) (v : Int64) : TJ := sJ J c (vp_updL (J c) k v)
/-- an index into a row of sixteen -/
abbrev okx (i : Int32) : Prop := ¬ i < 0 ∧ i.toNatClampNeg < 16
theorem okx_in {i : Int32} (h : okx i) : vp_in i 16 := fun q => q.elim h.1 (fun z => absurd h.2 (Nat.not_lt.mpr z))
abbrev okd (r : UInt64) : Prop := r &&& 0x7fffffffffffffff ≤ 0x7ff0000000000000
abbrev okf (r : UInt32) : Prop := r &&& 0x7fffffff ≤ 0x7f800000
/-- a call's answer goes on -/
def bnd {α β : Type} (o : Option (α × SS)) (f : α → TI → TJ → Option β) : Option β := match o with
  | none => none
  | some (a, I, J) => f a I J
theorem bnd_some {α β : Type} {o : Option (α × SS)} {f : α → TI → TJ → Option β} {b : β} (h : bnd o f = some b) : ∃ a I J, o = some (a, I, J) ∧ f a I J = some b := by
  match o, h with
  | some (a, I, J), h => exact ⟨a, I, J, rfl, h⟩
theorem bnd_of {α β : Type} {o : Option (α × SS)} {f : α → TI → TJ → Option β} {a : α} {I : TI} {J : TJ} (h : o = some (a, I, J)) : bnd o f = f a I J := by rw [h]; rfl
-- the private links between nest mates, which no word list carries
def xN (U : State) : Prop := va_Nw (.methodLinkNest "BitTuner$Program" 40 ⟨"BitTuner", "hasTwoParts", "(I)Z"⟩ "BitTuner") U ∧ va_Nw (.methodLinkNest "BitTuner$Value" 67 ⟨"BitTuner", "result", "(IJJ)J"⟩ "BitTuner") U ∧ va_Nw (.methodLinkNest "BitTuner$Widths" 112 ⟨"BitTuner", "hasTwoParts", "(I)Z"⟩ "BitTuner") U ∧ va_Nw (.methodLinkNest "BitTuner$Runs" 58 ⟨"BitTuner", "hasTwoParts", "(I)Z"⟩ "BitTuner") U ∧ va_Nw (.methodLinkNest "BitTuner$Runs" 76 ⟨"BitTuner", "result", "(IJJ)J"⟩ "BitTuner") U
theorem xN.warm {s U : State} (hW : s.WarmedH U.vm) (h : xN s) : xN U := ⟨va_Nw.warmM hW h.1, va_Nw.warmM hW h.2.1, va_Nw.warmM hW h.2.2.1, va_Nw.warmM hW h.2.2.2.1, va_Nw.warmM hW h.2.2.2.2⟩
theorem xN.same {s U : State} (e : s.vm = U.vm) (h : xN s) : xN U := ⟨va_Nw.same rfl e h.1, va_Nw.same rfl e h.2.1, va_Nw.same rfl e h.2.2.1, va_Nw.same rfl e h.2.2.2.1, va_Nw.same rfl e h.2.2.2.2⟩
def gA (L : List Nat) (sz : Nat) : Nat → Prop := fun q => q ∈ L ∨ sz ≤ q
theorem gA_mono {L : List Nat} {a b q : Nat} (h : a ≤ b) (hq : gA L b q) : gA L a q := hq.elim Or.inl (fun z => Or.inr (Nat.le_trans h z))
def GB (D : va_G) (wd : TI → TJ → va_W) (tys : List (ClassId × FieldType)) (L : List Nat) (s : State) (H : Heap) (locs : List Loc) (I : TI) (J : TJ) : Prop :=
  va_P D classes (wd I J) H ∧ va_D (gA L s.heap.size) (wd I J) ∧ va_K D classes tys s ∧ va_S (gA L s.heap.size) s.heap H locs ∧ xN s
def gPre (D : va_G) (wd : TI → TJ → va_W) (tys : List (ClassId × FieldType)) (sz : Nat) (I : TI) (J : TJ) (U : State) : Prop :=
  U.heap.size = sz ∧ va_P D classes (wd I J) U.heap ∧ va_K D classes tys U ∧ va_D (fun _ => True) (wd I J) ∧ xN U
def gPost (D : va_G) (wd : TI → TJ → va_W) (tys : List (ClassId × FieldType)) (L : List Nat) (sz : Nat) (u : SS) (t : State) : Prop :=
  va_P D classes (wd u.1 u.2) t.heap ∧ va_K D classes tys t ∧ va_D (gA L sz) (wd u.1 u.2)
abbrev gQi (D : va_G) (wd : TI → TJ → va_W) (tys : List (ClassId × FieldType)) (L : List Nat) (sz : Nat) (r : Int32 × SS) := va_Qi (fun (q : Int32) (u : SS) => (q, u) = r) (gPost D wd tys L sz) (gA L sz)
abbrev gQl (D : va_G) (wd : TI → TJ → va_W) (tys : List (ClassId × FieldType)) (L : List Nat) (sz : Nat) (r : Int64 × SS) := va_Ql (fun (q : Int64) (u : SS) => (q, u) = r) (gPost D wd tys L sz) (gA L sz)
abbrev gQd (D : va_G) (wd : TI → TJ → va_W) (tys : List (ClassId × FieldType)) (L : List Nat) (sz : Nat) (r : UInt64 × SS) := va_Qd (fun (q : UInt64) (u : SS) => (q, u) = r) (gPost D wd tys L sz) (gA L sz)
abbrev gQf (D : va_G) (wd : TI → TJ → va_W) (tys : List (ClassId × FieldType)) (L : List Nat) (sz : Nat) (r : UInt32 × SS) := va_Qf (fun (q : UInt32) (u : SS) => (q, u) = r) (gPost D wd tys L sz) (gA L sz)
abbrev gQv (D : va_G) (wd : TI → TJ → va_W) (tys : List (ClassId × FieldType)) (L : List Nat) (sz : Nat) (r : Unit × SS) := va_Qv (fun (u : SS) => ((), u) = r) (gPost D wd tys L sz) (gA L sz)
abbrev rmd (d : Nat) : Room := { frames := d, cells := 0, slots := 0, locals := 60 * d }
def KX (p : Program) (s : State) (m : MethodId) (args : Array Value) (meth : Method) (c : Code) (own : String) (cc : ByteArray) (nL : Nat) (ret : Option FieldType) : Prop :=
  p.tables.exec = Jvm.exec ∧ c.code = cc ∧ c.maxLocals = nL ∧ s.vm.findClass own = some m.cls ∧ (∀ w ∈ lw_gd, w.before args s = true) ∧ meth.sig.returnType = ret ∧ meth.locks = false
section GX
variable {p : Program} {l : Launch} {e : Env} {R : Room} {s : State} {m : MethodId} {args : Array Value} {below : List Frame} {meth : Method} {c : Code} {H : Heap} {locs : List Loc} {Q : State → Prop}
variable {own : String} {cc : ByteArray} {nL : Nat} {ret : Option FieldType} {D : va_G} {wd : TI → TJ → va_W} {tys : List (ClassId × FieldType)} {L : List Nat} {I I' : TI} {J J' : TJ}
variable {pc : Nat} {ls : Array Slot} {rest st0 : List Value}
theorem KX.hx (C : KX p s m args meth c own cc nL ret) : p.tables.exec = Jvm.exec := C.1
theorem KX.hb (C : KX p s m args meth c own cc nL ret) : c.code = cc := C.2.1
theorem KX.hml (C : KX p s m args meth c own cc nL ret) : c.maxLocals = nL := C.2.2.1
theorem KX.hown (C : KX p s m args meth c own cc nL ret) : s.vm.findClass own = some m.cls := C.2.2.2.1
theorem KX.hts (C : KX p s m args meth c own cc nL ret) : ∀ w ∈ lw_gd, w.before args s = true := C.2.2.2.2.1
theorem KX.hr (C : KX p s m args meth c own cc nL ret) : meth.sig.returnType = ret := C.2.2.2.2.2.1
theorem KX.hlk (C : KX p s m args meth c own cc nL ret) : meth.locks = false := C.2.2.2.2.2.2
theorem KX.fix (C : KX p s m args meth c own cc nL ret) : CallFix p m c cc nL s args lw_gd own := ⟨C.1, C.2.1, C.2.2.1, C.2.2.2.1, C.2.2.2.2.1⟩
theorem GB.P (h : GB D wd tys L s H locs I J) : va_P D classes (wd I J) H := h.1
theorem GB.D' (h : GB D wd tys L s H locs I J) : va_D (gA L s.heap.size) (wd I J) := h.2.1
theorem GB.K (h : GB D wd tys L s H locs I J) : va_K D classes tys s := h.2.2.1
theorem GB.S (h : GB D wd tys L s H locs I J) : va_S (gA L s.heap.size) s.heap H locs := h.2.2.2.1
theorem GB.N (h : GB D wd tys L s H locs I J) : xN s := h.2.2.2.2
theorem g_get (C : KX p s m args meth c own cc nL ret) (hB : GB D wd tys L s H locs I J) (q0 : Nat) {a ci : Nat} {fs : List Value} {Cn : String} {T : u_T} {N : Nat} (he : (wd I J)[q0]? = some (a, .inr (ci, fs))) (hc : classes[ci]? = some (Cn, T, N)) (hin : ∀ w ∈ u_ws Cn T N, w ∈ lw_gd) (k : Nat) (hk : k < N) {index : Nat} (hl : Cond.fieldLink own index (T k).1 (T k).2.1 (T k).2.2.1 ∈ lw_gd) {v : Value} (hv : fs[k]? = some v) (hdg : decode cc pc = .ok (.getfield index, 3)) (kk : W p l e R s m args below meth c H locs 0 0 Q (F0 m (pc + 3) ls (v :: rest))) : W p l e R s m args below meth c H locs 0 0 Q (F0 m pc ls (.ref a :: rest)) :=
  va_get C.hx C.hb C.hts hin C.hown hB.K hB.P q0 he hc k hk (C.hts _ hl) (fun _ h => h) hv hdg kk
theorem g_put (C : KX p s m args meth c own cc nL ret) (hB : GB D wd tys L s H locs I J) (q0 : Nat) {a ci : Nat} {fs : List Value} {Cn : String} {T : u_T} {N : Nat} (he : (wd I J)[q0]? = some (a, .inr (ci, fs))) (hc : classes[ci]? = some (Cn, T, N)) (hin : ∀ w ∈ u_ws Cn T N, w ∈ lw_gd) (ty0 : Nat → FieldType) (hty : ∀ k, k < N → parseFieldDescriptor (T k).2.2.1 = some (ty0 k)) (hnm : ∀ a, a < N → ∀ b, b < N → a ≠ b → (T a).2.1 ≠ (T b).2.1) (k : Nat) (hk : k < N) {index : Nat} (hl : Cond.fieldLink own index (T k).1 (T k).2.1 (T k).2.2.1 ∈ lw_gd) (hfin : (T k).2.2.2 = false) {v : Value} (hn : narrow (ty0 k) v = v) (hfit : fits (ty0 k) v = true) (hlen : k < fs.length)
    (heq : (wd I J).set q0 (a, .inr (ci, fs.set k v)) = wd I' J') (hdg : decode cc pc = .ok (.putfield index, 3)) (kk : ∀ (H1 : Heap) (locs1 : List Loc), GB D wd tys L s H1 locs1 I' J' → W p l e R s m args below meth c H1 locs1 0 0 Q (F0 m (pc + 3) ls rest)) : W p l e R s m args below meth c H locs 0 0 Q (F0 m pc ls (v :: .ref a :: rest)) := by
  refine va_put C.hx C.hb C.hts hin ty0 hty hnm C.hown hB.K hB.P hB.D' hB.S q0 he hc k hk (C.hts _ hl) (fun _ h => h) hfin (hty k hk) hn hfit hlen hdg (fun H1 locs1 hP hD hS => ?_)
  rw [heq] at hP hD
  exact kk H1 locs1 ⟨hP, hD, hB.K, hS, hB.N⟩
theorem g_iald (C : KX p s m args meth c own cc nL ret) (hB : GB D wd tys L s H locs I J) (q0 t0 : Nat) {a : Nat} {cA : ClassId} {f : Nat → Int32} (ha : (wd I J)[q0]? = some (a, .inl (cA, 16, .inl f))) (ht : tys[t0]? = some (cA, .int)) {i : Int32} (hin : okx i) (hdg : decode cc pc = .ok (.iaload, 1)) (kk : W p l e R s m args below meth c H locs 0 0 Q (F0 m (pc + 1) ls (.int (f i.toNatClampNeg) :: rest))) : W p l e R s m args below meth c H locs 0 0 Q (F0 m pc ls (.int i :: .ref a :: rest)) :=
  va_iald C.hx C.hb hB.K hB.P q0 t0 ha ht (okx_in hin) hdg kk
theorem g_zald (C : KX p s m args meth c own cc nL ret) (hB : GB D wd tys L s H locs I J) (q0 t0 : Nat) {a : Nat} {cA : ClassId} {f : Nat → Int32} (ha : (wd I J)[q0]? = some (a, .inl (cA, 16, .inl f))) (ht : tys[t0]? = some (cA, .boolean)) {i : Int32} (hin : okx i) (hdg : decode cc pc = .ok (.baload, 1)) (kk : W p l e R s m args below meth c H locs 0 0 Q (F0 m (pc + 1) ls (.int (f i.toNatClampNeg) :: rest))) : W p l e R s m args below meth c H locs 0 0 Q (F0 m pc ls (.int i :: .ref a :: rest)) :=
  va_zald C.hx C.hb hB.K hB.P q0 t0 ha ht (okx_in hin) hdg kk
theorem g_lald (C : KX p s m args meth c own cc nL ret) (hB : GB D wd tys L s H locs I J) (q0 t0 : Nat) {a : Nat} {cA : ClassId} {f : Nat → Int64} (ha : (wd I J)[q0]? = some (a, .inl (cA, 16, .inr (.inl f)))) (ht : tys[t0]? = some (cA, .long)) {i : Int32} (hin : okx i) (hdg : decode cc pc = .ok (.laload, 1)) (kk : W p l e R s m args below meth c H locs 0 0 Q (F0 m (pc + 1) ls (.long (f i.toNatClampNeg) :: rest))) : W p l e R s m args below meth c H locs 0 0 Q (F0 m pc ls (.int i :: .ref a :: rest)) :=
  va_lald C.hx C.hb hB.K hB.P q0 t0 ha ht (okx_in hin) hdg kk
theorem g_aald (C : KX p s m args meth c own cc nL ret) (hB : GB D wd tys L s H locs I J) (q0 t0 : Nat) {a : Nat} {cA : ClassId} {f : Nat → Nat} {Cn : String} (ha : (wd I J)[q0]? = some (a, .inl (cA, 16, .inr (.inr (.inr (.inr (fun k => some (f k)))))))) (ht : tys[t0]? = some (cA, .object Cn)) {i : Int32} (hin : okx i) (hdg : decode cc pc = .ok (.aaload, 1)) (kk : W p l e R s m args below meth c H locs 0 0 Q (F0 m (pc + 1) ls (.ref (f i.toNatClampNeg) :: rest))) : W p l e R s m args below meth c H locs 0 0 Q (F0 m pc ls (.int i :: .ref a :: rest)) :=
  va_aldq C.hx C.hb hB.K hB.P q0 t0 ha ht (okx_in hin) hdg kk
theorem g_iast (C : KX p s m args meth c own cc nL ret) (hB : GB D wd tys L s H locs I J) (q0 t0 : Nat) {a : Nat} {cA : ClassId} {f : Nat → Int32} (ha : (wd I J)[q0]? = some (a, .inl (cA, 16, .inl f))) (ht : tys[t0]? = some (cA, .int)) {i x : Int32} (hin : okx i) (heq : (wd I J).set q0 (a, .inl (cA, 16, .inl (upd f i.toNatClampNeg x))) = wd I' J') (hdg : decode cc pc = .ok (.iastore, 1)) (kk : ∀ (H1 : Heap) (locs1 : List Loc), GB D wd tys L s H1 locs1 I' J' → W p l e R s m args below meth c H1 locs1 0 0 Q (F0 m (pc + 1) ls rest)) : W p l e R s m args below meth c H locs 0 0 Q (F0 m pc ls (.int x :: .int i :: .ref a :: rest)) := by
  refine va_iast C.hx C.hb hB.K hB.P hB.D' hB.S q0 t0 ha ht (okx_in hin) hdg (fun H1 locs1 hP hD hS => ?_)
  rw [heq] at hP hD
  exact kk H1 locs1 ⟨hP, hD, hB.K, hS, hB.N⟩
theorem g_zast (C : KX p s m args meth c own cc nL ret) (hB : GB D wd tys L s H locs I J) (q0 t0 : Nat) {a : Nat} {cA : ClassId} {f : Nat → Int32} (ha : (wd I J)[q0]? = some (a, .inl (cA, 16, .inl f))) (ht : tys[t0]? = some (cA, .boolean)) {i x : Int32} (hin : okx i) (heq : (wd I J).set q0 (a, .inl (cA, 16, .inl (upd f i.toNatClampNeg (vp_nar .boolean x)))) = wd I' J') (hdg : decode cc pc = .ok (.bastore, 1)) (kk : ∀ (H1 : Heap) (locs1 : List Loc), GB D wd tys L s H1 locs1 I' J' → W p l e R s m args below meth c H1 locs1 0 0 Q (F0 m (pc + 1) ls rest)) : W p l e R s m args below meth c H locs 0 0 Q (F0 m pc ls (.int x :: .int i :: .ref a :: rest)) := by
  refine va_zast C.hx C.hb hB.K hB.P hB.D' hB.S q0 t0 ha ht (okx_in hin) hdg (fun H1 locs1 hP hD hS => ?_)
  rw [heq] at hP hD
  exact kk H1 locs1 ⟨hP, hD, hB.K, hS, hB.N⟩
theorem g_last (C : KX p s m args meth c own cc nL ret) (hB : GB D wd tys L s H locs I J) (q0 t0 : Nat) {a : Nat} {cA : ClassId} {f : Nat → Int64} (ha : (wd I J)[q0]? = some (a, .inl (cA, 16, .inr (.inl f)))) (ht : tys[t0]? = some (cA, .long)) {i : Int32} {x : Int64} (hin : okx i) (heq : (wd I J).set q0 (a, .inl (cA, 16, .inr (.inl (vp_updL f i.toNatClampNeg x)))) = wd I' J') (hdg : decode cc pc = .ok (.lastore, 1)) (kk : ∀ (H1 : Heap) (locs1 : List Loc), GB D wd tys L s H1 locs1 I' J' → W p l e R s m args below meth c H1 locs1 0 0 Q (F0 m (pc + 1) ls rest)) : W p l e R s m args below meth c H locs 0 0 Q (F0 m pc ls (.long x :: .int i :: .ref a :: rest)) := by
  refine va_last C.hx C.hb hB.K hB.P hB.D' hB.S q0 t0 ha ht (okx_in hin) hdg (fun H1 locs1 hP hD hS => ?_)
  rw [heq] at hP hD
  exact kk H1 locs1 ⟨hP, hD, hB.K, hS, hB.N⟩
-- calls
theorem gpre_blind {sz : Nat} {As : List Value} : FrameBlind (va_Pc As (gPre D wd tys sz I J)) := fun a U g mk q => by
  obtain ⟨q0, q1, qP, qK, qD, qN⟩ := q
  exact ⟨q0, q1, qP, va_K.moved (u := U) (U := U.calling g mk a) (Vm.Alike.refl U.vm) qK, qD, xN.same (s := U) (U := U.calling g mk a) rfl qN⟩
theorem gpre_at (hB : GB D wd tys L s H locs I J) {As : List Value} : ∀ U : State, U.heap = H → s.WarmedH U.vm → va_Pc As (gPre D wd tys H.size I J) As.toArray U := fun U hU hW =>
  ⟨rfl, by rw [hU], by rw [hU]; exact hB.P, va_K.moved hW.alike hB.K, hB.D'.weaken (fun _ _ _ _ => trivial), xN.warm hW hB.N⟩
variable {y : MethodName} {cy : ByteArray} {ny : Nat} {rety : Option FieldType} {rm : Room} {Qc : Array Value → State → Outcome → State → Prop} {free : Addr → Prop} {b index : Nat} {As : List Value}
theorem g_runV (C : KX p s m args meth c own cc nL ret) (hB : GB D wd tys L s H locs I J) (As : List Value) (rest : List Value) (hM : Met l y (wsm y cy ny rety) rm (va_Pc (.ref b :: As) (gPre D wd tys H.size I J)) Qc 0 0 free) (q0 : Nat) {ci : Nat} {fs : List Value} {Cn : String} {T : u_T} {N : Nat} (he : (wd I J)[q0]? = some (b, .inr (ci, fs))) (hc : classes[ci]? = some (Cn, T, N)) (h1 : Cond.methodLink own index y ∈ lw_gd) (h2 : Cond.instanceMethod y ∈ lw_gd) (h3 : Cond.selects Cn y y ∈ lw_gd) (h4 : Cond.initialized Cn ∈ lw_gd) (h : Cond.code y cy ny rety ∈ lw_gd)
    (hrm : rm.cells = 0 ∧ rm.slots = 0) (hd : y.cls = Cn ∧ y.cls ≠ "java/lang/invoke/MethodHandle" ∧ y.cls ≠ "java/lang/invoke/VarHandle" ∧ (parseMethodDescriptor y.desc).map (fun d => d.parameters.length) = some As.length) (hR : rm.frames + 1 ≤ R.frames ∧ 8 + (ny + 11) + rm.locals ≤ R.locals) (hsz : ls.size = nL) (hst : st0 = As.reverse ++ .ref b :: rest) (hW : (rest.map fun v => v.category).sum ≤ 8) (hdg : decode cc pc = .ok (.invokevirtual index, 3)) : va_Run p l e R s m args below meth c H locs 0 0 0 0 (F0 m pc ls st0) rest (Qc (Value.ref b :: As).toArray) free := by
  subst hst
  exact va_runV C.fix hM (cwV As.length C.hts (good_V h1 h2 h3 h4 h) rfl hrm.1 hrm.2 hd hR) ⟨gpre_blind, va_recv hB.K hB.P hc he, gpre_at hB⟩ rfl rfl hsz rfl (lv_room hW) hdg ⟨Nat.zero_le _, Nat.zero_le _⟩
theorem g_runS (C : KX p s m args meth c own cc nL ret) (hB : GB D wd tys L s H locs I J) (As : List Value) (rest : List Value) (hM : Met l y (wsm y cy ny rety) rm (va_Pc As (gPre D wd tys H.size I J)) Qc 0 0 free) (h1 : Cond.methodLink own index y ∈ lw_gd) (h2 : Cond.static y ∈ lw_gd) (h4 : Cond.initialized own ∈ lw_gd) (h : Cond.code y cy ny rety ∈ lw_gd)
    (hrm : rm.cells = 0 ∧ rm.slots = 0) (hd : y.cls = own ∧ y.cls ≠ "java/lang/invoke/MethodHandle" ∧ y.cls ≠ "java/lang/invoke/VarHandle" ∧ (parseMethodDescriptor y.desc).map (fun d => d.parameters.length) = some As.length) (hR : rm.frames + 1 ≤ R.frames ∧ 8 + (ny + 11) + rm.locals ≤ R.locals) (hsz : ls.size = nL) (hst : st0 = As.reverse ++ rest) (hW : (rest.map fun v => v.category).sum ≤ 8) (hdg : decode cc pc = .ok (.invokestatic index, 3)) : va_Run p l e R s m args below meth c H locs 0 0 0 0 (F0 m pc ls st0) rest (Qc As.toArray) free := by
  subst hst
  exact va_runS C.fix hM (cwS As.length C.hts (good_S h1 h2 h4 h) rfl hrm.1 hrm.2 hd hR) ⟨gpre_blind, gpre_at hB⟩ rfl rfl hsz rfl (lv_room hW) hdg ⟨Nat.zero_le _, Nat.zero_le _⟩
theorem g_runSN (C : KX p s m args meth c own cc nL ret) (hB : GB D wd tys L s H locs I J) (As : List Value) (rest : List Value) {host : String} (hM : Met l y (wsm y cy ny rety) rm (va_Pc As (gPre D wd tys H.size I J)) Qc 0 0 free) (h1 : va_Nw (.methodLinkNest own index y host) s) (h2 : Cond.static y ∈ lw_gd) (h4 : Cond.initialized y.cls ∈ lw_gd) (h : Cond.code y cy ny rety ∈ lw_gd)
    (hrm : rm.cells = 0 ∧ rm.slots = 0) (hd : y.cls ≠ "java/lang/invoke/MethodHandle" ∧ y.cls ≠ "java/lang/invoke/VarHandle" ∧ (parseMethodDescriptor y.desc).map (fun d => d.parameters.length) = some As.length) (hR : rm.frames + 1 ≤ R.frames ∧ 8 + (ny + 11) + rm.locals ≤ R.locals) (hsz : ls.size = nL) (hst : st0 = As.reverse ++ rest) (hW : (rest.map fun v => v.category).sum ≤ 8) (hdg : decode cc pc = .ok (.invokestatic index, 3)) : va_Run p l e R s m args below meth c H locs 0 0 0 0 (F0 m pc ls st0) rest (Qc As.toArray) free := by
  subst hst
  exact va_runSN C.fix hM ⟨va_cnB As.length C.hts (good_wsm h) rfl hrm.1 hrm.2 h1 (C.hts _ h4) hd hR, C.hts _ h2, trivial⟩ ⟨gpre_blind, gpre_at hB⟩ rfl rfl hsz rfl (lv_room hW) hdg ⟨Nat.zero_le _, Nat.zero_le _⟩
theorem g_goi (hB : GB D wd tys L s H locs I J) {a : Array Value} {r : Int32} (hr : va_Run p l e R s m args below meth c H locs 0 0 0 0 (F0 m pc ls st0) rest (gQi D wd tys L H.size (r, I', J') a) (gA L H.size)) (kk : ∀ (H1 : Heap) (locs1 : List Loc), GB D wd tys L s H1 locs1 I' J' → W p l e R s m args below meth c H1 locs1 0 0 Q (F0 m (pc + 3) ls (.int r :: rest))) : W p l e R s m args below meth c H locs 0 0 Q (F0 m pc ls st0) := by
  refine va_calli hr hB.S (fun q _ h => gA_mono hB.S.1 h) (fun q h => gA_mono hB.S.1 h) (fun r' u t H1 locs1 ht hvm hw hBt hz hk hS => ?_)
  cases hw
  obtain ⟨hP1, hK1, hD1⟩ := hBt
  rw [ht] at hP1
  exact kk H1 locs1 ⟨hP1, hD1.weaken (fun _ _ _ h => gA_mono hB.S.1 h), hB.K, hS, hB.N⟩
theorem g_gol (hB : GB D wd tys L s H locs I J) {a : Array Value} {r : Int64} (hr : va_Run p l e R s m args below meth c H locs 0 0 0 0 (F0 m pc ls st0) rest (gQl D wd tys L H.size (r, I', J') a) (gA L H.size)) (kk : ∀ (H1 : Heap) (locs1 : List Loc), GB D wd tys L s H1 locs1 I' J' → W p l e R s m args below meth c H1 locs1 0 0 Q (F0 m (pc + 3) ls (.long r :: rest))) : W p l e R s m args below meth c H locs 0 0 Q (F0 m pc ls st0) := by
  refine va_calll hr hB.S (fun q _ h => gA_mono hB.S.1 h) (fun q h => gA_mono hB.S.1 h) (fun r' u t H1 locs1 ht hvm hw hBt hz hk hS => ?_)
  cases hw
  obtain ⟨hP1, hK1, hD1⟩ := hBt
  rw [ht] at hP1
  exact kk H1 locs1 ⟨hP1, hD1.weaken (fun _ _ _ h => gA_mono hB.S.1 h), hB.K, hS, hB.N⟩
theorem g_god (hB : GB D wd tys L s H locs I J) {a : Array Value} {r : UInt64} (hr : va_Run p l e R s m args below meth c H locs 0 0 0 0 (F0 m pc ls st0) rest (gQd D wd tys L H.size (r, I', J') a) (gA L H.size)) (kk : ∀ (H1 : Heap) (locs1 : List Loc), GB D wd tys L s H1 locs1 I' J' → W p l e R s m args below meth c H1 locs1 0 0 Q (F0 m (pc + 3) ls (.double r :: rest))) : W p l e R s m args below meth c H locs 0 0 Q (F0 m pc ls st0) := by
  refine va_calld hr hB.S (fun q _ h => gA_mono hB.S.1 h) (fun q h => gA_mono hB.S.1 h) (fun r' u t H1 locs1 ht hvm hw hBt hz hk hS => ?_)
  cases hw
  obtain ⟨hP1, hK1, hD1⟩ := hBt
  rw [ht] at hP1
  exact kk H1 locs1 ⟨hP1, hD1.weaken (fun _ _ _ h => gA_mono hB.S.1 h), hB.K, hS, hB.N⟩
theorem g_gov (hB : GB D wd tys L s H locs I J) {a : Array Value} {r : Unit} (hr : va_Run p l e R s m args below meth c H locs 0 0 0 0 (F0 m pc ls st0) rest (gQv D wd tys L H.size (r, I', J') a) (gA L H.size)) (kk : ∀ (H1 : Heap) (locs1 : List Loc), GB D wd tys L s H1 locs1 I' J' → W p l e R s m args below meth c H1 locs1 0 0 Q (F0 m (pc + 3) ls rest)) : W p l e R s m args below meth c H locs 0 0 Q (F0 m pc ls st0) := by
  refine va_callv hr hB.S (fun q _ h => gA_mono hB.S.1 h) (fun q h => gA_mono hB.S.1 h) (fun u t H1 locs1 ht hvm hw hBt hz hk hS => ?_)
  cases hw
  obtain ⟨hP1, hK1, hD1⟩ := hBt
  rw [ht] at hP1
  exact kk H1 locs1 ⟨hP1, hD1.weaken (fun _ _ _ h => gA_mono hB.S.1 h), hB.K, hS, hB.N⟩
-- returns
theorem g_post (hB : GB D wd tys L s H locs I J) {t : State} (ht : t.heap = H) (hW : s.WarmedH t.vm) : gPost D wd tys L s.heap.size (I, J) t := ⟨by rw [ht]; exact hB.P, va_K.moved hW.alike hB.K, hB.D'⟩
theorem g_iret (C : KX p s m args meth c own cc nL (some .int)) (hB : GB D wd tys L s H locs I J) {r : Int32} {z : Int32 × SS} (h : some (r, I, J) = some z) (hdg : decode cc pc = .ok (.ireturn, 1)) : W p l e R s m args below meth c H locs 0 0 (MQ below (gQi D wd tys L s.heap.size z) args s 0 0 (gA L s.heap.size)) (F0 m pc ls [.int r]) := by
  cases h
  exact W.iret C.hx C.hb C.hr (fun t ht hW => ⟨⟨r, (I, J), rfl, rfl, g_post hB ht hW⟩, hB.S.F ht⟩) hB.S.2.2 hdg C.hlk
theorem g_zret (C : KX p s m args meth c own cc nL (some .boolean)) (hB : GB D wd tys L s H locs I J) {r : Int32} {z : Int32 × SS} (h : some (r, I, J) = some z) (hn : narrow .boolean (.int r) = .int r) (hdg : decode cc pc = .ok (.ireturn, 1)) : W p l e R s m args below meth c H locs 0 0 (MQ below (gQi D wd tys L s.heap.size z) args s 0 0 (gA L s.heap.size)) (F0 m pc ls [.int r]) := by
  cases h
  exact W.zret C.hx C.hb C.hr hn (fun t ht hW => ⟨⟨r, (I, J), rfl, rfl, g_post hB ht hW⟩, hB.S.F ht⟩) hB.S.2.2 hdg C.hlk
theorem g_lret (C : KX p s m args meth c own cc nL (some .long)) (hB : GB D wd tys L s H locs I J) {r : Int64} {z : Int64 × SS} (h : some (r, I, J) = some z) (hdg : decode cc pc = .ok (.lreturn, 1)) : W p l e R s m args below meth c H locs 0 0 (MQ below (gQl D wd tys L s.heap.size z) args s 0 0 (gA L s.heap.size)) (F0 m pc ls [.long r]) := by
  cases h
  exact W.lret C.hx C.hb C.hr (fun t ht hW => ⟨⟨r, (I, J), rfl, rfl, g_post hB ht hW⟩, hB.S.F ht⟩) hB.S.2.2 hdg C.hlk
theorem g_dret (C : KX p s m args meth c own cc nL (some .double)) (hB : GB D wd tys L s H locs I J) {r : UInt64} {z : UInt64 × SS} (h : some (r, I, J) = some z) (hdg : decode cc pc = .ok (.dreturn, 1)) : W p l e R s m args below meth c H locs 0 0 (MQ below (gQd D wd tys L s.heap.size z) args s 0 0 (gA L s.heap.size)) (F0 m pc ls [.double r]) := by
  cases h
  exact W.dret C.hx C.hb C.hr (fun t ht hW => ⟨⟨r, (I, J), rfl, rfl, g_post hB ht hW⟩, hB.S.F ht⟩) hB.S.2.2 hdg C.hlk
theorem g_fret (C : KX p s m args meth c own cc nL (some .float)) (hB : GB D wd tys L s H locs I J) {r : UInt32} {z : UInt32 × SS} (h : some (r, I, J) = some z) (hdg : decode cc pc = .ok (.freturn, 1)) : W p l e R s m args below meth c H locs 0 0 (MQ below (gQf D wd tys L s.heap.size z) args s 0 0 (gA L s.heap.size)) (F0 m pc ls [.float r]) := by
  cases h
  exact W.fret C.hx C.hb C.hr (fun t ht hW => ⟨⟨r, (I, J), rfl, rfl, g_post hB ht hW⟩, hB.S.F ht⟩) hB.S.2.2 hdg C.hlk
theorem g_vret (C : KX p s m args meth c own cc nL none) (hB : GB D wd tys L s H locs I J) {z : Unit × SS} (h : some ((), I, J) = some z) (hdg : decode cc pc = .ok (.return_, 1)) : W p l e R s m args below meth c H locs 0 0 (MQ below (gQv D wd tys L s.heap.size z) args s 0 0 (gA L s.heap.size)) (F0 m pc ls []) := by
  cases h
  exact W.vret C.hx C.hb C.hr (fun t ht hW => ⟨⟨(I, J), rfl, rfl, g_post hB ht hW⟩, hB.S.F ht⟩) hB.S.2.2 hdg C.hlk
-- a contract's entry
theorem g_met {Qc : Array Value → State → Outcome → State → Prop} {d : Nat} (hy : plainName y.cls = true) (hWL : ∀ (I : TI) (J : TJ) (k : Nat) (q : Nat × va_E), (wd I J)[k]? = some q → q.1 ∈ L) {sz : Nat}
    (body : ∀ p e s m below meth c, s.heap.size = sz → KX p s m As.toArray meth c y.cls cy ny rety → GB D wd tys L s s.heap [] I J → ∀ ls : Array Slot, lv_has ls ny (lv_args 0 As) → W p l e (rmd d) s m As.toArray below meth c s.heap [] 0 0 (MQ below Qc As.toArray s 0 0 (gA L sz)) (F0 m 0 ls [])) (hlen : (lg_sl As).length ≤ ny) :
    Met l y (wsm y cy ny rety) (rmd d) (va_Pc As (gPre D wd tys sz I J)) Qc 0 0 (gA L sz) := by
  refine Met.ofW (cc := cy) (maxL := ny) (ret := rety) hy rfl ?_
  intro p e s m args below meth c s₁ B hml hv
  obtain ⟨rfl, hsz, hP, hK, hD0, hN⟩ := hv
  have hts := atoms_spec (ws := wsm y cy ny rety) B.pre
  have hl := lv_entry As (n := ny) hlen
  rw [lg_entry_eq]
  generalize (lg_sl As ++ List.replicate (ny - (lg_sl As).length) Slot.unset).toArray = ls at hl ⊢
  exact body p e s m below meth c hsz ⟨B.exec, B.bytes, hml, findClass_of_methodNamed B.named, fun w h => hts w (List.mem_cons_of_mem _ h), B.returns, B.notSynchronized⟩ ⟨hP, hD0.weaken (fun k q hk _ => Or.inl (hWL I J k q hk)), hK, va_S.rf, hN⟩ ls hl
-- compares of longs
theorem g_lcmp_le (C : KX p s m args meth c own cc nL ret) {x y : Int64} {off : Int} {tgt : Nat} (h1 : decode cc pc = .ok (.lcmp, 1)) (h2 : decode cc (pc + 1) = .ok (.ifCond .le off, 3)) (ht : ((pc + 1 : Nat) : Int) + off = (tgt : Int)) (kt : x ≤ y → W p l e R s m args below meth c H locs 0 0 Q (F0 m tgt ls rest)) (kf : ¬ x ≤ y → W p l e R s m args below meth c H locs 0 0 Q (F0 m (pc + 1 + 3) ls rest)) : W p l e R s m args below meth c H locs 0 0 Q (F0 m pc ls (.long y :: .long x :: rest)) := by
  refine W.lcmp C.hx C.hb h1 ?_
  have e : (lg_cmp x y ≤ 0) ↔ x ≤ y := by
    unfold lg_cmp
    simp only [gt_iff_lt, Int64.lt_iff_toInt_lt, Int64.le_iff_toInt_le, ← Int64.toInt_inj]
    repeat' split
    all_goals simp_all
    all_goals omega
  exact lv_if_le C.hx C.hb h2 ht (fun h => kt (e.mp h)) (fun h => kf (fun z => h (e.mpr z)))
theorem g_lcmp_ge (C : KX p s m args meth c own cc nL ret) {x y : Int64} {off : Int} {tgt : Nat} (h1 : decode cc pc = .ok (.lcmp, 1)) (h2 : decode cc (pc + 1) = .ok (.ifCond .ge off, 3)) (ht : ((pc + 1 : Nat) : Int) + off = (tgt : Int)) (kt : y ≤ x → W p l e R s m args below meth c H locs 0 0 Q (F0 m tgt ls rest)) (kf : ¬ y ≤ x → W p l e R s m args below meth c H locs 0 0 Q (F0 m (pc + 1 + 3) ls rest)) : W p l e R s m args below meth c H locs 0 0 Q (F0 m pc ls (.long y :: .long x :: rest)) := by
  refine W.lcmp C.hx C.hb h1 ?_
  exact lv_if_ge C.hx C.hb h2 ht (fun h => kt ((lg_cmp_ge x y).mp h)) (fun h => kf (fun z => h ((lg_cmp_ge x y).mpr z)))
theorem g_lcmp_lt (C : KX p s m args meth c own cc nL ret) {x y : Int64} {off : Int} {tgt : Nat} (h1 : decode cc pc = .ok (.lcmp, 1)) (h2 : decode cc (pc + 1) = .ok (.ifCond .lt off, 3)) (ht : ((pc + 1 : Nat) : Int) + off = (tgt : Int)) (kt : x < y → W p l e R s m args below meth c H locs 0 0 Q (F0 m tgt ls rest)) (kf : ¬ x < y → W p l e R s m args below meth c H locs 0 0 Q (F0 m (pc + 1 + 3) ls rest)) : W p l e R s m args below meth c H locs 0 0 Q (F0 m pc ls (.long y :: .long x :: rest)) := by
  refine W.lcmp C.hx C.hb h1 ?_
  have e : (lg_cmp x y < 0) ↔ x < y := by
    unfold lg_cmp
    simp only [gt_iff_lt, Int64.lt_iff_toInt_lt, Int64.le_iff_toInt_le, ← Int64.toInt_inj]
    repeat' split
    all_goals simp_all
    all_goals omega
  exact lv_if_lt C.hx C.hb h2 ht (fun h => kt (e.mp h)) (fun h => kf (fun z => h (e.mpr z)))
theorem g_lcmp_gt (C : KX p s m args meth c own cc nL ret) {x y : Int64} {off : Int} {tgt : Nat} (h1 : decode cc pc = .ok (.lcmp, 1)) (h2 : decode cc (pc + 1) = .ok (.ifCond .gt off, 3)) (ht : ((pc + 1 : Nat) : Int) + off = (tgt : Int)) (kt : y < x → W p l e R s m args below meth c H locs 0 0 Q (F0 m tgt ls rest)) (kf : ¬ y < x → W p l e R s m args below meth c H locs 0 0 Q (F0 m (pc + 1 + 3) ls rest)) : W p l e R s m args below meth c H locs 0 0 Q (F0 m pc ls (.long y :: .long x :: rest)) := by
  refine W.lcmp C.hx C.hb h1 ?_
  have e : (0 < lg_cmp x y) ↔ y < x := by
    unfold lg_cmp
    simp only [gt_iff_lt, Int64.lt_iff_toInt_lt, Int64.le_iff_toInt_le, ← Int64.toInt_inj]
    repeat' split
    all_goals simp_all
    all_goals omega
  exact lv_if_gt C.hx C.hb h2 ht (fun h => kt (e.mp h)) (fun h => kf (fun z => h (e.mpr z)))
theorem lg_cmp_zero (x y : Int64) : lg_cmp x y = 0 ↔ x = y := by
  unfold lg_cmp
  simp only [gt_iff_lt, Int64.lt_iff_toInt_lt, Int64.le_iff_toInt_le, ← Int64.toInt_inj]
  repeat' split
  all_goals simp_all
  all_goals omega
theorem g_lcmp_eq (C : KX p s m args meth c own cc nL ret) {x y : Int64} {off : Int} {tgt : Nat} (h1 : decode cc pc = .ok (.lcmp, 1)) (h2 : decode cc (pc + 1) = .ok (.ifCond .eq off, 3)) (ht : ((pc + 1 : Nat) : Int) + off = (tgt : Int)) (kt : x = y → W p l e R s m args below meth c H locs 0 0 Q (F0 m tgt ls rest)) (kf : ¬ x = y → W p l e R s m args below meth c H locs 0 0 Q (F0 m (pc + 1 + 3) ls rest)) : W p l e R s m args below meth c H locs 0 0 Q (F0 m pc ls (.long y :: .long x :: rest)) := by
  refine W.lcmp C.hx C.hb h1 ?_
  exact lv_if_eq C.hx C.hb h2 ht (fun h => kt ((lg_cmp_zero x y).mp h)) (fun h => kf (fun z => h ((lg_cmp_zero x y).mpr z)))
theorem g_lcmp_ne (C : KX p s m args meth c own cc nL ret) {x y : Int64} {off : Int} {tgt : Nat} (h1 : decode cc pc = .ok (.lcmp, 1)) (h2 : decode cc (pc + 1) = .ok (.ifCond .ne off, 3)) (ht : ((pc + 1 : Nat) : Int) + off = (tgt : Int)) (kt : ¬ x = y → W p l e R s m args below meth c H locs 0 0 Q (F0 m tgt ls rest)) (kf : x = y → W p l e R s m args below meth c H locs 0 0 Q (F0 m (pc + 1 + 3) ls rest)) : W p l e R s m args below meth c H locs 0 0 Q (F0 m pc ls (.long y :: .long x :: rest)) := by
  refine W.lcmp C.hx C.hb h1 ?_
  exact lv_if_ne C.hx C.hb h2 ht (fun h => kt (fun z => h ((lg_cmp_zero x y).mpr z))) (fun h => kf ((lg_cmp_zero x y).mp h))
end GX
theorem ts_ne {x : Int32} {k : Int} (y : Int32) (hy : y.toInt = k) (h : ¬ x = y) : x.toInt ≠ k := fun e => h (Int32.toInt_inj.mp (e.trans hy.symm))
