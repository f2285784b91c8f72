/-! BitTunerModel, the lower half: pure functions out of the bytecode, and the rows that tie them to the machine (by wip/gen/decomp.py) -/
theorem hdX5_in : yX5_in.cls = "BitTunerModel" ∧ yX5_in.cls ≠ "java/lang/invoke/MethodHandle" ∧ yX5_in.cls ≠ "java/lang/invoke/VarHandle" ∧ (parseMethodDescriptor yX5_in.desc).map (fun d => d.parameters.length) = some 3 := by decide +kernel
def fX5_in  (v0 : Int64) (v2 : Int64) (v4 : Int64) (I : TI) (J : TJ) : Option (Int32 × SS) :=
  if v0 < v2 then
  some ((0 : Int32), I, J)
  else
  if v4 < v0 then
  some ((0 : Int32), I, J)
  else
  some ((1 : Int32), I, J)
set_option maxHeartbeats 4000000 in
set_option maxRecDepth 100000 in
theorem tX5_in {p : Program} {l : Launch} {e : Env} {s : State} {m : MethodId} {args : Array Value} {below : List Frame} {meth : Method} {c : Code} (C : KX p s m args meth c "BitTunerModel" cX5_in 6 (some .boolean)) {D : va_G} {cI cJ cZ : ClassId} {ad : Nat → Nat} {z : Int32 × SS}   {H : Heap} {locs : List Loc} {ls : Array Slot} {I : TI} {J : TJ} {v0 : Int64} {v2 : Int64} {v4 : Int64} (hB : MB D cI cJ cZ ad s H locs I J)  (hl : lv_has ls 6 [(0, .long v0), (2, .long v2), (4, .long v4)]) (h : fX5_in v0 v2 v4 I J = some z) : W p l e (rmd 0) s m args below meth c H locs 0 0 (MQ below (gQi D (mw cI cJ cZ ad) (mt cI cJ cZ) (mL ad) s.heap.size z) args s 0 0 (gA (mL ad) s.heap.size)) (F0 m 0 ls []) := by
  unfold fX5_in at h
  refine lv_lload_n C.hx C.hb dX5_in_0 rfl (lv_at hl 0 rfl) ?_
  refine lv_lload_n C.hx C.hb dX5_in_1 rfl (lv_at hl 1 rfl) ?_
  refine g_lcmp_lt C (tgt := 17) dX5_in_2 dX5_in_3 (by decide) (fun c_1 => ?_) (fun c_1 => ?_)
  · replace h := (if_pos c_1).symm.trans h
    refine lv_iconst (v := (0 : Int32)) C.hx C.hb dX5_in_17 (by decide) ?_
    exact g_zret C hB h (by decide) dX5_in_18
  · replace h := (if_neg c_1).symm.trans h
    refine lv_lload_n C.hx C.hb dX5_in_6 rfl (lv_at hl 0 rfl) ?_
    refine lv_lload C.hx C.hb dX5_in_7 (lv_at hl 2 rfl) ?_
    refine g_lcmp_gt C (tgt := 17) dX5_in_9 dX5_in_10 (by decide) (fun c_2 => ?_) (fun c_2 => ?_)
    · replace h := (if_pos c_2).symm.trans h
      refine lv_iconst (v := (0 : Int32)) C.hx C.hb dX5_in_17 (by decide) ?_
      exact g_zret C hB h (by decide) dX5_in_18
    · replace h := (if_neg c_2).symm.trans h
      refine lv_iconst (v := (1 : Int32)) C.hx C.hb dX5_in_13 (by decide) ?_
      refine lv_goto (tgt := 18) C.hx C.hb dX5_in_14 (by decide) ?_
      exact g_zret C hB h (by decide) dX5_in_18
set_option maxHeartbeats 4000000 in
set_option maxRecDepth 100000 in
theorem cnX5_in (l : Launch) (D : va_G) (cI cJ cZ : ClassId) (ad : Nat → Nat) (sz : Nat) {v0 : Int64} {v2 : Int64} {v4 : Int64} {I : TI} {J : TJ} {z : Int32 × SS}  (h : fX5_in v0 v2 v4 I J = some z) : Met l yX5_in (wsm yX5_in cX5_in 6 (some .boolean)) (rmd 0) (va_Pc [.long v0, .long v2, .long v4] (gPre D (mw cI cJ cZ ad) (mt cI cJ cZ) sz I J)) (gQi D (mw cI cJ cZ ad) (mt cI cJ cZ) (mL ad) sz z) 0 0 (gA (mL ad) sz) :=
  g_met (by decide) mw_WL (fun p e s m below meth c hsz C hB ls hl => by subst hsz; exact tX5_in C hB  hl h) (Nat.le_of_ble_eq_true rfl)
theorem hdX5_no : yX5_no.cls = "BitTunerModel" ∧ yX5_no.cls ≠ "java/lang/invoke/MethodHandle" ∧ yX5_no.cls ≠ "java/lang/invoke/VarHandle" ∧ (parseMethodDescriptor yX5_no.desc).map (fun d => d.parameters.length) = some 1 := by decide +kernel
def fX5_no  (v0 : Int32) (I : TI) (J : TJ) : Option (Int64 × SS) :=
  some ((-9223372036854775808 : Int64) - v0.toInt64, I, J)
set_option maxHeartbeats 4000000 in
set_option maxRecDepth 100000 in
theorem tX5_no {p : Program} {l : Launch} {e : Env} {s : State} {m : MethodId} {args : Array Value} {below : List Frame} {meth : Method} {c : Code} (C : KX p s m args meth c "BitTunerModel" cX5_no 1 (some .long)) {D : va_G} {cI cJ cZ : ClassId} {ad : Nat → Nat} {z : Int64 × SS}   {H : Heap} {locs : List Loc} {ls : Array Slot} {I : TI} {J : TJ} {v0 : Int32} (hB : MB D cI cJ cZ ad s H locs I J)  (hl : lv_has ls 1 [(0, .int v0)]) (h : fX5_no v0 I J = some z) : W p l e (rmd 0) s m args below meth c H locs 0 0 (MQ below (gQl D (mw cI cJ cZ ad) (mt cI cJ cZ) (mL ad) s.heap.size z) args s 0 0 (gA (mL ad) s.heap.size)) (F0 m 0 ls []) := by
  unfold fX5_no at h
  refine lv_ldc2 C.hx C.hb C.hown (C.hts _ tw_687) dX5_no_0 ?_
  refine lv_iload_n C.hx C.hb dX5_no_3 rfl (lv_at hl 0 rfl) ?_
  refine lv_i2l C.hx C.hb dX5_no_4 rfl ?_
  refine lv_lsub C.hx C.hb dX5_no_5 ?_
  exact g_lret C hB h dX5_no_6
set_option maxHeartbeats 4000000 in
set_option maxRecDepth 100000 in
theorem cnX5_no (l : Launch) (D : va_G) (cI cJ cZ : ClassId) (ad : Nat → Nat) (sz : Nat) {v0 : Int32} {I : TI} {J : TJ} {z : Int64 × SS}  (h : fX5_no v0 I J = some z) : Met l yX5_no (wsm yX5_no cX5_no 1 (some .long)) (rmd 0) (va_Pc [.int v0] (gPre D (mw cI cJ cZ ad) (mt cI cJ cZ) sz I J)) (gQl D (mw cI cJ cZ ad) (mt cI cJ cZ) (mL ad) sz z) 0 0 (gA (mL ad) sz) :=
  g_met (by decide) mw_WL (fun p e s m below meth c hsz C hB ls hl => by subst hsz; exact tX5_no C hB  hl h) (Nat.le_of_ble_eq_true rfl)
theorem hdX5_isValue : yX5_isValue.cls = "BitTunerModel" ∧ yX5_isValue.cls ≠ "java/lang/invoke/MethodHandle" ∧ yX5_isValue.cls ≠ "java/lang/invoke/VarHandle" ∧ (parseMethodDescriptor yX5_isValue.desc).map (fun d => d.parameters.length) = some 1 := by decide +kernel
def fX5_isValue  (v1 : Int32) (I : TI) (J : TJ) : Option (Int32 × SS) :=
  bnd (fX5_in v1.toInt64 (0 : Int64) (((I 13 0) - (1 : Int32)).toInt64) I J) (fun q_1 I_1 J_1 =>
  if okz q_1 then
  some (q_1, I_1, J_1)
  else none)
set_option maxHeartbeats 4000000 in
set_option maxRecDepth 100000 in
theorem tX5_isValue {p : Program} {l : Launch} {e : Env} {s : State} {m : MethodId} {args : Array Value} {below : List Frame} {meth : Method} {c : Code} (C : KX p s m args meth c "BitTunerModel" cX5_isValue 2 (some .boolean)) {D : va_G} {cI cJ cZ : ClassId} {ad : Nat → Nat} {z : Int32 × SS}   {H : Heap} {locs : List Loc} {ls : Array Slot} {I : TI} {J : TJ} {v1 : Int32} (hB : MB D cI cJ cZ ad s H locs I J)  (hl : lv_has ls 2 [(0, .ref (ad 0)), (1, .int v1)]) (h : fX5_isValue v1 I J = some z) : W p l e (rmd 1) s m args below meth c H locs 0 0 (MQ below (gQi D (mw cI cJ cZ ad) (mt cI cJ cZ) (mL ad) s.heap.size z) args s 0 0 (gA (mL ad) s.heap.size)) (F0 m 0 ls []) := by
  unfold fX5_isValue at h
  refine lv_iload_n C.hx C.hb dX5_isValue_0 rfl (lv_at hl 1 rfl) ?_
  refine lv_i2l C.hx C.hb dX5_isValue_1 rfl ?_
  refine lv_lconst (v := (0 : Int64)) C.hx C.hb dX5_isValue_2 (by decide) ?_
  refine lv_aload_n C.hx C.hb dX5_isValue_3 rfl (lv_at hl 0 rfl) ?_
  refine mg_values C hB tw_557 dX5_isValue_4 ?_
  refine lv_iconst (v := (1 : Int32)) C.hx C.hb dX5_isValue_7 (by decide) ?_
  refine lv_isub C.hx C.hb dX5_isValue_8 ?_
  refine lv_i2l C.hx C.hb dX5_isValue_9 rfl ?_
  obtain ⟨q_1, I_1, J_1, hc_1, h⟩ := bnd_some h
  refine g_goi hB (g_runS C hB [.long v1.toInt64, .long (0 : Int64), .long (((I 13 0) - (1 : Int32)).toInt64)] [] (cnX5_in l D cI cJ cZ ad H.size  hc_1) tw_625 tw_626 tw_38 tw_627 ⟨rfl, rfl⟩ hdX5_in ⟨Nat.le_of_ble_eq_true rfl, Nat.le_of_ble_eq_true rfl⟩ hl.1 rfl (Nat.le_of_ble_eq_true rfl) dX5_isValue_10) (fun H locs hB => ?_)
  obtain ⟨c_2, h⟩ := ite_ck h
  exact g_zret C hB h (okz_n c_2) dX5_isValue_13
set_option maxHeartbeats 4000000 in
set_option maxRecDepth 100000 in
theorem cnX5_isValue (l : Launch) (D : va_G) (cI cJ cZ : ClassId) (ad : Nat → Nat) (sz : Nat) {v1 : Int32} {I : TI} {J : TJ} {z : Int32 × SS}  (h : fX5_isValue v1 I J = some z) : Met l yX5_isValue (wsm yX5_isValue cX5_isValue 2 (some .boolean)) (rmd 1) (va_Pc [.ref (ad 0), .int v1] (gPre D (mw cI cJ cZ ad) (mt cI cJ cZ) sz I J)) (gQi D (mw cI cJ cZ ad) (mt cI cJ cZ) (mL ad) sz z) 0 0 (gA (mL ad) sz) :=
  g_met (by decide) mw_WL (fun p e s m below meth c hsz C hB ls hl => by subst hsz; exact tX5_isValue C hB  hl h) (Nat.le_of_ble_eq_true rfl)
theorem hdX5_isInput : yX5_isInput.cls = "BitTunerModel" ∧ yX5_isInput.cls ≠ "java/lang/invoke/MethodHandle" ∧ yX5_isInput.cls ≠ "java/lang/invoke/VarHandle" ∧ (parseMethodDescriptor yX5_isInput.desc).map (fun d => d.parameters.length) = some 1 := by decide +kernel
def fX5_isInput  (v1 : Int32) (I : TI) (J : TJ) : Option (Int32 × SS) :=
  bnd (fX5_isValue v1 I J) (fun q_1 I_1 J_1 =>
  if q_1 = 0 then
  some ((0 : Int32), I_1, J_1)
  else
  if okx v1 then
  if (I_1 0 v1.toNatClampNeg) = 0 then
  some ((1 : Int32), I_1, J_1)
  else
  some ((0 : Int32), I_1, J_1)
  else none)
set_option maxHeartbeats 4000000 in
set_option maxRecDepth 100000 in
theorem tX5_isInput {p : Program} {l : Launch} {e : Env} {s : State} {m : MethodId} {args : Array Value} {below : List Frame} {meth : Method} {c : Code} (C : KX p s m args meth c "BitTunerModel" cX5_isInput 2 (some .boolean)) {D : va_G} {cI cJ cZ : ClassId} {ad : Nat → Nat} {z : Int32 × SS}   {H : Heap} {locs : List Loc} {ls : Array Slot} {I : TI} {J : TJ} {v1 : Int32} (hB : MB D cI cJ cZ ad s H locs I J)  (hl : lv_has ls 2 [(0, .ref (ad 0)), (1, .int v1)]) (h : fX5_isInput v1 I J = some z) : W p l e (rmd 2) s m args below meth c H locs 0 0 (MQ below (gQi D (mw cI cJ cZ ad) (mt cI cJ cZ) (mL ad) s.heap.size z) args s 0 0 (gA (mL ad) s.heap.size)) (F0 m 0 ls []) := by
  unfold fX5_isInput at h
  refine lv_aload_n C.hx C.hb dX5_isInput_0 rfl (lv_at hl 0 rfl) ?_
  refine lv_iload_n C.hx C.hb dX5_isInput_1 rfl (lv_at hl 1 rfl) ?_
  obtain ⟨q_1, I_1, J_1, hc_1, h⟩ := bnd_some h
  refine g_goi hB (g_runV C hB [.int v1] [] (cnX5_isValue l D cI cJ cZ ad H.size  hc_1) 0 rfl rfl tw_642 tw_644 tw_15 tw_38 tw_645 ⟨rfl, rfl⟩ hdX5_isValue ⟨Nat.le_of_ble_eq_true rfl, Nat.le_of_ble_eq_true rfl⟩ hl.1 rfl (Nat.le_of_ble_eq_true rfl) dX5_isInput_2) (fun H locs hB => ?_)
  refine lv_if_eq (tgt := 21) C.hx C.hb dX5_isInput_5 (by decide) (fun c_2 => ?_) (fun c_2 => ?_)
  · replace h := (if_pos c_2).symm.trans h
    refine lv_iconst (v := (0 : Int32)) C.hx C.hb dX5_isInput_21 (by decide) ?_
    exact g_zret C hB h (by decide) dX5_isInput_22
  · replace h := (if_neg c_2).symm.trans h
    refine lv_aload_n C.hx C.hb dX5_isInput_8 rfl (lv_at hl 0 rfl) ?_
    refine mg_kinds C hB tw_558 dX5_isInput_9 ?_
    refine lv_iload_n C.hx C.hb dX5_isInput_12 rfl (lv_at hl 1 rfl) ?_
    obtain ⟨c_3, h⟩ := ite_ck h
    refine ma_kinds_ld C hB c_3 dX5_isInput_13 ?_
    refine lv_if_ne (tgt := 21) C.hx C.hb dX5_isInput_14 (by decide) (fun c_4 => ?_) (fun c_4 => ?_)
    · replace h := (if_neg c_4).symm.trans h
      refine lv_iconst (v := (0 : Int32)) C.hx C.hb dX5_isInput_21 (by decide) ?_
      exact g_zret C hB h (by decide) dX5_isInput_22
    · replace h := (if_pos c_4).symm.trans h
      refine lv_iconst (v := (1 : Int32)) C.hx C.hb dX5_isInput_17 (by decide) ?_
      refine lv_goto (tgt := 22) C.hx C.hb dX5_isInput_18 (by decide) ?_
      exact g_zret C hB h (by decide) dX5_isInput_22
set_option maxHeartbeats 4000000 in
set_option maxRecDepth 100000 in
theorem cnX5_isInput (l : Launch) (D : va_G) (cI cJ cZ : ClassId) (ad : Nat → Nat) (sz : Nat) {v1 : Int32} {I : TI} {J : TJ} {z : Int32 × SS}  (h : fX5_isInput v1 I J = some z) : Met l yX5_isInput (wsm yX5_isInput cX5_isInput 2 (some .boolean)) (rmd 2) (va_Pc [.ref (ad 0), .int v1] (gPre D (mw cI cJ cZ ad) (mt cI cJ cZ) sz I J)) (gQi D (mw cI cJ cZ ad) (mt cI cJ cZ) (mL ad) sz z) 0 0 (gA (mL ad) sz) :=
  g_met (by decide) mw_WL (fun p e s m below meth c hsz C hB ls hl => by subst hsz; exact tX5_isInput C hB  hl h) (Nat.le_of_ble_eq_true rfl)
theorem hdX5_isWork : yX5_isWork.cls = "BitTunerModel" ∧ yX5_isWork.cls ≠ "java/lang/invoke/MethodHandle" ∧ yX5_isWork.cls ≠ "java/lang/invoke/VarHandle" ∧ (parseMethodDescriptor yX5_isWork.desc).map (fun d => d.parameters.length) = some 1 := by decide +kernel
def fX5_isWork  (v1 : Int32) (I : TI) (J : TJ) : Option (Int32 × SS) :=
  bnd (fX5_isValue v1 I J) (fun q_1 I_1 J_1 =>
  if q_1 = 0 then
  some ((0 : Int32), I_1, J_1)
  else
  if okx v1 then
  if (I_1 0 v1.toNatClampNeg) ≤ (1 : Int32) then
  some ((0 : Int32), I_1, J_1)
  else
  some ((1 : Int32), I_1, J_1)
  else none)
set_option maxHeartbeats 4000000 in
set_option maxRecDepth 100000 in
theorem tX5_isWork {p : Program} {l : Launch} {e : Env} {s : State} {m : MethodId} {args : Array Value} {below : List Frame} {meth : Method} {c : Code} (C : KX p s m args meth c "BitTunerModel" cX5_isWork 2 (some .boolean)) {D : va_G} {cI cJ cZ : ClassId} {ad : Nat → Nat} {z : Int32 × SS}   {H : Heap} {locs : List Loc} {ls : Array Slot} {I : TI} {J : TJ} {v1 : Int32} (hB : MB D cI cJ cZ ad s H locs I J)  (hl : lv_has ls 2 [(0, .ref (ad 0)), (1, .int v1)]) (h : fX5_isWork v1 I J = some z) : W p l e (rmd 2) s m args below meth c H locs 0 0 (MQ below (gQi D (mw cI cJ cZ ad) (mt cI cJ cZ) (mL ad) s.heap.size z) args s 0 0 (gA (mL ad) s.heap.size)) (F0 m 0 ls []) := by
  unfold fX5_isWork at h
  refine lv_aload_n C.hx C.hb dX5_isWork_0 rfl (lv_at hl 0 rfl) ?_
  refine lv_iload_n C.hx C.hb dX5_isWork_1 rfl (lv_at hl 1 rfl) ?_
  obtain ⟨q_1, I_1, J_1, hc_1, h⟩ := bnd_some h
  refine g_goi hB (g_runV C hB [.int v1] [] (cnX5_isValue l D cI cJ cZ ad H.size  hc_1) 0 rfl rfl tw_642 tw_644 tw_15 tw_38 tw_645 ⟨rfl, rfl⟩ hdX5_isValue ⟨Nat.le_of_ble_eq_true rfl, Nat.le_of_ble_eq_true rfl⟩ hl.1 rfl (Nat.le_of_ble_eq_true rfl) dX5_isWork_2) (fun H locs hB => ?_)
  refine lv_if_eq (tgt := 22) C.hx C.hb dX5_isWork_5 (by decide) (fun c_2 => ?_) (fun c_2 => ?_)
  · replace h := (if_pos c_2).symm.trans h
    refine lv_iconst (v := (0 : Int32)) C.hx C.hb dX5_isWork_22 (by decide) ?_
    exact g_zret C hB h (by decide) dX5_isWork_23
  · replace h := (if_neg c_2).symm.trans h
    refine lv_aload_n C.hx C.hb dX5_isWork_8 rfl (lv_at hl 0 rfl) ?_
    refine mg_kinds C hB tw_558 dX5_isWork_9 ?_
    refine lv_iload_n C.hx C.hb dX5_isWork_12 rfl (lv_at hl 1 rfl) ?_
    obtain ⟨c_3, h⟩ := ite_ck h
    refine ma_kinds_ld C hB c_3 dX5_isWork_13 ?_
    refine lv_iconst (v := (1 : Int32)) C.hx C.hb dX5_isWork_14 (by decide) ?_
    refine lv_icmp_le (tgt := 22) C.hx C.hb dX5_isWork_15 (by decide) (fun c_4 => ?_) (fun c_4 => ?_)
    · replace h := (if_pos c_4).symm.trans h
      refine lv_iconst (v := (0 : Int32)) C.hx C.hb dX5_isWork_22 (by decide) ?_
      exact g_zret C hB h (by decide) dX5_isWork_23
    · replace h := (if_neg c_4).symm.trans h
      refine lv_iconst (v := (1 : Int32)) C.hx C.hb dX5_isWork_18 (by decide) ?_
      refine lv_goto (tgt := 23) C.hx C.hb dX5_isWork_19 (by decide) ?_
      exact g_zret C hB h (by decide) dX5_isWork_23
set_option maxHeartbeats 4000000 in
set_option maxRecDepth 100000 in
theorem cnX5_isWork (l : Launch) (D : va_G) (cI cJ cZ : ClassId) (ad : Nat → Nat) (sz : Nat) {v1 : Int32} {I : TI} {J : TJ} {z : Int32 × SS}  (h : fX5_isWork v1 I J = some z) : Met l yX5_isWork (wsm yX5_isWork cX5_isWork 2 (some .boolean)) (rmd 2) (va_Pc [.ref (ad 0), .int v1] (gPre D (mw cI cJ cZ ad) (mt cI cJ cZ) sz I J)) (gQi D (mw cI cJ cZ ad) (mt cI cJ cZ) (mL ad) sz z) 0 0 (gA (mL ad) sz) :=
  g_met (by decide) mw_WL (fun p e s m below meth c hsz C hB ls hl => by subst hsz; exact tX5_isWork C hB  hl h) (Nat.le_of_ble_eq_true rfl)
theorem hdX5_isNumber : yX5_isNumber.cls = "BitTunerModel" ∧ yX5_isNumber.cls ≠ "java/lang/invoke/MethodHandle" ∧ yX5_isNumber.cls ≠ "java/lang/invoke/VarHandle" ∧ (parseMethodDescriptor yX5_isNumber.desc).map (fun d => d.parameters.length) = some 1 := by decide +kernel
def fX5_isNumber  (v0 : Int32) (I : TI) (J : TJ) : Option (Int32 × SS) :=
  bnd (fX5_in v0.toInt64 (-4194304 : Int64) (4194304 : Int64) I J) (fun q_1 I_1 J_1 =>
  if q_1 = 0 then
  some ((0 : Int32), I_1, J_1)
  else
  if (v0 - v0 / (4096 : Int32) * (4096 : Int32)) = 0 then
  some ((1 : Int32), I_1, J_1)
  else
  some ((0 : Int32), I_1, J_1))
set_option maxHeartbeats 4000000 in
set_option maxRecDepth 100000 in
theorem tX5_isNumber {p : Program} {l : Launch} {e : Env} {s : State} {m : MethodId} {args : Array Value} {below : List Frame} {meth : Method} {c : Code} (C : KX p s m args meth c "BitTunerModel" cX5_isNumber 1 (some .boolean)) {D : va_G} {cI cJ cZ : ClassId} {ad : Nat → Nat} {z : Int32 × SS}   {H : Heap} {locs : List Loc} {ls : Array Slot} {I : TI} {J : TJ} {v0 : Int32} (hB : MB D cI cJ cZ ad s H locs I J)  (hl : lv_has ls 1 [(0, .int v0)]) (h : fX5_isNumber v0 I J = some z) : W p l e (rmd 1) s m args below meth c H locs 0 0 (MQ below (gQi D (mw cI cJ cZ ad) (mt cI cJ cZ) (mL ad) s.heap.size z) args s 0 0 (gA (mL ad) s.heap.size)) (F0 m 0 ls []) := by
  unfold fX5_isNumber at h
  refine lv_iload_n C.hx C.hb dX5_isNumber_0 rfl (lv_at hl 0 rfl) ?_
  refine lv_i2l C.hx C.hb dX5_isNumber_1 rfl ?_
  refine lv_ldc2 C.hx C.hb C.hown (C.hts _ tw_623) dX5_isNumber_2 ?_
  refine lv_ldc2 C.hx C.hb C.hown (C.hts _ tw_624) dX5_isNumber_5 ?_
  obtain ⟨q_1, I_1, J_1, hc_1, h⟩ := bnd_some h
  refine g_goi hB (g_runS C hB [.long v0.toInt64, .long (-4194304 : Int64), .long (4194304 : Int64)] [] (cnX5_in l D cI cJ cZ ad H.size  hc_1) tw_625 tw_626 tw_38 tw_627 ⟨rfl, rfl⟩ hdX5_in ⟨Nat.le_of_ble_eq_true rfl, Nat.le_of_ble_eq_true rfl⟩ hl.1 rfl (Nat.le_of_ble_eq_true rfl) dX5_isNumber_8) (fun H locs hB => ?_)
  refine lv_if_eq (tgt := 26) C.hx C.hb dX5_isNumber_11 (by decide) (fun c_2 => ?_) (fun c_2 => ?_)
  · replace h := (if_pos c_2).symm.trans h
    refine lv_iconst (v := (0 : Int32)) C.hx C.hb dX5_isNumber_26 (by decide) ?_
    exact g_zret C hB h (by decide) dX5_isNumber_27
  · replace h := (if_neg c_2).symm.trans h
    refine lv_iload_n C.hx C.hb dX5_isNumber_14 rfl (lv_at hl 0 rfl) ?_
    refine lv_sipush (v := (4096 : Int32)) C.hx C.hb dX5_isNumber_15 (by decide) ?_
    refine lv_irem C.hx C.hb dX5_isNumber_18 (by decide) ?_
    refine lv_if_ne (tgt := 26) C.hx C.hb dX5_isNumber_19 (by decide) (fun c_3 => ?_) (fun c_3 => ?_)
    · replace h := (if_neg c_3).symm.trans h
      refine lv_iconst (v := (0 : Int32)) C.hx C.hb dX5_isNumber_26 (by decide) ?_
      exact g_zret C hB h (by decide) dX5_isNumber_27
    · replace h := (if_pos c_3).symm.trans h
      refine lv_iconst (v := (1 : Int32)) C.hx C.hb dX5_isNumber_22 (by decide) ?_
      refine lv_goto (tgt := 27) C.hx C.hb dX5_isNumber_23 (by decide) ?_
      exact g_zret C hB h (by decide) dX5_isNumber_27
set_option maxHeartbeats 4000000 in
set_option maxRecDepth 100000 in
theorem cnX5_isNumber (l : Launch) (D : va_G) (cI cJ cZ : ClassId) (ad : Nat → Nat) (sz : Nat) {v0 : Int32} {I : TI} {J : TJ} {z : Int32 × SS}  (h : fX5_isNumber v0 I J = some z) : Met l yX5_isNumber (wsm yX5_isNumber cX5_isNumber 1 (some .boolean)) (rmd 1) (va_Pc [.int v0] (gPre D (mw cI cJ cZ ad) (mt cI cJ cZ) sz I J)) (gQi D (mw cI cJ cZ ad) (mt cI cJ cZ) (mL ad) sz z) 0 0 (gA (mL ad) sz) :=
  g_met (by decide) mw_WL (fun p e s m below meth c hsz C hB ls hl => by subst hsz; exact tX5_isNumber C hB  hl h) (Nat.le_of_ble_eq_true rfl)
theorem hdX5_lays : yX5_lays.cls = "BitTunerModel" ∧ yX5_lays.cls ≠ "java/lang/invoke/MethodHandle" ∧ yX5_lays.cls ≠ "java/lang/invoke/VarHandle" ∧ (parseMethodDescriptor yX5_lays.desc).map (fun d => d.parameters.length) = some 6 := by decide +kernel
def fX5_lays  (v1 : Int32) (v2 : Int32) (v3 : Int32) (v4 : Int32) (v5 : Int64) (v7 : Int64) (I : TI) (J : TJ) : Option (Int32 × SS) :=
  if okx (I 13 0) then
  some (((I 13 0) + (1 : Int32)) - (1 : Int32), (uI (uI (uI (uI (uI (uI (uI (uI I 0 ((I 13 0).toNatClampNeg) v1) 1 ((I 13 0).toNatClampNeg) v2) 2 ((I 13 0).toNatClampNeg) v3) 3 ((I 13 0).toNatClampNeg) v4) 4 ((I 13 0).toNatClampNeg) (16 : Int32)) 5 ((I 13 0).toNatClampNeg) (0 : Int32)) 6 ((I 13 0).toNatClampNeg) (1 : Int32)) 13 0 ((I 13 0) + (1 : Int32))), (uJ (uJ J 0 ((I 13 0).toNatClampNeg) v5) 1 ((I 13 0).toNatClampNeg) v7))
  else none
set_option maxHeartbeats 4000000 in
set_option maxRecDepth 100000 in
theorem tX5_lays {p : Program} {l : Launch} {e : Env} {s : State} {m : MethodId} {args : Array Value} {below : List Frame} {meth : Method} {c : Code} (C : KX p s m args meth c "BitTunerModel" cX5_lays 9 (some .int)) {D : va_G} {cI cJ cZ : ClassId} {ad : Nat → Nat} {z : Int32 × SS}   {H : Heap} {locs : List Loc} {ls : Array Slot} {I : TI} {J : TJ} {v1 : Int32} {v2 : Int32} {v3 : Int32} {v4 : Int32} {v5 : Int64} {v7 : Int64} (hB : MB D cI cJ cZ ad s H locs I J)  (hl : lv_has ls 9 [(0, .ref (ad 0)), (1, .int v1), (2, .int v2), (3, .int v3), (4, .int v4), (5, .long v5), (7, .long v7)]) (h : fX5_lays v1 v2 v3 v4 v5 v7 I J = some z) : W p l e (rmd 0) s m args below meth c H locs 0 0 (MQ below (gQi D (mw cI cJ cZ ad) (mt cI cJ cZ) (mL ad) s.heap.size z) args s 0 0 (gA (mL ad) s.heap.size)) (F0 m 0 ls []) := by
  unfold fX5_lays at h
  refine lv_aload_n C.hx C.hb dX5_lays_0 rfl (lv_at hl 0 rfl) ?_
  refine mg_kinds C hB tw_558 dX5_lays_1 ?_
  refine lv_aload_n C.hx C.hb dX5_lays_4 rfl (lv_at hl 0 rfl) ?_
  refine mg_values C hB tw_557 dX5_lays_5 ?_
  refine lv_iload_n C.hx C.hb dX5_lays_8 rfl (lv_at hl 1 rfl) ?_
  obtain ⟨c_1, h⟩ := ite_ck h
  refine ma_kinds_st C hB c_1 dX5_lays_9 (fun H locs hB => ?_)
  refine lv_aload_n C.hx C.hb dX5_lays_10 rfl (lv_at hl 0 rfl) ?_
  refine mg_a C hB tw_559 dX5_lays_11 ?_
  refine lv_aload_n C.hx C.hb dX5_lays_14 rfl (lv_at hl 0 rfl) ?_
  refine mg_values C hB tw_557 dX5_lays_15 ?_
  refine lv_iload_n C.hx C.hb dX5_lays_18 rfl (lv_at hl 2 rfl) ?_
  refine ma_a_st C hB c_1 dX5_lays_19 (fun H locs hB => ?_)
  refine lv_aload_n C.hx C.hb dX5_lays_20 rfl (lv_at hl 0 rfl) ?_
  refine mg_b C hB tw_560 dX5_lays_21 ?_
  refine lv_aload_n C.hx C.hb dX5_lays_24 rfl (lv_at hl 0 rfl) ?_
  refine mg_values C hB tw_557 dX5_lays_25 ?_
  refine lv_iload_n C.hx C.hb dX5_lays_28 rfl (lv_at hl 3 rfl) ?_
  refine ma_b_st C hB c_1 dX5_lays_29 (fun H locs hB => ?_)
  refine lv_aload_n C.hx C.hb dX5_lays_30 rfl (lv_at hl 0 rfl) ?_
  refine mg_degrees C hB tw_561 dX5_lays_31 ?_
  refine lv_aload_n C.hx C.hb dX5_lays_34 rfl (lv_at hl 0 rfl) ?_
  refine mg_values C hB tw_557 dX5_lays_35 ?_
  refine lv_iload C.hx C.hb dX5_lays_38 (lv_at hl 4 rfl) ?_
  refine ma_degrees_st C hB c_1 dX5_lays_40 (fun H locs hB => ?_)
  refine lv_aload_n C.hx C.hb dX5_lays_41 rfl (lv_at hl 0 rfl) ?_
  refine mg_leasts C hB tw_562 dX5_lays_42 ?_
  refine lv_aload_n C.hx C.hb dX5_lays_45 rfl (lv_at hl 0 rfl) ?_
  refine mg_values C hB tw_557 dX5_lays_46 ?_
  refine lv_lload C.hx C.hb dX5_lays_49 (lv_at hl 5 rfl) ?_
  refine ma_leasts_st C hB c_1 dX5_lays_51 (fun H locs hB => ?_)
  refine lv_aload_n C.hx C.hb dX5_lays_52 rfl (lv_at hl 0 rfl) ?_
  refine mg_mosts C hB tw_563 dX5_lays_53 ?_
  refine lv_aload_n C.hx C.hb dX5_lays_56 rfl (lv_at hl 0 rfl) ?_
  refine mg_values C hB tw_557 dX5_lays_57 ?_
  refine lv_lload C.hx C.hb dX5_lays_60 (lv_at hl 6 rfl) ?_
  refine ma_mosts_st C hB c_1 dX5_lays_62 (fun H locs hB => ?_)
  refine lv_aload_n C.hx C.hb dX5_lays_63 rfl (lv_at hl 0 rfl) ?_
  refine mg_bits C hB tw_564 dX5_lays_64 ?_
  refine lv_aload_n C.hx C.hb dX5_lays_67 rfl (lv_at hl 0 rfl) ?_
  refine mg_values C hB tw_557 dX5_lays_68 ?_
  refine lv_bipush (v := (16 : Int32)) C.hx C.hb dX5_lays_71 (by decide) ?_
  refine ma_bits_st C hB c_1 dX5_lays_73 (fun H locs hB => ?_)
  refine lv_aload_n C.hx C.hb dX5_lays_74 rfl (lv_at hl 0 rfl) ?_
  refine mg_roundings C hB tw_565 dX5_lays_75 ?_
  refine lv_aload_n C.hx C.hb dX5_lays_78 rfl (lv_at hl 0 rfl) ?_
  refine mg_values C hB tw_557 dX5_lays_79 ?_
  refine lv_iconst (v := (0 : Int32)) C.hx C.hb dX5_lays_82 (by decide) ?_
  refine ma_roundings_st C hB c_1 dX5_lays_83 (fun H locs hB => ?_)
  refine lv_aload_n C.hx C.hb dX5_lays_84 rfl (lv_at hl 0 rfl) ?_
  refine mg_weights C hB tw_566 dX5_lays_85 ?_
  refine lv_aload_n C.hx C.hb dX5_lays_88 rfl (lv_at hl 0 rfl) ?_
  refine mg_values C hB tw_557 dX5_lays_89 ?_
  refine lv_iconst (v := (1 : Int32)) C.hx C.hb dX5_lays_92 (by decide) ?_
  refine ma_weights_st C hB c_1 dX5_lays_93 (fun H locs hB => ?_)
  refine lv_aload_n C.hx C.hb dX5_lays_94 rfl (lv_at hl 0 rfl) ?_
  refine lv_dup C.hx C.hb dX5_lays_95 rfl ?_
  refine mg_values C hB tw_557 dX5_lays_96 ?_
  refine lv_iconst (v := (1 : Int32)) C.hx C.hb dX5_lays_99 (by decide) ?_
  refine lv_iadd C.hx C.hb dX5_lays_100 ?_
  refine mp_values C hB tw_557 dX5_lays_101 (fun H locs hB => ?_)
  refine lv_aload_n C.hx C.hb dX5_lays_104 rfl (lv_at hl 0 rfl) ?_
  refine mg_values C hB tw_557 dX5_lays_105 ?_
  refine lv_iconst (v := (1 : Int32)) C.hx C.hb dX5_lays_108 (by decide) ?_
  refine lv_isub C.hx C.hb dX5_lays_109 ?_
  exact g_iret C hB h dX5_lays_110
set_option maxHeartbeats 4000000 in
set_option maxRecDepth 100000 in
theorem cnX5_lays (l : Launch) (D : va_G) (cI cJ cZ : ClassId) (ad : Nat → Nat) (sz : Nat) {v1 : Int32} {v2 : Int32} {v3 : Int32} {v4 : Int32} {v5 : Int64} {v7 : Int64} {I : TI} {J : TJ} {z : Int32 × SS}  (h : fX5_lays v1 v2 v3 v4 v5 v7 I J = some z) : Met l yX5_lays (wsm yX5_lays cX5_lays 9 (some .int)) (rmd 0) (va_Pc [.ref (ad 0), .int v1, .int v2, .int v3, .int v4, .long v5, .long v7] (gPre D (mw cI cJ cZ ad) (mt cI cJ cZ) sz I J)) (gQi D (mw cI cJ cZ ad) (mt cI cJ cZ) (mL ad) sz z) 0 0 (gA (mL ad) sz) :=
  g_met (by decide) mw_WL (fun p e s m below meth c hsz C hB ls hl => by subst hsz; exact tX5_lays C hB  hl h) (Nat.le_of_ble_eq_true rfl)
theorem hdX5_input : yX5_input.cls = "BitTunerModel" ∧ yX5_input.cls ≠ "java/lang/invoke/MethodHandle" ∧ yX5_input.cls ≠ "java/lang/invoke/VarHandle" ∧ (parseMethodDescriptor yX5_input.desc).map (fun d => d.parameters.length) = some 2 := by decide +kernel
def fX5_input  (v1 : Int32) (v2 : Int32) (I : TI) (J : TJ) : Option (Int32 × SS) :=
  bnd (fX5_isNumber v1 I J) (fun q_1 I_1 J_1 =>
  if q_1 = 0 then
  some ((-2 : Int32), I_1, J_1)
  else
  bnd (fX5_isNumber v2 I_1 J_1) (fun q_3 I_3 J_3 =>
  if q_3 = 0 then
  some ((-2 : Int32), I_3, J_3)
  else
  if v1 ≤ v2 then
  if (I_3 13 0) = (16 : Int32) then
  some ((-3 : Int32), I_3, J_3)
  else
  if okx (I_3 13 0) then
  bnd (fX5_lays (0 : Int32) v1 v2 (1 : Int32) v1.toInt64 v2.toInt64 (uI I_3 7 ((I_3 13 0).toNatClampNeg) v1) J_3) (fun q_8 I_8 J_8 =>
  some (q_8, I_8, J_8))
  else none
  else
  some ((-2 : Int32), I_3, J_3)))
set_option maxHeartbeats 4000000 in
set_option maxRecDepth 100000 in
theorem tX5_input {p : Program} {l : Launch} {e : Env} {s : State} {m : MethodId} {args : Array Value} {below : List Frame} {meth : Method} {c : Code} (C : KX p s m args meth c "BitTunerModel" cX5_input 3 (some .int)) {D : va_G} {cI cJ cZ : ClassId} {ad : Nat → Nat} {z : Int32 × SS}   {H : Heap} {locs : List Loc} {ls : Array Slot} {I : TI} {J : TJ} {v1 : Int32} {v2 : Int32} (hB : MB D cI cJ cZ ad s H locs I J)  (hl : lv_has ls 3 [(0, .ref (ad 0)), (1, .int v1), (2, .int v2)]) (h : fX5_input v1 v2 I J = some z) : W p l e (rmd 2) s m args below meth c H locs 0 0 (MQ below (gQi D (mw cI cJ cZ ad) (mt cI cJ cZ) (mL ad) s.heap.size z) args s 0 0 (gA (mL ad) s.heap.size)) (F0 m 0 ls []) := by
  unfold fX5_input at h
  refine lv_iload_n C.hx C.hb dX5_input_0 rfl (lv_at hl 1 rfl) ?_
  obtain ⟨q_1, I_1, J_1, hc_1, h⟩ := bnd_some h
  refine g_goi hB (g_runS C hB [.int v1] [] (cnX5_isNumber l D cI cJ cZ ad H.size  hc_1) tw_620 tw_621 tw_38 tw_622 ⟨rfl, rfl⟩ hdX5_isNumber ⟨Nat.le_of_ble_eq_true rfl, Nat.le_of_ble_eq_true rfl⟩ hl.1 rfl (Nat.le_of_ble_eq_true rfl) dX5_input_1) (fun H locs hB => ?_)
  refine lv_if_eq (tgt := 19) C.hx C.hb dX5_input_4 (by decide) (fun c_2 => ?_) (fun c_2 => ?_)
  · replace h := (if_pos c_2).symm.trans h
    refine lv_bipush (v := (-2 : Int32)) C.hx C.hb dX5_input_19 (by decide) ?_
    exact g_iret C hB h dX5_input_21
  · replace h := (if_neg c_2).symm.trans h
    refine lv_iload_n C.hx C.hb dX5_input_7 rfl (lv_at hl 2 rfl) ?_
    obtain ⟨q_3, I_3, J_3, hc_3, h⟩ := bnd_some h
    refine g_goi hB (g_runS C hB [.int v2] [] (cnX5_isNumber l D cI cJ cZ ad H.size  hc_3) tw_620 tw_621 tw_38 tw_622 ⟨rfl, rfl⟩ hdX5_isNumber ⟨Nat.le_of_ble_eq_true rfl, Nat.le_of_ble_eq_true rfl⟩ hl.1 rfl (Nat.le_of_ble_eq_true rfl) dX5_input_8) (fun H locs hB => ?_)
    refine lv_if_eq (tgt := 19) C.hx C.hb dX5_input_11 (by decide) (fun c_4 => ?_) (fun c_4 => ?_)
    · replace h := (if_pos c_4).symm.trans h
      refine lv_bipush (v := (-2 : Int32)) C.hx C.hb dX5_input_19 (by decide) ?_
      exact g_iret C hB h dX5_input_21
    · replace h := (if_neg c_4).symm.trans h
      refine lv_iload_n C.hx C.hb dX5_input_14 rfl (lv_at hl 1 rfl) ?_
      refine lv_iload_n C.hx C.hb dX5_input_15 rfl (lv_at hl 2 rfl) ?_
      refine lv_icmp_le (tgt := 22) C.hx C.hb dX5_input_16 (by decide) (fun c_5 => ?_) (fun c_5 => ?_)
      · replace h := (if_pos c_5).symm.trans h
        refine lv_aload_n C.hx C.hb dX5_input_22 rfl (lv_at hl 0 rfl) ?_
        refine mg_values C hB tw_557 dX5_input_23 ?_
        refine lv_bipush (v := (16 : Int32)) C.hx C.hb dX5_input_26 (by decide) ?_
        refine lv_icmp_ne (tgt := 34) C.hx C.hb dX5_input_28 (by decide) (fun c_6 => ?_) (fun c_6 => ?_)
        · replace h := (if_neg c_6).symm.trans h
          refine lv_aload_n C.hx C.hb dX5_input_34 rfl (lv_at hl 0 rfl) ?_
          refine mg_setTo C hB tw_567 dX5_input_35 ?_
          refine lv_aload_n C.hx C.hb dX5_input_38 rfl (lv_at hl 0 rfl) ?_
          refine mg_values C hB tw_557 dX5_input_39 ?_
          refine lv_iload_n C.hx C.hb dX5_input_42 rfl (lv_at hl 1 rfl) ?_
          obtain ⟨c_7, h⟩ := ite_ck h
          refine ma_setTo_st C hB c_7 dX5_input_43 (fun H locs hB => ?_)
          refine lv_aload_n C.hx C.hb dX5_input_44 rfl (lv_at hl 0 rfl) ?_
          refine lv_iconst (v := (0 : Int32)) C.hx C.hb dX5_input_45 (by decide) ?_
          refine lv_iload_n C.hx C.hb dX5_input_46 rfl (lv_at hl 1 rfl) ?_
          refine lv_iload_n C.hx C.hb dX5_input_47 rfl (lv_at hl 2 rfl) ?_
          refine lv_iconst (v := (1 : Int32)) C.hx C.hb dX5_input_48 (by decide) ?_
          refine lv_iload_n C.hx C.hb dX5_input_49 rfl (lv_at hl 1 rfl) ?_
          refine lv_i2l C.hx C.hb dX5_input_50 rfl ?_
          refine lv_iload_n C.hx C.hb dX5_input_51 rfl (lv_at hl 2 rfl) ?_
          refine lv_i2l C.hx C.hb dX5_input_52 rfl ?_
          obtain ⟨q_8, I_8, J_8, hc_8, h⟩ := bnd_some h
          refine g_goi hB (g_runV C hB [.int (0 : Int32), .int v1, .int v2, .int (1 : Int32), .long v1.toInt64, .long v2.toInt64] [] (cnX5_lays l D cI cJ cZ ad H.size  hc_8) 0 rfl rfl tw_628 tw_630 tw_14 tw_38 tw_631 ⟨rfl, rfl⟩ hdX5_lays ⟨Nat.le_of_ble_eq_true rfl, Nat.le_of_ble_eq_true rfl⟩ hl.1 rfl (Nat.le_of_ble_eq_true rfl) dX5_input_53) (fun H locs hB => ?_)
          exact g_iret C hB h dX5_input_56
        · replace h := (if_pos c_6).symm.trans h
          refine lv_bipush (v := (-3 : Int32)) C.hx C.hb dX5_input_31 (by decide) ?_
          exact g_iret C hB h dX5_input_33
      · replace h := (if_neg c_5).symm.trans h
        refine lv_bipush (v := (-2 : Int32)) C.hx C.hb dX5_input_19 (by decide) ?_
        exact g_iret C hB h dX5_input_21
set_option maxHeartbeats 4000000 in
set_option maxRecDepth 100000 in
theorem cnX5_input (l : Launch) (D : va_G) (cI cJ cZ : ClassId) (ad : Nat → Nat) (sz : Nat) {v1 : Int32} {v2 : Int32} {I : TI} {J : TJ} {z : Int32 × SS}  (h : fX5_input v1 v2 I J = some z) : Met l yX5_input (wsm yX5_input cX5_input 3 (some .int)) (rmd 2) (va_Pc [.ref (ad 0), .int v1, .int v2] (gPre D (mw cI cJ cZ ad) (mt cI cJ cZ) sz I J)) (gQi D (mw cI cJ cZ ad) (mt cI cJ cZ) (mL ad) sz z) 0 0 (gA (mL ad) sz) :=
  g_met (by decide) mw_WL (fun p e s m below meth c hsz C hB ls hl => by subst hsz; exact tX5_input C hB  hl h) (Nat.le_of_ble_eq_true rfl)
theorem hdX5_fixed : yX5_fixed.cls = "BitTunerModel" ∧ yX5_fixed.cls ≠ "java/lang/invoke/MethodHandle" ∧ yX5_fixed.cls ≠ "java/lang/invoke/VarHandle" ∧ (parseMethodDescriptor yX5_fixed.desc).map (fun d => d.parameters.length) = some 1 := by decide +kernel
def fX5_fixed  (v1 : Int32) (I : TI) (J : TJ) : Option (Int32 × SS) :=
  bnd (fX5_isNumber v1 I J) (fun q_1 I_1 J_1 =>
  if q_1 = 0 then
  some ((-2 : Int32), I_1, J_1)
  else
  if (I_1 13 0) = (16 : Int32) then
  some ((-3 : Int32), I_1, J_1)
  else
  bnd (fX5_lays (1 : Int32) v1 (0 : Int32) (1 : Int32) v1.toInt64 v1.toInt64 I_1 J_1) (fun q_4 I_4 J_4 =>
  some (q_4, I_4, J_4)))
set_option maxHeartbeats 4000000 in
set_option maxRecDepth 100000 in
theorem tX5_fixed {p : Program} {l : Launch} {e : Env} {s : State} {m : MethodId} {args : Array Value} {below : List Frame} {meth : Method} {c : Code} (C : KX p s m args meth c "BitTunerModel" cX5_fixed 2 (some .int)) {D : va_G} {cI cJ cZ : ClassId} {ad : Nat → Nat} {z : Int32 × SS}   {H : Heap} {locs : List Loc} {ls : Array Slot} {I : TI} {J : TJ} {v1 : Int32} (hB : MB D cI cJ cZ ad s H locs I J)  (hl : lv_has ls 2 [(0, .ref (ad 0)), (1, .int v1)]) (h : fX5_fixed v1 I J = some z) : W p l e (rmd 2) s m args below meth c H locs 0 0 (MQ below (gQi D (mw cI cJ cZ ad) (mt cI cJ cZ) (mL ad) s.heap.size z) args s 0 0 (gA (mL ad) s.heap.size)) (F0 m 0 ls []) := by
  unfold fX5_fixed at h
  refine lv_iload_n C.hx C.hb dX5_fixed_0 rfl (lv_at hl 1 rfl) ?_
  obtain ⟨q_1, I_1, J_1, hc_1, h⟩ := bnd_some h
  refine g_goi hB (g_runS C hB [.int v1] [] (cnX5_isNumber l D cI cJ cZ ad H.size  hc_1) tw_620 tw_621 tw_38 tw_622 ⟨rfl, rfl⟩ hdX5_isNumber ⟨Nat.le_of_ble_eq_true rfl, Nat.le_of_ble_eq_true rfl⟩ hl.1 rfl (Nat.le_of_ble_eq_true rfl) dX5_fixed_1) (fun H locs hB => ?_)
  refine lv_if_ne (tgt := 10) C.hx C.hb dX5_fixed_4 (by decide) (fun c_2 => ?_) (fun c_2 => ?_)
  · replace h := (if_neg c_2).symm.trans h
    refine lv_aload_n C.hx C.hb dX5_fixed_10 rfl (lv_at hl 0 rfl) ?_
    refine mg_values C hB tw_557 dX5_fixed_11 ?_
    refine lv_bipush (v := (16 : Int32)) C.hx C.hb dX5_fixed_14 (by decide) ?_
    refine lv_icmp_ne (tgt := 24) C.hx C.hb dX5_fixed_16 (by decide) (fun c_3 => ?_) (fun c_3 => ?_)
    · replace h := (if_neg c_3).symm.trans h
      refine lv_aload_n C.hx C.hb dX5_fixed_24 rfl (lv_at hl 0 rfl) ?_
      refine lv_iconst (v := (1 : Int32)) C.hx C.hb dX5_fixed_25 (by decide) ?_
      refine lv_iload_n C.hx C.hb dX5_fixed_26 rfl (lv_at hl 1 rfl) ?_
      refine lv_iconst (v := (0 : Int32)) C.hx C.hb dX5_fixed_27 (by decide) ?_
      refine lv_iconst (v := (1 : Int32)) C.hx C.hb dX5_fixed_28 (by decide) ?_
      refine lv_iload_n C.hx C.hb dX5_fixed_29 rfl (lv_at hl 1 rfl) ?_
      refine lv_i2l C.hx C.hb dX5_fixed_30 rfl ?_
      refine lv_iload_n C.hx C.hb dX5_fixed_31 rfl (lv_at hl 1 rfl) ?_
      refine lv_i2l C.hx C.hb dX5_fixed_32 rfl ?_
      obtain ⟨q_4, I_4, J_4, hc_4, h⟩ := bnd_some h
      refine g_goi hB (g_runV C hB [.int (1 : Int32), .int v1, .int (0 : Int32), .int (1 : Int32), .long v1.toInt64, .long v1.toInt64] [] (cnX5_lays l D cI cJ cZ ad H.size  hc_4) 0 rfl rfl tw_628 tw_630 tw_14 tw_38 tw_631 ⟨rfl, rfl⟩ hdX5_lays ⟨Nat.le_of_ble_eq_true rfl, Nat.le_of_ble_eq_true rfl⟩ hl.1 rfl (Nat.le_of_ble_eq_true rfl) dX5_fixed_33) (fun H locs hB => ?_)
      exact g_iret C hB h dX5_fixed_36
    · replace h := (if_pos c_3).symm.trans h
      refine lv_bipush (v := (-3 : Int32)) C.hx C.hb dX5_fixed_19 (by decide) ?_
      refine lv_goto (tgt := 36) C.hx C.hb dX5_fixed_21 (by decide) ?_
      exact g_iret C hB h dX5_fixed_36
  · replace h := (if_pos c_2).symm.trans h
    refine lv_bipush (v := (-2 : Int32)) C.hx C.hb dX5_fixed_7 (by decide) ?_
    exact g_iret C hB h dX5_fixed_9
set_option maxHeartbeats 4000000 in
set_option maxRecDepth 100000 in
theorem cnX5_fixed (l : Launch) (D : va_G) (cI cJ cZ : ClassId) (ad : Nat → Nat) (sz : Nat) {v1 : Int32} {I : TI} {J : TJ} {z : Int32 × SS}  (h : fX5_fixed v1 I J = some z) : Met l yX5_fixed (wsm yX5_fixed cX5_fixed 2 (some .int)) (rmd 2) (va_Pc [.ref (ad 0), .int v1] (gPre D (mw cI cJ cZ ad) (mt cI cJ cZ) sz I J)) (gQi D (mw cI cJ cZ ad) (mt cI cJ cZ) (mL ad) sz z) 0 0 (gA (mL ad) sz) :=
  g_met (by decide) mw_WL (fun p e s m below meth c hsz C hB ls hl => by subst hsz; exact tX5_fixed C hB  hl h) (Nat.le_of_ble_eq_true rfl)
theorem hdX5_max : yX5_max.cls = "BitTunerModel" ∧ yX5_max.cls ≠ "java/lang/invoke/MethodHandle" ∧ yX5_max.cls ≠ "java/lang/invoke/VarHandle" ∧ (parseMethodDescriptor yX5_max.desc).map (fun d => d.parameters.length) = some 2 := by decide +kernel
def fX5_max  (v0 : Int64) (v2 : Int64) (I : TI) (J : TJ) : Option (Int64 × SS) :=
  if v0 ≤ v2 then
  some (v2, I, J)
  else
  some (v0, I, J)
set_option maxHeartbeats 4000000 in
set_option maxRecDepth 100000 in
theorem tX5_max {p : Program} {l : Launch} {e : Env} {s : State} {m : MethodId} {args : Array Value} {below : List Frame} {meth : Method} {c : Code} (C : KX p s m args meth c "BitTunerModel" cX5_max 4 (some .long)) {D : va_G} {cI cJ cZ : ClassId} {ad : Nat → Nat} {z : Int64 × SS}   {H : Heap} {locs : List Loc} {ls : Array Slot} {I : TI} {J : TJ} {v0 : Int64} {v2 : Int64} (hB : MB D cI cJ cZ ad s H locs I J)  (hl : lv_has ls 4 [(0, .long v0), (2, .long v2)]) (h : fX5_max v0 v2 I J = some z) : W p l e (rmd 0) s m args below meth c H locs 0 0 (MQ below (gQl D (mw cI cJ cZ ad) (mt cI cJ cZ) (mL ad) s.heap.size z) args s 0 0 (gA (mL ad) s.heap.size)) (F0 m 0 ls []) := by
  unfold fX5_max at h
  refine lv_lload_n C.hx C.hb dX5_max_0 rfl (lv_at hl 0 rfl) ?_
  refine lv_lload_n C.hx C.hb dX5_max_1 rfl (lv_at hl 1 rfl) ?_
  refine g_lcmp_le C (tgt := 10) dX5_max_2 dX5_max_3 (by decide) (fun c_1 => ?_) (fun c_1 => ?_)
  · replace h := (if_pos c_1).symm.trans h
    refine lv_lload_n C.hx C.hb dX5_max_10 rfl (lv_at hl 1 rfl) ?_
    exact g_lret C hB h dX5_max_11
  · replace h := (if_neg c_1).symm.trans h
    refine lv_lload_n C.hx C.hb dX5_max_6 rfl (lv_at hl 0 rfl) ?_
    refine lv_goto (tgt := 11) C.hx C.hb dX5_max_7 (by decide) ?_
    exact g_lret C hB h dX5_max_11
set_option maxHeartbeats 4000000 in
set_option maxRecDepth 100000 in
theorem cnX5_max (l : Launch) (D : va_G) (cI cJ cZ : ClassId) (ad : Nat → Nat) (sz : Nat) {v0 : Int64} {v2 : Int64} {I : TI} {J : TJ} {z : Int64 × SS}  (h : fX5_max v0 v2 I J = some z) : Met l yX5_max (wsm yX5_max cX5_max 4 (some .long)) (rmd 0) (va_Pc [.long v0, .long v2] (gPre D (mw cI cJ cZ ad) (mt cI cJ cZ) sz I J)) (gQl D (mw cI cJ cZ ad) (mt cI cJ cZ) (mL ad) sz z) 0 0 (gA (mL ad) sz) :=
  g_met (by decide) mw_WL (fun p e s m below meth c hsz C hB ls hl => by subst hsz; exact tX5_max C hB  hl h) (Nat.le_of_ble_eq_true rfl)
theorem hdX5_min : yX5_min.cls = "BitTunerModel" ∧ yX5_min.cls ≠ "java/lang/invoke/MethodHandle" ∧ yX5_min.cls ≠ "java/lang/invoke/VarHandle" ∧ (parseMethodDescriptor yX5_min.desc).map (fun d => d.parameters.length) = some 2 := by decide +kernel
def fX5_min  (v0 : Int64) (v2 : Int64) (I : TI) (J : TJ) : Option (Int64 × SS) :=
  if v2 ≤ v0 then
  some (v2, I, J)
  else
  some (v0, I, J)
set_option maxHeartbeats 4000000 in
set_option maxRecDepth 100000 in
theorem tX5_min {p : Program} {l : Launch} {e : Env} {s : State} {m : MethodId} {args : Array Value} {below : List Frame} {meth : Method} {c : Code} (C : KX p s m args meth c "BitTunerModel" cX5_min 4 (some .long)) {D : va_G} {cI cJ cZ : ClassId} {ad : Nat → Nat} {z : Int64 × SS}   {H : Heap} {locs : List Loc} {ls : Array Slot} {I : TI} {J : TJ} {v0 : Int64} {v2 : Int64} (hB : MB D cI cJ cZ ad s H locs I J)  (hl : lv_has ls 4 [(0, .long v0), (2, .long v2)]) (h : fX5_min v0 v2 I J = some z) : W p l e (rmd 0) s m args below meth c H locs 0 0 (MQ below (gQl D (mw cI cJ cZ ad) (mt cI cJ cZ) (mL ad) s.heap.size z) args s 0 0 (gA (mL ad) s.heap.size)) (F0 m 0 ls []) := by
  unfold fX5_min at h
  refine lv_lload_n C.hx C.hb dX5_min_0 rfl (lv_at hl 0 rfl) ?_
  refine lv_lload_n C.hx C.hb dX5_min_1 rfl (lv_at hl 1 rfl) ?_
  refine g_lcmp_ge C (tgt := 10) dX5_min_2 dX5_min_3 (by decide) (fun c_1 => ?_) (fun c_1 => ?_)
  · replace h := (if_pos c_1).symm.trans h
    refine lv_lload_n C.hx C.hb dX5_min_10 rfl (lv_at hl 1 rfl) ?_
    exact g_lret C hB h dX5_min_11
  · replace h := (if_neg c_1).symm.trans h
    refine lv_lload_n C.hx C.hb dX5_min_6 rfl (lv_at hl 0 rfl) ?_
    refine lv_goto (tgt := 11) C.hx C.hb dX5_min_7 (by decide) ?_
    exact g_lret C hB h dX5_min_11
set_option maxHeartbeats 4000000 in
set_option maxRecDepth 100000 in
theorem cnX5_min (l : Launch) (D : va_G) (cI cJ cZ : ClassId) (ad : Nat → Nat) (sz : Nat) {v0 : Int64} {v2 : Int64} {I : TI} {J : TJ} {z : Int64 × SS}  (h : fX5_min v0 v2 I J = some z) : Met l yX5_min (wsm yX5_min cX5_min 4 (some .long)) (rmd 0) (va_Pc [.long v0, .long v2] (gPre D (mw cI cJ cZ ad) (mt cI cJ cZ) sz I J)) (gQl D (mw cI cJ cZ ad) (mt cI cJ cZ) (mL ad) sz z) 0 0 (gA (mL ad) sz) :=
  g_met (by decide) mw_WL (fun p e s m below meth c hsz C hB ls hl => by subst hsz; exact tX5_min C hB  hl h) (Nat.le_of_ble_eq_true rfl)
theorem hdX5_amount : yX5_amount.cls = "BitTunerModel" ∧ yX5_amount.cls ≠ "java/lang/invoke/MethodHandle" ∧ yX5_amount.cls ≠ "java/lang/invoke/VarHandle" ∧ (parseMethodDescriptor yX5_amount.desc).map (fun d => d.parameters.length) = some 1 := by decide +kernel
def fX5_amount  (v0 : Int64) (I : TI) (J : TJ) : Option (Int64 × SS) :=
  if (0 : Int64) ≤ v0 then
  some (v0, I, J)
  else
  some (-v0, I, J)
set_option maxHeartbeats 4000000 in
set_option maxRecDepth 100000 in
theorem tX5_amount {p : Program} {l : Launch} {e : Env} {s : State} {m : MethodId} {args : Array Value} {below : List Frame} {meth : Method} {c : Code} (C : KX p s m args meth c "BitTunerModel" cX5_amount 2 (some .long)) {D : va_G} {cI cJ cZ : ClassId} {ad : Nat → Nat} {z : Int64 × SS}   {H : Heap} {locs : List Loc} {ls : Array Slot} {I : TI} {J : TJ} {v0 : Int64} (hB : MB D cI cJ cZ ad s H locs I J)  (hl : lv_has ls 2 [(0, .long v0)]) (h : fX5_amount v0 I J = some z) : W p l e (rmd 0) s m args below meth c H locs 0 0 (MQ below (gQl D (mw cI cJ cZ ad) (mt cI cJ cZ) (mL ad) s.heap.size z) args s 0 0 (gA (mL ad) s.heap.size)) (F0 m 0 ls []) := by
  unfold fX5_amount at h
  refine lv_lload_n C.hx C.hb dX5_amount_0 rfl (lv_at hl 0 rfl) ?_
  refine lv_lconst (v := (0 : Int64)) C.hx C.hb dX5_amount_1 (by decide) ?_
  refine g_lcmp_ge C (tgt := 11) dX5_amount_2 dX5_amount_3 (by decide) (fun c_1 => ?_) (fun c_1 => ?_)
  · replace h := (if_pos c_1).symm.trans h
    refine lv_lload_n C.hx C.hb dX5_amount_11 rfl (lv_at hl 0 rfl) ?_
    exact g_lret C hB h dX5_amount_12
  · replace h := (if_neg c_1).symm.trans h
    refine lv_lload_n C.hx C.hb dX5_amount_6 rfl (lv_at hl 0 rfl) ?_
    refine lv_lneg C.hx C.hb dX5_amount_7 ?_
    refine lv_goto (tgt := 12) C.hx C.hb dX5_amount_8 (by decide) ?_
    exact g_lret C hB h dX5_amount_12
set_option maxHeartbeats 4000000 in
set_option maxRecDepth 100000 in
theorem cnX5_amount (l : Launch) (D : va_G) (cI cJ cZ : ClassId) (ad : Nat → Nat) (sz : Nat) {v0 : Int64} {I : TI} {J : TJ} {z : Int64 × SS}  (h : fX5_amount v0 I J = some z) : Met l yX5_amount (wsm yX5_amount cX5_amount 2 (some .long)) (rmd 0) (va_Pc [.long v0] (gPre D (mw cI cJ cZ ad) (mt cI cJ cZ) sz I J)) (gQl D (mw cI cJ cZ ad) (mt cI cJ cZ) (mL ad) sz z) 0 0 (gA (mL ad) sz) :=
  g_met (by decide) mw_WL (fun p e s m below meth c hsz C hB ls hl => by subst hsz; exact tX5_amount C hB  hl h) (Nat.le_of_ble_eq_true rfl)
theorem hdX5_work : yX5_work.cls = "BitTunerModel" ∧ yX5_work.cls ≠ "java/lang/invoke/MethodHandle" ∧ yX5_work.cls ≠ "java/lang/invoke/VarHandle" ∧ (parseMethodDescriptor yX5_work.desc).map (fun d => d.parameters.length) = some 3 := by decide +kernel
def fX5_work_367  (v1 : Int32) (v2 : Int32) (v3 : Int32) (v12 : Int32) (v13 : Int64) (v15 : Int64) (I : TI) (J : TJ) : Option (Int32 × SS) :=
  if (4 : Int32) < v12 then
  some ((-4 : Int32), I, J)
  else
  bnd (fX5_in v13 (-67108864 : Int64) (67108864 : Int64) I J) (fun q_15 I_15 J_15 =>
  if q_15 = 0 then
  some ((-4 : Int32), I_15, J_15)
  else
  bnd (fX5_in v15 (-67108864 : Int64) (67108864 : Int64) I_15 J_15) (fun q_17 I_17 J_17 =>
  if q_17 = 0 then
  some ((-4 : Int32), I_17, J_17)
  else
  bnd (fX5_lays v1 v2 v3 v12 v13 v15 I_17 J_17) (fun q_19 I_19 J_19 =>
  some (q_19, I_19, J_19))))
set_option maxHeartbeats 4000000 in
set_option maxRecDepth 100000 in
theorem tX5_work_367 {p : Program} {l : Launch} {e : Env} {s : State} {m : MethodId} {args : Array Value} {below : List Frame} {meth : Method} {c : Code} (C : KX p s m args meth c "BitTunerModel" cX5_work 17 (some .int)) {D : va_G} {cI cJ cZ : ClassId} {ad : Nat → Nat} {z : Int32 × SS}   {H : Heap} {locs : List Loc} {ls : Array Slot} {I : TI} {J : TJ} {v1 : Int32} {v2 : Int32} {v3 : Int32} {v12 : Int32} {v13 : Int64} {v15 : Int64} (hB : MB D cI cJ cZ ad s H locs I J)  (hl : lv_has ls 17 [(0, .ref (ad 0)), (1, .int v1), (2, .int v2), (3, .int v3), (12, .int v12), (13, .long v13), (15, .long v15)]) (h : fX5_work_367 v1 v2 v3 v12 v13 v15 I J = some z) : W p l e (rmd 2) s m args below meth c H locs 0 0 (MQ below (gQi D (mw cI cJ cZ ad) (mt cI cJ cZ) (mL ad) s.heap.size z) args s 0 0 (gA (mL ad) s.heap.size)) (F0 m 367 ls []) := by
  unfold fX5_work_367 at h
  refine lv_iload C.hx C.hb dX5_work_367 (lv_at hl 4 rfl) ?_
  refine lv_iconst (v := (4 : Int32)) C.hx C.hb dX5_work_369 (by decide) ?_
  refine lv_icmp_gt (tgt := 401) C.hx C.hb dX5_work_370 (by decide) (fun c_14 => ?_) (fun c_14 => ?_)
  · replace h := (if_pos c_14).symm.trans h
    refine lv_bipush (v := (-4 : Int32)) C.hx C.hb dX5_work_401 (by decide) ?_
    exact g_iret C hB h dX5_work_403
  · replace h := (if_neg c_14).symm.trans h
    refine lv_lload C.hx C.hb dX5_work_373 (lv_at hl 5 rfl) ?_
    refine lv_ldc2 C.hx C.hb C.hown (C.hts _ tw_656) dX5_work_375 ?_
    refine lv_ldc2 C.hx C.hb C.hown (C.hts _ tw_657) dX5_work_378 ?_
    obtain ⟨q_15, I_15, J_15, hc_15, h⟩ := bnd_some h
    refine g_goi hB (g_runS C hB [.long v13, .long (-67108864 : Int64), .long (67108864 : Int64)] [] (cnX5_in l D cI cJ cZ ad H.size  hc_15) tw_625 tw_626 tw_38 tw_627 ⟨rfl, rfl⟩ hdX5_in ⟨Nat.le_of_ble_eq_true rfl, Nat.le_of_ble_eq_true rfl⟩ hl.1 rfl (Nat.le_of_ble_eq_true rfl) dX5_work_381) (fun H locs hB => ?_)
    refine lv_if_eq (tgt := 401) C.hx C.hb dX5_work_384 (by decide) (fun c_16 => ?_) (fun c_16 => ?_)
    · replace h := (if_pos c_16).symm.trans h
      refine lv_bipush (v := (-4 : Int32)) C.hx C.hb dX5_work_401 (by decide) ?_
      exact g_iret C hB h dX5_work_403
    · replace h := (if_neg c_16).symm.trans h
      refine lv_lload C.hx C.hb dX5_work_387 (lv_at hl 6 rfl) ?_
      refine lv_ldc2 C.hx C.hb C.hown (C.hts _ tw_656) dX5_work_389 ?_
      refine lv_ldc2 C.hx C.hb C.hown (C.hts _ tw_657) dX5_work_392 ?_
      obtain ⟨q_17, I_17, J_17, hc_17, h⟩ := bnd_some h
      refine g_goi hB (g_runS C hB [.long v15, .long (-67108864 : Int64), .long (67108864 : Int64)] [] (cnX5_in l D cI cJ cZ ad H.size  hc_17) tw_625 tw_626 tw_38 tw_627 ⟨rfl, rfl⟩ hdX5_in ⟨Nat.le_of_ble_eq_true rfl, Nat.le_of_ble_eq_true rfl⟩ hl.1 rfl (Nat.le_of_ble_eq_true rfl) dX5_work_395) (fun H locs hB => ?_)
      refine lv_if_ne (tgt := 404) C.hx C.hb dX5_work_398 (by decide) (fun c_18 => ?_) (fun c_18 => ?_)
      · replace h := (if_neg c_18).symm.trans h
        refine lv_aload_n C.hx C.hb dX5_work_404 rfl (lv_at hl 0 rfl) ?_
        refine lv_iload_n C.hx C.hb dX5_work_405 rfl (lv_at hl 1 rfl) ?_
        refine lv_iload_n C.hx C.hb dX5_work_406 rfl (lv_at hl 2 rfl) ?_
        refine lv_iload_n C.hx C.hb dX5_work_407 rfl (lv_at hl 3 rfl) ?_
        refine lv_iload C.hx C.hb dX5_work_408 (lv_at hl 4 rfl) ?_
        refine lv_lload C.hx C.hb dX5_work_410 (lv_at hl 5 rfl) ?_
        refine lv_lload C.hx C.hb dX5_work_412 (lv_at hl 6 rfl) ?_
        obtain ⟨q_19, I_19, J_19, hc_19, h⟩ := bnd_some h
        refine g_goi hB (g_runV C hB [.int v1, .int v2, .int v3, .int v12, .long v13, .long v15] [] (cnX5_lays l D cI cJ cZ ad H.size  hc_19) 0 rfl rfl tw_628 tw_630 tw_14 tw_38 tw_631 ⟨rfl, rfl⟩ hdX5_lays ⟨Nat.le_of_ble_eq_true rfl, Nat.le_of_ble_eq_true rfl⟩ hl.1 rfl (Nat.le_of_ble_eq_true rfl) dX5_work_414) (fun H locs hB => ?_)
        exact g_iret C hB h dX5_work_417
      · replace h := (if_pos c_18).symm.trans h
        refine lv_bipush (v := (-4 : Int32)) C.hx C.hb dX5_work_401 (by decide) ?_
        exact g_iret C hB h dX5_work_403
def fX5_work_347  (v1 : Int32) (v2 : Int32) (v3 : Int32) (v4 : Int64) (v6 : Int64) (v12 : Int32) (w0 : Int64) (I : TI) (J : TJ) : Option (Int32 × SS) :=
  bnd (fX5_amount v4 I J) (fun q_36 I_36 J_36 =>
  bnd (fX5_amount v6 I_36 J_36) (fun q_37 I_37 J_37 =>
  bnd (fX5_max q_36 q_37 I_37 J_37) (fun q_38 I_38 J_38 =>
  fX5_work_367 v1 v2 v3 v12 w0 q_38 I_38 J_38)))
set_option maxHeartbeats 4000000 in
set_option maxRecDepth 100000 in
theorem tX5_work_347 {p : Program} {l : Launch} {e : Env} {s : State} {m : MethodId} {args : Array Value} {below : List Frame} {meth : Method} {c : Code} (C : KX p s m args meth c "BitTunerModel" cX5_work 17 (some .int)) {D : va_G} {cI cJ cZ : ClassId} {ad : Nat → Nat} {z : Int32 × SS}   {H : Heap} {locs : List Loc} {ls : Array Slot} {I : TI} {J : TJ} {v1 : Int32} {v2 : Int32} {v3 : Int32} {v4 : Int64} {v6 : Int64} {v12 : Int32} {w0 : Int64} (hB : MB D cI cJ cZ ad s H locs I J)  (hl : lv_has ls 17 [(0, .ref (ad 0)), (1, .int v1), (2, .int v2), (3, .int v3), (4, .long v4), (6, .long v6), (12, .int v12)]) (h : fX5_work_347 v1 v2 v3 v4 v6 v12 w0 I J = some z) : W p l e (rmd 2) s m args below meth c H locs 0 0 (MQ below (gQi D (mw cI cJ cZ ad) (mt cI cJ cZ) (mL ad) s.heap.size z) args s 0 0 (gA (mL ad) s.heap.size)) (F0 m 347 ls [.long w0]) := by
  unfold fX5_work_347 at h
  refine lv_lstore (lv' := [(13, .long w0), (0, .ref (ad 0)), (1, .int v1), (2, .int v2), (3, .int v3), (4, .long v4), (6, .long v6), (12, .int v12)]) C.hx C.hb dX5_work_347 hl (by decide) rfl (fun ls hl => ?_)
  refine lv_lload C.hx C.hb dX5_work_349 (lv_at hl 5 rfl) ?_
  obtain ⟨q_36, I_36, J_36, hc_36, h⟩ := bnd_some h
  refine g_gol hB (g_runS C hB [.long v4] [] (cnX5_amount l D cI cJ cZ ad H.size  hc_36) tw_653 tw_654 tw_38 tw_655 ⟨rfl, rfl⟩ hdX5_amount ⟨Nat.le_of_ble_eq_true rfl, Nat.le_of_ble_eq_true rfl⟩ hl.1 rfl (Nat.le_of_ble_eq_true rfl) dX5_work_351) (fun H locs hB => ?_)
  refine lv_lload C.hx C.hb dX5_work_354 (lv_at hl 6 rfl) ?_
  obtain ⟨q_37, I_37, J_37, hc_37, h⟩ := bnd_some h
  refine g_gol hB (g_runS C hB [.long v6] [.long q_36] (cnX5_amount l D cI cJ cZ ad H.size  hc_37) tw_653 tw_654 tw_38 tw_655 ⟨rfl, rfl⟩ hdX5_amount ⟨Nat.le_of_ble_eq_true rfl, Nat.le_of_ble_eq_true rfl⟩ hl.1 rfl (Nat.le_of_ble_eq_true rfl) dX5_work_356) (fun H locs hB => ?_)
  obtain ⟨q_38, I_38, J_38, hc_38, h⟩ := bnd_some h
  refine g_gol hB (g_runS C hB [.long q_36, .long q_37] [] (cnX5_max l D cI cJ cZ ad H.size  hc_38) tw_646 tw_647 tw_38 tw_648 ⟨rfl, rfl⟩ hdX5_max ⟨Nat.le_of_ble_eq_true rfl, Nat.le_of_ble_eq_true rfl⟩ hl.1 rfl (Nat.le_of_ble_eq_true rfl) dX5_work_359) (fun H locs hB => ?_)
  refine lv_lstore (lv' := [(15, .long q_38), (13, .long w0), (0, .ref (ad 0)), (1, .int v1), (2, .int v2), (3, .int v3), (4, .long v4), (6, .long v6), (12, .int v12)]) C.hx C.hb dX5_work_362 hl (by decide) rfl (fun ls hl => ?_)
  refine lv_goto (tgt := 367) C.hx C.hb dX5_work_364 (by decide) ?_
  exact tX5_work_367 C  hB (lv_sub hl [2, 3, 4, 5, 8, 1, 0] rfl) h
def fX5_work_334  (v1 : Int32) (v2 : Int32) (v3 : Int32) (v4 : Int64) (v6 : Int64) (v12 : Int32) (I : TI) (J : TJ) : Option (Int32 × SS) :=
  bnd (fX5_amount v4 I J) (fun q_33 I_33 J_33 =>
  bnd (fX5_amount v6 I_33 J_33) (fun q_34 I_34 J_34 =>
  bnd (fX5_min q_33 q_34 I_34 J_34) (fun q_35 I_35 J_35 =>
  fX5_work_347 v1 v2 v3 v4 v6 v12 q_35 I_35 J_35)))
set_option maxHeartbeats 4000000 in
set_option maxRecDepth 100000 in
theorem tX5_work_334 {p : Program} {l : Launch} {e : Env} {s : State} {m : MethodId} {args : Array Value} {below : List Frame} {meth : Method} {c : Code} (C : KX p s m args meth c "BitTunerModel" cX5_work 17 (some .int)) {D : va_G} {cI cJ cZ : ClassId} {ad : Nat → Nat} {z : Int32 × SS}   {H : Heap} {locs : List Loc} {ls : Array Slot} {I : TI} {J : TJ} {v1 : Int32} {v2 : Int32} {v3 : Int32} {v4 : Int64} {v6 : Int64} {v12 : Int32} (hB : MB D cI cJ cZ ad s H locs I J)  (hl : lv_has ls 17 [(0, .ref (ad 0)), (1, .int v1), (2, .int v2), (3, .int v3), (4, .long v4), (6, .long v6), (12, .int v12)]) (h : fX5_work_334 v1 v2 v3 v4 v6 v12 I J = some z) : W p l e (rmd 2) s m args below meth c H locs 0 0 (MQ below (gQi D (mw cI cJ cZ ad) (mt cI cJ cZ) (mL ad) s.heap.size z) args s 0 0 (gA (mL ad) s.heap.size)) (F0 m 334 ls []) := by
  unfold fX5_work_334 at h
  refine lv_lload C.hx C.hb dX5_work_334 (lv_at hl 4 rfl) ?_
  obtain ⟨q_33, I_33, J_33, hc_33, h⟩ := bnd_some h
  refine g_gol hB (g_runS C hB [.long v4] [] (cnX5_amount l D cI cJ cZ ad H.size  hc_33) tw_653 tw_654 tw_38 tw_655 ⟨rfl, rfl⟩ hdX5_amount ⟨Nat.le_of_ble_eq_true rfl, Nat.le_of_ble_eq_true rfl⟩ hl.1 rfl (Nat.le_of_ble_eq_true rfl) dX5_work_336) (fun H locs hB => ?_)
  refine lv_lload C.hx C.hb dX5_work_339 (lv_at hl 5 rfl) ?_
  obtain ⟨q_34, I_34, J_34, hc_34, h⟩ := bnd_some h
  refine g_gol hB (g_runS C hB [.long v6] [.long q_33] (cnX5_amount l D cI cJ cZ ad H.size  hc_34) tw_653 tw_654 tw_38 tw_655 ⟨rfl, rfl⟩ hdX5_amount ⟨Nat.le_of_ble_eq_true rfl, Nat.le_of_ble_eq_true rfl⟩ hl.1 rfl (Nat.le_of_ble_eq_true rfl) dX5_work_341) (fun H locs hB => ?_)
  obtain ⟨q_35, I_35, J_35, hc_35, h⟩ := bnd_some h
  refine g_gol hB (g_runS C hB [.long q_33, .long q_34] [] (cnX5_min l D cI cJ cZ ad H.size  hc_35) tw_649 tw_650 tw_38 tw_651 ⟨rfl, rfl⟩ hdX5_min ⟨Nat.le_of_ble_eq_true rfl, Nat.le_of_ble_eq_true rfl⟩ hl.1 rfl (Nat.le_of_ble_eq_true rfl) dX5_work_344) (fun H locs hB => ?_)
  exact tX5_work_347 C  hB (lv_sub hl [0, 1, 2, 3, 4, 5, 6] rfl) h
def fX5_work_143  (v1 : Int32) (v2 : Int32) (v3 : Int32) (v4 : Int64) (v6 : Int64) (v8 : Int64) (v10 : Int64) (w0 : Int32) (I : TI) (J : TJ) : Option (Int32 × SS) :=
  if v1 = 2 then
  fX5_work_367 v1 v2 v3 w0 (v4 + v8) (v6 + v10) I J
  else
  if v1 = 3 then
  fX5_work_367 v1 v2 v3 w0 (v4 - v10) (v6 - v8) I J
  else
  if v1 = 4 then
  bnd (fX5_min (v4 * v8) (v4 * v10) I J) (fun q_22 I_22 J_22 =>
  bnd (fX5_min (v6 * v8) (v6 * v10) I_22 J_22) (fun q_23 I_23 J_23 =>
  bnd (fX5_min q_22 q_23 I_23 J_23) (fun q_24 I_24 J_24 =>
  bnd (fX5_max (v4 * v8) (v4 * v10) I_24 J_24) (fun q_25 I_25 J_25 =>
  bnd (fX5_max (v6 * v8) (v6 * v10) I_25 J_25) (fun q_26 I_26 J_26 =>
  bnd (fX5_max q_25 q_26 I_26 J_26) (fun q_27 I_27 J_27 =>
  fX5_work_367 v1 v2 v3 w0 (q_24 / (65536 : Int64)) (q_27 / (65536 : Int64)) I_27 J_27))))))
  else
  if v1 = 5 then
  bnd (fX5_max v4 v8 I J) (fun q_29 I_29 J_29 =>
  bnd (fX5_max v6 v10 I_29 J_29) (fun q_30 I_30 J_30 =>
  fX5_work_367 v1 v2 v3 w0 q_29 q_30 I_30 J_30))
  else
  if v1 = 6 then
  if (0 : Int64) < v4 then
  fX5_work_334 v1 v2 v3 v4 v6 w0 I J
  else
  if v6 < (0 : Int64) then
  fX5_work_334 v1 v2 v3 v4 v6 w0 I J
  else
  fX5_work_347 v1 v2 v3 v4 v6 w0 (0 : Int64) I J
  else
  fX5_work_367 v1 v2 v3 w0 v4 v6 I J
set_option maxHeartbeats 4000000 in
set_option maxRecDepth 100000 in
theorem tX5_work_143 {p : Program} {l : Launch} {e : Env} {s : State} {m : MethodId} {args : Array Value} {below : List Frame} {meth : Method} {c : Code} (C : KX p s m args meth c "BitTunerModel" cX5_work 17 (some .int)) {D : va_G} {cI cJ cZ : ClassId} {ad : Nat → Nat} {z : Int32 × SS}   {H : Heap} {locs : List Loc} {ls : Array Slot} {I : TI} {J : TJ} {v1 : Int32} {v2 : Int32} {v3 : Int32} {v4 : Int64} {v6 : Int64} {v8 : Int64} {v10 : Int64} {w0 : Int32} (hB : MB D cI cJ cZ ad s H locs I J)  (hl : lv_has ls 17 [(0, .ref (ad 0)), (1, .int v1), (2, .int v2), (3, .int v3), (4, .long v4), (6, .long v6), (8, .long v8), (10, .long v10)]) (h : fX5_work_143 v1 v2 v3 v4 v6 v8 v10 w0 I J = some z) : W p l e (rmd 2) s m args below meth c H locs 0 0 (MQ below (gQi D (mw cI cJ cZ ad) (mt cI cJ cZ) (mL ad) s.heap.size z) args s 0 0 (gA (mL ad) s.heap.size)) (F0 m 143 ls [.int w0]) := by
  unfold fX5_work_143 at h
  refine lv_istore (lv' := [(12, .int w0), (0, .ref (ad 0)), (1, .int v1), (2, .int v2), (3, .int v3), (4, .long v4), (6, .long v6), (8, .long v8), (10, .long v10)]) C.hx C.hb dX5_work_143 hl (by decide) rfl (fun ls hl => ?_)
  refine lv_lload C.hx C.hb dX5_work_145 (lv_at hl 5 rfl) ?_
  refine lv_lstore (lv' := [(13, .long v4), (12, .int w0), (0, .ref (ad 0)), (1, .int v1), (2, .int v2), (3, .int v3), (4, .long v4), (6, .long v6), (8, .long v8), (10, .long v10)]) C.hx C.hb dX5_work_147 hl (by decide) rfl (fun ls hl => ?_)
  refine lv_lload C.hx C.hb dX5_work_149 (lv_at hl 7 rfl) ?_
  refine lv_lstore (lv' := [(15, .long v6), (13, .long v4), (12, .int w0), (0, .ref (ad 0)), (1, .int v1), (2, .int v2), (3, .int v3), (4, .long v4), (6, .long v6), (8, .long v8), (10, .long v10)]) C.hx C.hb dX5_work_151 hl (by decide) rfl (fun ls hl => ?_)
  refine lv_iload_n C.hx C.hb dX5_work_153 rfl (lv_at hl 4 rfl) ?_
  by_cases c_13 : v1 = 2
  · replace h := (if_pos c_13).symm.trans h
    refine lv_tableIn (x := v1) (tgt := 188) (off := 34) C.hx C.hb dX5_work_154 (by rw [c_13]; decide) (by rw [c_13]; decide) (by rw [c_13]; rfl) (by decide) ?_
    refine lv_lload C.hx C.hb dX5_work_188 (lv_at hl 7 rfl) ?_
    refine lv_lload C.hx C.hb dX5_work_190 (lv_at hl 9 rfl) ?_
    refine lv_ladd C.hx C.hb dX5_work_192 ?_
    refine lv_lstore (lv' := [(13, .long (v4 + v8)), (15, .long v6), (12, .int w0), (0, .ref (ad 0)), (1, .int v1), (2, .int v2), (3, .int v3), (4, .long v4), (6, .long v6), (8, .long v8), (10, .long v10)]) C.hx C.hb dX5_work_193 hl (by decide) rfl (fun ls hl => ?_)
    refine lv_lload C.hx C.hb dX5_work_195 (lv_at hl 8 rfl) ?_
    refine lv_lload C.hx C.hb dX5_work_197 (lv_at hl 10 rfl) ?_
    refine lv_ladd C.hx C.hb dX5_work_199 ?_
    refine lv_lstore (lv' := [(15, .long (v6 + v10)), (13, .long (v4 + v8)), (12, .int w0), (0, .ref (ad 0)), (1, .int v1), (2, .int v2), (3, .int v3), (4, .long v4), (6, .long v6), (8, .long v8), (10, .long v10)]) C.hx C.hb dX5_work_200 hl (by decide) rfl (fun ls hl => ?_)
    refine lv_goto (tgt := 367) C.hx C.hb dX5_work_202 (by decide) ?_
    exact tX5_work_367 C  hB (lv_sub hl [3, 4, 5, 6, 2, 1, 0] rfl) h
  · replace h := (if_neg c_13).symm.trans h
    by_cases c_20 : v1 = 3
    · replace h := (if_pos c_20).symm.trans h
      refine lv_tableIn (x := v1) (tgt := 205) (off := 51) C.hx C.hb dX5_work_154 (by rw [c_20]; decide) (by rw [c_20]; decide) (by rw [c_20]; rfl) (by decide) ?_
      refine lv_lload C.hx C.hb dX5_work_205 (lv_at hl 7 rfl) ?_
      refine lv_lload C.hx C.hb dX5_work_207 (lv_at hl 10 rfl) ?_
      refine lv_lsub C.hx C.hb dX5_work_209 ?_
      refine lv_lstore (lv' := [(13, .long (v4 - v10)), (15, .long v6), (12, .int w0), (0, .ref (ad 0)), (1, .int v1), (2, .int v2), (3, .int v3), (4, .long v4), (6, .long v6), (8, .long v8), (10, .long v10)]) C.hx C.hb dX5_work_210 hl (by decide) rfl (fun ls hl => ?_)
      refine lv_lload C.hx C.hb dX5_work_212 (lv_at hl 8 rfl) ?_
      refine lv_lload C.hx C.hb dX5_work_214 (lv_at hl 9 rfl) ?_
      refine lv_lsub C.hx C.hb dX5_work_216 ?_
      refine lv_lstore (lv' := [(15, .long (v6 - v8)), (13, .long (v4 - v10)), (12, .int w0), (0, .ref (ad 0)), (1, .int v1), (2, .int v2), (3, .int v3), (4, .long v4), (6, .long v6), (8, .long v8), (10, .long v10)]) C.hx C.hb dX5_work_217 hl (by decide) rfl (fun ls hl => ?_)
      refine lv_goto (tgt := 367) C.hx C.hb dX5_work_219 (by decide) ?_
      exact tX5_work_367 C  hB (lv_sub hl [3, 4, 5, 6, 2, 1, 0] rfl) h
    · replace h := (if_neg c_20).symm.trans h
      by_cases c_21 : v1 = 4
      · replace h := (if_pos c_21).symm.trans h
        refine lv_tableIn (x := v1) (tgt := 222) (off := 68) C.hx C.hb dX5_work_154 (by rw [c_21]; decide) (by rw [c_21]; decide) (by rw [c_21]; rfl) (by decide) ?_
        refine lv_lload C.hx C.hb dX5_work_222 (lv_at hl 7 rfl) ?_
        refine lv_lload C.hx C.hb dX5_work_224 (lv_at hl 9 rfl) ?_
        refine lv_lmul C.hx C.hb dX5_work_226 ?_
        refine lv_lload C.hx C.hb dX5_work_227 (lv_at hl 7 rfl) ?_
        refine lv_lload C.hx C.hb dX5_work_229 (lv_at hl 10 rfl) ?_
        refine lv_lmul C.hx C.hb dX5_work_231 ?_
        obtain ⟨q_22, I_22, J_22, hc_22, h⟩ := bnd_some h
        refine g_gol hB (g_runS C hB [.long (v4 * v8), .long (v4 * v10)] [] (cnX5_min l D cI cJ cZ ad H.size  hc_22) tw_649 tw_650 tw_38 tw_651 ⟨rfl, rfl⟩ hdX5_min ⟨Nat.le_of_ble_eq_true rfl, Nat.le_of_ble_eq_true rfl⟩ hl.1 rfl (Nat.le_of_ble_eq_true rfl) dX5_work_232) (fun H locs hB => ?_)
        refine lv_lload C.hx C.hb dX5_work_235 (lv_at hl 8 rfl) ?_
        refine lv_lload C.hx C.hb dX5_work_237 (lv_at hl 9 rfl) ?_
        refine lv_lmul C.hx C.hb dX5_work_239 ?_
        refine lv_lload C.hx C.hb dX5_work_240 (lv_at hl 8 rfl) ?_
        refine lv_lload C.hx C.hb dX5_work_242 (lv_at hl 10 rfl) ?_
        refine lv_lmul C.hx C.hb dX5_work_244 ?_
        obtain ⟨q_23, I_23, J_23, hc_23, h⟩ := bnd_some h
        refine g_gol hB (g_runS C hB [.long (v6 * v8), .long (v6 * v10)] [.long q_22] (cnX5_min l D cI cJ cZ ad H.size  hc_23) tw_649 tw_650 tw_38 tw_651 ⟨rfl, rfl⟩ hdX5_min ⟨Nat.le_of_ble_eq_true rfl, Nat.le_of_ble_eq_true rfl⟩ hl.1 rfl (Nat.le_of_ble_eq_true rfl) dX5_work_245) (fun H locs hB => ?_)
        obtain ⟨q_24, I_24, J_24, hc_24, h⟩ := bnd_some h
        refine g_gol hB (g_runS C hB [.long q_22, .long q_23] [] (cnX5_min l D cI cJ cZ ad H.size  hc_24) tw_649 tw_650 tw_38 tw_651 ⟨rfl, rfl⟩ hdX5_min ⟨Nat.le_of_ble_eq_true rfl, Nat.le_of_ble_eq_true rfl⟩ hl.1 rfl (Nat.le_of_ble_eq_true rfl) dX5_work_248) (fun H locs hB => ?_)
        refine lv_ldc2 C.hx C.hb C.hown (C.hts _ tw_652) dX5_work_251 ?_
        refine lv_ldiv C.hx C.hb dX5_work_254 (by decide) ?_
        refine lv_lstore (lv' := [(13, .long (q_24 / (65536 : Int64))), (15, .long v6), (12, .int w0), (0, .ref (ad 0)), (1, .int v1), (2, .int v2), (3, .int v3), (4, .long v4), (6, .long v6), (8, .long v8), (10, .long v10)]) C.hx C.hb dX5_work_255 hl (by decide) rfl (fun ls hl => ?_)
        refine lv_lload C.hx C.hb dX5_work_257 (lv_at hl 7 rfl) ?_
        refine lv_lload C.hx C.hb dX5_work_259 (lv_at hl 9 rfl) ?_
        refine lv_lmul C.hx C.hb dX5_work_261 ?_
        refine lv_lload C.hx C.hb dX5_work_262 (lv_at hl 7 rfl) ?_
        refine lv_lload C.hx C.hb dX5_work_264 (lv_at hl 10 rfl) ?_
        refine lv_lmul C.hx C.hb dX5_work_266 ?_
        obtain ⟨q_25, I_25, J_25, hc_25, h⟩ := bnd_some h
        refine g_gol hB (g_runS C hB [.long (v4 * v8), .long (v4 * v10)] [] (cnX5_max l D cI cJ cZ ad H.size  hc_25) tw_646 tw_647 tw_38 tw_648 ⟨rfl, rfl⟩ hdX5_max ⟨Nat.le_of_ble_eq_true rfl, Nat.le_of_ble_eq_true rfl⟩ hl.1 rfl (Nat.le_of_ble_eq_true rfl) dX5_work_267) (fun H locs hB => ?_)
        refine lv_lload C.hx C.hb dX5_work_270 (lv_at hl 8 rfl) ?_
        refine lv_lload C.hx C.hb dX5_work_272 (lv_at hl 9 rfl) ?_
        refine lv_lmul C.hx C.hb dX5_work_274 ?_
        refine lv_lload C.hx C.hb dX5_work_275 (lv_at hl 8 rfl) ?_
        refine lv_lload C.hx C.hb dX5_work_277 (lv_at hl 10 rfl) ?_
        refine lv_lmul C.hx C.hb dX5_work_279 ?_
        obtain ⟨q_26, I_26, J_26, hc_26, h⟩ := bnd_some h
        refine g_gol hB (g_runS C hB [.long (v6 * v8), .long (v6 * v10)] [.long q_25] (cnX5_max l D cI cJ cZ ad H.size  hc_26) tw_646 tw_647 tw_38 tw_648 ⟨rfl, rfl⟩ hdX5_max ⟨Nat.le_of_ble_eq_true rfl, Nat.le_of_ble_eq_true rfl⟩ hl.1 rfl (Nat.le_of_ble_eq_true rfl) dX5_work_280) (fun H locs hB => ?_)
        obtain ⟨q_27, I_27, J_27, hc_27, h⟩ := bnd_some h
        refine g_gol hB (g_runS C hB [.long q_25, .long q_26] [] (cnX5_max l D cI cJ cZ ad H.size  hc_27) tw_646 tw_647 tw_38 tw_648 ⟨rfl, rfl⟩ hdX5_max ⟨Nat.le_of_ble_eq_true rfl, Nat.le_of_ble_eq_true rfl⟩ hl.1 rfl (Nat.le_of_ble_eq_true rfl) dX5_work_283) (fun H locs hB => ?_)
        refine lv_ldc2 C.hx C.hb C.hown (C.hts _ tw_652) dX5_work_286 ?_
        refine lv_ldiv C.hx C.hb dX5_work_289 (by decide) ?_
        refine lv_lstore (lv' := [(15, .long (q_27 / (65536 : Int64))), (13, .long (q_24 / (65536 : Int64))), (12, .int w0), (0, .ref (ad 0)), (1, .int v1), (2, .int v2), (3, .int v3), (4, .long v4), (6, .long v6), (8, .long v8), (10, .long v10)]) C.hx C.hb dX5_work_290 hl (by decide) rfl (fun ls hl => ?_)
        refine lv_goto (tgt := 367) C.hx C.hb dX5_work_292 (by decide) ?_
        exact tX5_work_367 C  hB (lv_sub hl [3, 4, 5, 6, 2, 1, 0] rfl) h
      · replace h := (if_neg c_21).symm.trans h
        by_cases c_28 : v1 = 5
        · replace h := (if_pos c_28).symm.trans h
          refine lv_tableIn (x := v1) (tgt := 295) (off := 141) C.hx C.hb dX5_work_154 (by rw [c_28]; decide) (by rw [c_28]; decide) (by rw [c_28]; rfl) (by decide) ?_
          refine lv_lload C.hx C.hb dX5_work_295 (lv_at hl 7 rfl) ?_
          refine lv_lload C.hx C.hb dX5_work_297 (lv_at hl 9 rfl) ?_
          obtain ⟨q_29, I_29, J_29, hc_29, h⟩ := bnd_some h
          refine g_gol hB (g_runS C hB [.long v4, .long v8] [] (cnX5_max l D cI cJ cZ ad H.size  hc_29) tw_646 tw_647 tw_38 tw_648 ⟨rfl, rfl⟩ hdX5_max ⟨Nat.le_of_ble_eq_true rfl, Nat.le_of_ble_eq_true rfl⟩ hl.1 rfl (Nat.le_of_ble_eq_true rfl) dX5_work_299) (fun H locs hB => ?_)
          refine lv_lstore (lv' := [(13, .long q_29), (15, .long v6), (12, .int w0), (0, .ref (ad 0)), (1, .int v1), (2, .int v2), (3, .int v3), (4, .long v4), (6, .long v6), (8, .long v8), (10, .long v10)]) C.hx C.hb dX5_work_302 hl (by decide) rfl (fun ls hl => ?_)
          refine lv_lload C.hx C.hb dX5_work_304 (lv_at hl 8 rfl) ?_
          refine lv_lload C.hx C.hb dX5_work_306 (lv_at hl 10 rfl) ?_
          obtain ⟨q_30, I_30, J_30, hc_30, h⟩ := bnd_some h
          refine g_gol hB (g_runS C hB [.long v6, .long v10] [] (cnX5_max l D cI cJ cZ ad H.size  hc_30) tw_646 tw_647 tw_38 tw_648 ⟨rfl, rfl⟩ hdX5_max ⟨Nat.le_of_ble_eq_true rfl, Nat.le_of_ble_eq_true rfl⟩ hl.1 rfl (Nat.le_of_ble_eq_true rfl) dX5_work_308) (fun H locs hB => ?_)
          refine lv_lstore (lv' := [(15, .long q_30), (13, .long q_29), (12, .int w0), (0, .ref (ad 0)), (1, .int v1), (2, .int v2), (3, .int v3), (4, .long v4), (6, .long v6), (8, .long v8), (10, .long v10)]) C.hx C.hb dX5_work_311 hl (by decide) rfl (fun ls hl => ?_)
          refine lv_goto (tgt := 367) C.hx C.hb dX5_work_313 (by decide) ?_
          exact tX5_work_367 C  hB (lv_sub hl [3, 4, 5, 6, 2, 1, 0] rfl) h
        · replace h := (if_neg c_28).symm.trans h
          by_cases c_31 : v1 = 6
          · replace h := (if_pos c_31).symm.trans h
            refine lv_tableIn (x := v1) (tgt := 316) (off := 162) C.hx C.hb dX5_work_154 (by rw [c_31]; decide) (by rw [c_31]; decide) (by rw [c_31]; rfl) (by decide) ?_
            refine lv_lload C.hx C.hb dX5_work_316 (lv_at hl 7 rfl) ?_
            refine lv_lconst (v := (0 : Int64)) C.hx C.hb dX5_work_318 (by decide) ?_
            refine g_lcmp_gt C (tgt := 334) dX5_work_319 dX5_work_320 (by decide) (fun c_32 => ?_) (fun c_32 => ?_)
            · replace h := (if_pos c_32).symm.trans h
              exact tX5_work_334 C  hB (lv_sub hl [3, 4, 5, 6, 7, 8, 2] rfl) h
            · replace h := (if_neg c_32).symm.trans h
              refine lv_lload C.hx C.hb dX5_work_323 (lv_at hl 8 rfl) ?_
              refine lv_lconst (v := (0 : Int64)) C.hx C.hb dX5_work_325 (by decide) ?_
              refine g_lcmp_lt C (tgt := 334) dX5_work_326 dX5_work_327 (by decide) (fun c_39 => ?_) (fun c_39 => ?_)
              · replace h := (if_pos c_39).symm.trans h
                exact tX5_work_334 C  hB (lv_sub hl [3, 4, 5, 6, 7, 8, 2] rfl) h
              · replace h := (if_neg c_39).symm.trans h
                refine lv_lconst (v := (0 : Int64)) C.hx C.hb dX5_work_330 (by decide) ?_
                refine lv_goto (tgt := 347) C.hx C.hb dX5_work_331 (by decide) ?_
                exact tX5_work_347 C  hB (lv_sub hl [3, 4, 5, 6, 7, 8, 2] rfl) h
          · replace h := (if_neg c_31).symm.trans h
            refine lv_tableOut (x := v1) (tgt := 367) C.hx C.hb dX5_work_154 (by have z0 := ts_ne (k := 2) (2 : Int32) rfl c_13; have z1 := ts_ne (k := 3) (3 : Int32) rfl c_20; have z2 := ts_ne (k := 4) (4 : Int32) rfl c_21; have z3 := ts_ne (k := 5) (5 : Int32) rfl c_28; have z4 := ts_ne (k := 6) (6 : Int32) rfl c_31; omega) (by decide) ?_
            exact tX5_work_367 C  hB (lv_sub hl [3, 4, 5, 6, 2, 1, 0] rfl) h
def fX5_work_46  (v1 : Int32) (v2 : Int32) (v3 : Int32) (I : TI) (J : TJ) : Option (Int32 × SS) :=
  if (I 13 0) = (16 : Int32) then
  some ((-3 : Int32), I, J)
  else
  if okx v2 then
  if okx v3 then
  if v1 ≤ (5 : Int32) then
  if v1 = (4 : Int32) then
  fX5_work_143 v1 v2 v3 (J 0 v2.toNatClampNeg) (J 1 v2.toNatClampNeg) (J 0 v3.toNatClampNeg) (J 1 v3.toNatClampNeg) ((I 3 v2.toNatClampNeg) + (I 3 v3.toNatClampNeg)) I J
  else
  bnd (fX5_max ((I 3 v2.toNatClampNeg).toInt64) ((I 3 v3.toNatClampNeg).toInt64) I J) (fun q_12 I_12 J_12 =>
  fX5_work_143 v1 v2 v3 (J 0 v2.toNatClampNeg) (J 1 v2.toNatClampNeg) (J 0 v3.toNatClampNeg) (J 1 v3.toNatClampNeg) q_12.toInt32 I_12 J_12)
  else
  fX5_work_143 v1 v2 v3 (J 0 v2.toNatClampNeg) (J 1 v2.toNatClampNeg) (J 0 v3.toNatClampNeg) (J 1 v3.toNatClampNeg) (I 3 v2.toNatClampNeg) I J
  else none
  else none
set_option maxHeartbeats 4000000 in
set_option maxRecDepth 100000 in
theorem tX5_work_46 {p : Program} {l : Launch} {e : Env} {s : State} {m : MethodId} {args : Array Value} {below : List Frame} {meth : Method} {c : Code} (C : KX p s m args meth c "BitTunerModel" cX5_work 17 (some .int)) {D : va_G} {cI cJ cZ : ClassId} {ad : Nat → Nat} {z : Int32 × SS}   {H : Heap} {locs : List Loc} {ls : Array Slot} {I : TI} {J : TJ} {v1 : Int32} {v2 : Int32} {v3 : Int32} (hB : MB D cI cJ cZ ad s H locs I J)  (hl : lv_has ls 17 [(0, .ref (ad 0)), (1, .int v1), (2, .int v2), (3, .int v3)]) (h : fX5_work_46 v1 v2 v3 I J = some z) : W p l e (rmd 2) s m args below meth c H locs 0 0 (MQ below (gQi D (mw cI cJ cZ ad) (mt cI cJ cZ) (mL ad) s.heap.size z) args s 0 0 (gA (mL ad) s.heap.size)) (F0 m 46 ls []) := by
  unfold fX5_work_46 at h
  refine lv_aload_n C.hx C.hb dX5_work_46 rfl (lv_at hl 0 rfl) ?_
  refine mg_values C hB tw_557 dX5_work_47 ?_
  refine lv_bipush (v := (16 : Int32)) C.hx C.hb dX5_work_50 (by decide) ?_
  refine lv_icmp_ne (tgt := 58) C.hx C.hb dX5_work_52 (by decide) (fun c_7 => ?_) (fun c_7 => ?_)
  · replace h := (if_neg c_7).symm.trans h
    refine lv_aload_n C.hx C.hb dX5_work_58 rfl (lv_at hl 0 rfl) ?_
    refine mg_leasts C hB tw_562 dX5_work_59 ?_
    refine lv_iload_n C.hx C.hb dX5_work_62 rfl (lv_at hl 2 rfl) ?_
    obtain ⟨c_8, h⟩ := ite_ck h
    refine ma_leasts_ld C hB c_8 dX5_work_63 ?_
    refine lv_lstore (lv' := [(4, .long (J 0 v2.toNatClampNeg)), (0, .ref (ad 0)), (1, .int v1), (2, .int v2), (3, .int v3)]) C.hx C.hb dX5_work_64 hl (by decide) rfl (fun ls hl => ?_)
    refine lv_aload_n C.hx C.hb dX5_work_66 rfl (lv_at hl 1 rfl) ?_
    refine mg_mosts C hB tw_563 dX5_work_67 ?_
    refine lv_iload_n C.hx C.hb dX5_work_70 rfl (lv_at hl 3 rfl) ?_
    refine ma_mosts_ld C hB c_8 dX5_work_71 ?_
    refine lv_lstore (lv' := [(6, .long (J 1 v2.toNatClampNeg)), (4, .long (J 0 v2.toNatClampNeg)), (0, .ref (ad 0)), (1, .int v1), (2, .int v2), (3, .int v3)]) C.hx C.hb dX5_work_72 hl (by decide) rfl (fun ls hl => ?_)
    refine lv_aload_n C.hx C.hb dX5_work_74 rfl (lv_at hl 2 rfl) ?_
    refine mg_leasts C hB tw_562 dX5_work_75 ?_
    refine lv_iload_n C.hx C.hb dX5_work_78 rfl (lv_at hl 5 rfl) ?_
    obtain ⟨c_9, h⟩ := ite_ck h
    refine ma_leasts_ld C hB c_9 dX5_work_79 ?_
    refine lv_lstore (lv' := [(8, .long (J 0 v3.toNatClampNeg)), (6, .long (J 1 v2.toNatClampNeg)), (4, .long (J 0 v2.toNatClampNeg)), (0, .ref (ad 0)), (1, .int v1), (2, .int v2), (3, .int v3)]) C.hx C.hb dX5_work_80 hl (by decide) rfl (fun ls hl => ?_)
    refine lv_aload_n C.hx C.hb dX5_work_82 rfl (lv_at hl 3 rfl) ?_
    refine mg_mosts C hB tw_563 dX5_work_83 ?_
    refine lv_iload_n C.hx C.hb dX5_work_86 rfl (lv_at hl 6 rfl) ?_
    refine ma_mosts_ld C hB c_9 dX5_work_87 ?_
    refine lv_lstore (lv' := [(10, .long (J 1 v3.toNatClampNeg)), (8, .long (J 0 v3.toNatClampNeg)), (6, .long (J 1 v2.toNatClampNeg)), (4, .long (J 0 v2.toNatClampNeg)), (0, .ref (ad 0)), (1, .int v1), (2, .int v2), (3, .int v3)]) C.hx C.hb dX5_work_88 hl (by decide) rfl (fun ls hl => ?_)
    refine lv_iload_n C.hx C.hb dX5_work_90 rfl (lv_at hl 5 rfl) ?_
    refine lv_iconst (v := (5 : Int32)) C.hx C.hb dX5_work_91 (by decide) ?_
    refine lv_icmp_le (tgt := 104) C.hx C.hb dX5_work_92 (by decide) (fun c_10 => ?_) (fun c_10 => ?_)
    · replace h := (if_pos c_10).symm.trans h
      refine lv_iload_n C.hx C.hb dX5_work_104 rfl (lv_at hl 5 rfl) ?_
      refine lv_iconst (v := (4 : Int32)) C.hx C.hb dX5_work_105 (by decide) ?_
      refine lv_icmp_ne (tgt := 125) C.hx C.hb dX5_work_106 (by decide) (fun c_11 => ?_) (fun c_11 => ?_)
      · replace h := (if_neg c_11).symm.trans h
        refine lv_aload_n C.hx C.hb dX5_work_125 rfl (lv_at hl 4 rfl) ?_
        refine mg_degrees C hB tw_561 dX5_work_126 ?_
        refine lv_iload_n C.hx C.hb dX5_work_129 rfl (lv_at hl 6 rfl) ?_
        refine ma_degrees_ld C hB c_8 dX5_work_130 ?_
        refine lv_i2l C.hx C.hb dX5_work_131 rfl ?_
        refine lv_aload_n C.hx C.hb dX5_work_132 rfl (lv_at hl 4 rfl) ?_
        refine mg_degrees C hB tw_561 dX5_work_133 ?_
        refine lv_iload_n C.hx C.hb dX5_work_136 rfl (lv_at hl 7 rfl) ?_
        refine ma_degrees_ld C hB c_9 dX5_work_137 ?_
        refine lv_i2l C.hx C.hb dX5_work_138 rfl ?_
        obtain ⟨q_12, I_12, J_12, hc_12, h⟩ := bnd_some h
        refine g_gol hB (g_runS C hB [.long ((I 3 v2.toNatClampNeg).toInt64), .long ((I 3 v3.toNatClampNeg).toInt64)] [] (cnX5_max l D cI cJ cZ ad H.size  hc_12) tw_646 tw_647 tw_38 tw_648 ⟨rfl, rfl⟩ hdX5_max ⟨Nat.le_of_ble_eq_true rfl, Nat.le_of_ble_eq_true rfl⟩ hl.1 rfl (Nat.le_of_ble_eq_true rfl) dX5_work_139) (fun H locs hB => ?_)
        refine lv_l2i C.hx C.hb dX5_work_142 rfl ?_
        exact tX5_work_143 C  hB (lv_sub hl [4, 5, 6, 7, 3, 2, 1, 0] rfl) h
      · replace h := (if_pos c_11).symm.trans h
        refine lv_aload_n C.hx C.hb dX5_work_109 rfl (lv_at hl 4 rfl) ?_
        refine mg_degrees C hB tw_561 dX5_work_110 ?_
        refine lv_iload_n C.hx C.hb dX5_work_113 rfl (lv_at hl 6 rfl) ?_
        refine ma_degrees_ld C hB c_8 dX5_work_114 ?_
        refine lv_aload_n C.hx C.hb dX5_work_115 rfl (lv_at hl 4 rfl) ?_
        refine mg_degrees C hB tw_561 dX5_work_116 ?_
        refine lv_iload_n C.hx C.hb dX5_work_119 rfl (lv_at hl 7 rfl) ?_
        refine ma_degrees_ld C hB c_9 dX5_work_120 ?_
        refine lv_iadd C.hx C.hb dX5_work_121 ?_
        refine lv_goto (tgt := 143) C.hx C.hb dX5_work_122 (by decide) ?_
        exact tX5_work_143 C  hB (lv_sub hl [4, 5, 6, 7, 3, 2, 1, 0] rfl) h
    · replace h := (if_neg c_10).symm.trans h
      refine lv_aload_n C.hx C.hb dX5_work_95 rfl (lv_at hl 4 rfl) ?_
      refine mg_degrees C hB tw_561 dX5_work_96 ?_
      refine lv_iload_n C.hx C.hb dX5_work_99 rfl (lv_at hl 6 rfl) ?_
      refine ma_degrees_ld C hB c_8 dX5_work_100 ?_
      refine lv_goto (tgt := 143) C.hx C.hb dX5_work_101 (by decide) ?_
      exact tX5_work_143 C  hB (lv_sub hl [4, 5, 6, 7, 3, 2, 1, 0] rfl) h
  · replace h := (if_pos c_7).symm.trans h
    refine lv_bipush (v := (-3 : Int32)) C.hx C.hb dX5_work_55 (by decide) ?_
    exact g_iret C hB h dX5_work_57
def fX5_work  (v1 : Int32) (v2 : Int32) (v3 : Int32) (I : TI) (J : TJ) : Option (Int32 × SS) :=
  bnd (fX5_in v1.toInt64 (2 : Int64) (7 : Int64) I J) (fun q_1 I_1 J_1 =>
  if q_1 = 0 then
  some ((-2 : Int32), I_1, J_1)
  else
  bnd (fX5_isValue v2 I_1 J_1) (fun q_3 I_3 J_3 =>
  if q_3 = 0 then
  some ((-2 : Int32), I_3, J_3)
  else
  if (6 : Int32) ≤ v1 then
  if v3 = 0 then
  fX5_work_46 v1 v2 v3 I_3 J_3
  else
  some ((-2 : Int32), I_3, J_3)
  else
  bnd (fX5_isValue v3 I_3 J_3) (fun q_40 I_40 J_40 =>
  if q_40 = 0 then
  some ((-2 : Int32), I_40, J_40)
  else
  fX5_work_46 v1 v2 v3 I_40 J_40)))
set_option maxHeartbeats 4000000 in
set_option maxRecDepth 100000 in
theorem tX5_work {p : Program} {l : Launch} {e : Env} {s : State} {m : MethodId} {args : Array Value} {below : List Frame} {meth : Method} {c : Code} (C : KX p s m args meth c "BitTunerModel" cX5_work 17 (some .int)) {D : va_G} {cI cJ cZ : ClassId} {ad : Nat → Nat} {z : Int32 × SS}   {H : Heap} {locs : List Loc} {ls : Array Slot} {I : TI} {J : TJ} {v1 : Int32} {v2 : Int32} {v3 : Int32} (hB : MB D cI cJ cZ ad s H locs I J)  (hl : lv_has ls 17 [(0, .ref (ad 0)), (1, .int v1), (2, .int v2), (3, .int v3)]) (h : fX5_work v1 v2 v3 I J = some z) : W p l e (rmd 2) s m args below meth c H locs 0 0 (MQ below (gQi D (mw cI cJ cZ ad) (mt cI cJ cZ) (mL ad) s.heap.size z) args s 0 0 (gA (mL ad) s.heap.size)) (F0 m 0 ls []) := by
  unfold fX5_work at h
  refine lv_iload_n C.hx C.hb dX5_work_0 rfl (lv_at hl 1 rfl) ?_
  refine lv_i2l C.hx C.hb dX5_work_1 rfl ?_
  refine lv_ldc2 C.hx C.hb C.hown (C.hts _ tw_640) dX5_work_2 ?_
  refine lv_ldc2 C.hx C.hb C.hown (C.hts _ tw_641) dX5_work_5 ?_
  obtain ⟨q_1, I_1, J_1, hc_1, h⟩ := bnd_some h
  refine g_goi hB (g_runS C hB [.long v1.toInt64, .long (2 : Int64), .long (7 : Int64)] [] (cnX5_in l D cI cJ cZ ad H.size  hc_1) tw_625 tw_626 tw_38 tw_627 ⟨rfl, rfl⟩ hdX5_in ⟨Nat.le_of_ble_eq_true rfl, Nat.le_of_ble_eq_true rfl⟩ hl.1 rfl (Nat.le_of_ble_eq_true rfl) dX5_work_8) (fun H locs hB => ?_)
  refine lv_if_eq (tgt := 43) C.hx C.hb dX5_work_11 (by decide) (fun c_2 => ?_) (fun c_2 => ?_)
  · replace h := (if_pos c_2).symm.trans h
    refine lv_bipush (v := (-2 : Int32)) C.hx C.hb dX5_work_43 (by decide) ?_
    exact g_iret C hB h dX5_work_45
  · replace h := (if_neg c_2).symm.trans h
    refine lv_aload_n C.hx C.hb dX5_work_14 rfl (lv_at hl 0 rfl) ?_
    refine lv_iload_n C.hx C.hb dX5_work_15 rfl (lv_at hl 2 rfl) ?_
    obtain ⟨q_3, I_3, J_3, hc_3, h⟩ := bnd_some h
    refine g_goi hB (g_runV C hB [.int v2] [] (cnX5_isValue l D cI cJ cZ ad H.size  hc_3) 0 rfl rfl tw_642 tw_644 tw_15 tw_38 tw_645 ⟨rfl, rfl⟩ hdX5_isValue ⟨Nat.le_of_ble_eq_true rfl, Nat.le_of_ble_eq_true rfl⟩ hl.1 rfl (Nat.le_of_ble_eq_true rfl) dX5_work_16) (fun H locs hB => ?_)
    refine lv_if_eq (tgt := 43) C.hx C.hb dX5_work_19 (by decide) (fun c_4 => ?_) (fun c_4 => ?_)
    · replace h := (if_pos c_4).symm.trans h
      refine lv_bipush (v := (-2 : Int32)) C.hx C.hb dX5_work_43 (by decide) ?_
      exact g_iret C hB h dX5_work_45
    · replace h := (if_neg c_4).symm.trans h
      refine lv_iload_n C.hx C.hb dX5_work_22 rfl (lv_at hl 1 rfl) ?_
      refine lv_bipush (v := (6 : Int32)) C.hx C.hb dX5_work_23 (by decide) ?_
      refine lv_icmp_ge (tgt := 39) C.hx C.hb dX5_work_25 (by decide) (fun c_5 => ?_) (fun c_5 => ?_)
      · replace h := (if_pos c_5).symm.trans h
        refine lv_iload_n C.hx C.hb dX5_work_39 rfl (lv_at hl 3 rfl) ?_
        refine lv_if_eq (tgt := 46) C.hx C.hb dX5_work_40 (by decide) (fun c_6 => ?_) (fun c_6 => ?_)
        · replace h := (if_pos c_6).symm.trans h
          exact tX5_work_46 C  hB (lv_sub hl [0, 1, 2, 3] rfl) h
        · replace h := (if_neg c_6).symm.trans h
          refine lv_bipush (v := (-2 : Int32)) C.hx C.hb dX5_work_43 (by decide) ?_
          exact g_iret C hB h dX5_work_45
      · replace h := (if_neg c_5).symm.trans h
        refine lv_aload_n C.hx C.hb dX5_work_28 rfl (lv_at hl 0 rfl) ?_
        refine lv_iload_n C.hx C.hb dX5_work_29 rfl (lv_at hl 3 rfl) ?_
        obtain ⟨q_40, I_40, J_40, hc_40, h⟩ := bnd_some h
        refine g_goi hB (g_runV C hB [.int v3] [] (cnX5_isValue l D cI cJ cZ ad H.size  hc_40) 0 rfl rfl tw_642 tw_644 tw_15 tw_38 tw_645 ⟨rfl, rfl⟩ hdX5_isValue ⟨Nat.le_of_ble_eq_true rfl, Nat.le_of_ble_eq_true rfl⟩ hl.1 rfl (Nat.le_of_ble_eq_true rfl) dX5_work_30) (fun H locs hB => ?_)
        refine lv_if_ne (tgt := 46) C.hx C.hb dX5_work_33 (by decide) (fun c_41 => ?_) (fun c_41 => ?_)
        · replace h := (if_neg c_41).symm.trans h
          exact tX5_work_46 C  hB (lv_sub hl [0, 1, 2, 3] rfl) h
        · replace h := (if_pos c_41).symm.trans h
          refine lv_goto (tgt := 43) C.hx C.hb dX5_work_36 (by decide) ?_
          refine lv_bipush (v := (-2 : Int32)) C.hx C.hb dX5_work_43 (by decide) ?_
          exact g_iret C hB h dX5_work_45
set_option maxHeartbeats 4000000 in
set_option maxRecDepth 100000 in
theorem cnX5_work (l : Launch) (D : va_G) (cI cJ cZ : ClassId) (ad : Nat → Nat) (sz : Nat) {v1 : Int32} {v2 : Int32} {v3 : Int32} {I : TI} {J : TJ} {z : Int32 × SS}  (h : fX5_work v1 v2 v3 I J = some z) : Met l yX5_work (wsm yX5_work cX5_work 17 (some .int)) (rmd 2) (va_Pc [.ref (ad 0), .int v1, .int v2, .int v3] (gPre D (mw cI cJ cZ ad) (mt cI cJ cZ) sz I J)) (gQi D (mw cI cJ cZ ad) (mt cI cJ cZ) (mL ad) sz z) 0 0 (gA (mL ad) sz) :=
  g_met (by decide) mw_WL (fun p e s m below meth c hsz C hB ls hl => by subst hsz; exact tX5_work C hB  hl h) (Nat.le_of_ble_eq_true rfl)
theorem hdX5_cut : yX5_cut.cls = "BitTunerModel" ∧ yX5_cut.cls ≠ "java/lang/invoke/MethodHandle" ∧ yX5_cut.cls ≠ "java/lang/invoke/VarHandle" ∧ (parseMethodDescriptor yX5_cut.desc).map (fun d => d.parameters.length) = some 1 := by decide +kernel
def fX5_cut  (v1 : Int32) (I : TI) (J : TJ) : Option (Int32 × SS) :=
  bnd (fX5_in v1.toInt64 (0 : Int64) ((I 13 0).toInt64) I J) (fun q_1 I_1 J_1 =>
  if q_1 = 0 then
  some ((-2 : Int32), I_1, J_1)
  else
  some ((I_1 13 0) - v1, (uI I_1 13 0 v1), J_1))
set_option maxHeartbeats 4000000 in
set_option maxRecDepth 100000 in
theorem tX5_cut {p : Program} {l : Launch} {e : Env} {s : State} {m : MethodId} {args : Array Value} {below : List Frame} {meth : Method} {c : Code} (C : KX p s m args meth c "BitTunerModel" cX5_cut 3 (some .int)) {D : va_G} {cI cJ cZ : ClassId} {ad : Nat → Nat} {z : Int32 × SS}   {H : Heap} {locs : List Loc} {ls : Array Slot} {I : TI} {J : TJ} {v1 : Int32} (hB : MB D cI cJ cZ ad s H locs I J)  (hl : lv_has ls 3 [(0, .ref (ad 0)), (1, .int v1)]) (h : fX5_cut v1 I J = some z) : W p l e (rmd 1) s m args below meth c H locs 0 0 (MQ below (gQi D (mw cI cJ cZ ad) (mt cI cJ cZ) (mL ad) s.heap.size z) args s 0 0 (gA (mL ad) s.heap.size)) (F0 m 0 ls []) := by
  unfold fX5_cut at h
  refine lv_iload_n C.hx C.hb dX5_cut_0 rfl (lv_at hl 1 rfl) ?_
  refine lv_i2l C.hx C.hb dX5_cut_1 rfl ?_
  refine lv_lconst (v := (0 : Int64)) C.hx C.hb dX5_cut_2 (by decide) ?_
  refine lv_aload_n C.hx C.hb dX5_cut_3 rfl (lv_at hl 0 rfl) ?_
  refine mg_values C hB tw_557 dX5_cut_4 ?_
  refine lv_i2l C.hx C.hb dX5_cut_7 rfl ?_
  obtain ⟨q_1, I_1, J_1, hc_1, h⟩ := bnd_some h
  refine g_goi hB (g_runS C hB [.long v1.toInt64, .long (0 : Int64), .long ((I 13 0).toInt64)] [] (cnX5_in l D cI cJ cZ ad H.size  hc_1) tw_625 tw_626 tw_38 tw_627 ⟨rfl, rfl⟩ hdX5_in ⟨Nat.le_of_ble_eq_true rfl, Nat.le_of_ble_eq_true rfl⟩ hl.1 rfl (Nat.le_of_ble_eq_true rfl) dX5_cut_8) (fun H locs hB => ?_)
  refine lv_if_ne (tgt := 17) C.hx C.hb dX5_cut_11 (by decide) (fun c_2 => ?_) (fun c_2 => ?_)
  · replace h := (if_neg c_2).symm.trans h
    refine lv_aload_n C.hx C.hb dX5_cut_17 rfl (lv_at hl 0 rfl) ?_
    refine mg_values C hB tw_557 dX5_cut_18 ?_
    refine lv_iload_n C.hx C.hb dX5_cut_21 rfl (lv_at hl 1 rfl) ?_
    refine lv_isub C.hx C.hb dX5_cut_22 ?_
    refine lv_istore_n (lv' := [(2, .int ((I_1 13 0) - v1)), (0, .ref (ad 0)), (1, .int v1)]) C.hx C.hb dX5_cut_23 rfl hl (by decide) rfl (fun ls hl => ?_)
    refine lv_aload_n C.hx C.hb dX5_cut_24 rfl (lv_at hl 1 rfl) ?_
    refine lv_iload_n C.hx C.hb dX5_cut_25 rfl (lv_at hl 2 rfl) ?_
    refine mp_values C hB tw_557 dX5_cut_26 (fun H locs hB => ?_)
    refine lv_iload_n C.hx C.hb dX5_cut_29 rfl (lv_at hl 0 rfl) ?_
    exact g_iret C hB h dX5_cut_30
  · replace h := (if_pos c_2).symm.trans h
    refine lv_bipush (v := (-2 : Int32)) C.hx C.hb dX5_cut_14 (by decide) ?_
    exact g_iret C hB h dX5_cut_16
set_option maxHeartbeats 4000000 in
set_option maxRecDepth 100000 in
theorem cnX5_cut (l : Launch) (D : va_G) (cI cJ cZ : ClassId) (ad : Nat → Nat) (sz : Nat) {v1 : Int32} {I : TI} {J : TJ} {z : Int32 × SS}  (h : fX5_cut v1 I J = some z) : Met l yX5_cut (wsm yX5_cut cX5_cut 3 (some .int)) (rmd 1) (va_Pc [.ref (ad 0), .int v1] (gPre D (mw cI cJ cZ ad) (mt cI cJ cZ) sz I J)) (gQi D (mw cI cJ cZ ad) (mt cI cJ cZ) (mL ad) sz z) 0 0 (gA (mL ad) sz) :=
  g_met (by decide) mw_WL (fun p e s m below meth c hsz C hB ls hl => by subst hsz; exact tX5_cut C hB  hl h) (Nat.le_of_ble_eq_true rfl)
theorem hdX5_bits : yX5_bits.cls = "BitTunerModel" ∧ yX5_bits.cls ≠ "java/lang/invoke/MethodHandle" ∧ yX5_bits.cls ≠ "java/lang/invoke/VarHandle" ∧ (parseMethodDescriptor yX5_bits.desc).map (fun d => d.parameters.length) = some 2 := by decide +kernel
def fX5_bits  (v1 : Int32) (v2 : Int32) (I : TI) (J : TJ) : Option (Int32 × SS) :=
  bnd (fX5_isWork v1 I J) (fun q_1 I_1 J_1 =>
  if q_1 = 0 then
  some ((-2 : Int32), I_1, J_1)
  else
  bnd (fX5_in v2.toInt64 (0 : Int64) (16 : Int64) I_1 J_1) (fun q_3 I_3 J_3 =>
  if q_3 = 0 then
  some ((-2 : Int32), I_3, J_3)
  else
  if okx v1 then
  some (I_3 4 v1.toNatClampNeg, (uI I_3 4 (v1.toNatClampNeg) v2), J_3)
  else none))
set_option maxHeartbeats 4000000 in
set_option maxRecDepth 100000 in
theorem tX5_bits {p : Program} {l : Launch} {e : Env} {s : State} {m : MethodId} {args : Array Value} {below : List Frame} {meth : Method} {c : Code} (C : KX p s m args meth c "BitTunerModel" cX5_bits 4 (some .int)) {D : va_G} {cI cJ cZ : ClassId} {ad : Nat → Nat} {z : Int32 × SS}   {H : Heap} {locs : List Loc} {ls : Array Slot} {I : TI} {J : TJ} {v1 : Int32} {v2 : Int32} (hB : MB D cI cJ cZ ad s H locs I J)  (hl : lv_has ls 4 [(0, .ref (ad 0)), (1, .int v1), (2, .int v2)]) (h : fX5_bits v1 v2 I J = some z) : W p l e (rmd 3) s m args below meth c H locs 0 0 (MQ below (gQi D (mw cI cJ cZ ad) (mt cI cJ cZ) (mL ad) s.heap.size z) args s 0 0 (gA (mL ad) s.heap.size)) (F0 m 0 ls []) := by
  unfold fX5_bits at h
  refine lv_aload_n C.hx C.hb dX5_bits_0 rfl (lv_at hl 0 rfl) ?_
  refine lv_iload_n C.hx C.hb dX5_bits_1 rfl (lv_at hl 1 rfl) ?_
  obtain ⟨q_1, I_1, J_1, hc_1, h⟩ := bnd_some h
  refine g_goi hB (g_runV C hB [.int v1] [] (cnX5_isWork l D cI cJ cZ ad H.size  hc_1) 0 rfl rfl tw_666 tw_668 tw_16 tw_38 tw_669 ⟨rfl, rfl⟩ hdX5_isWork ⟨Nat.le_of_ble_eq_true rfl, Nat.le_of_ble_eq_true rfl⟩ hl.1 rfl (Nat.le_of_ble_eq_true rfl) dX5_bits_2) (fun H locs hB => ?_)
  refine lv_if_eq (tgt := 20) C.hx C.hb dX5_bits_5 (by decide) (fun c_2 => ?_) (fun c_2 => ?_)
  · replace h := (if_pos c_2).symm.trans h
    refine lv_bipush (v := (-2 : Int32)) C.hx C.hb dX5_bits_20 (by decide) ?_
    exact g_iret C hB h dX5_bits_22
  · replace h := (if_neg c_2).symm.trans h
    refine lv_iload_n C.hx C.hb dX5_bits_8 rfl (lv_at hl 2 rfl) ?_
    refine lv_i2l C.hx C.hb dX5_bits_9 rfl ?_
    refine lv_lconst (v := (0 : Int64)) C.hx C.hb dX5_bits_10 (by decide) ?_
    refine lv_ldc2 C.hx C.hb C.hown (C.hts _ tw_670) dX5_bits_11 ?_
    obtain ⟨q_3, I_3, J_3, hc_3, h⟩ := bnd_some h
    refine g_goi hB (g_runS C hB [.long v2.toInt64, .long (0 : Int64), .long (16 : Int64)] [] (cnX5_in l D cI cJ cZ ad H.size  hc_3) tw_625 tw_626 tw_38 tw_627 ⟨rfl, rfl⟩ hdX5_in ⟨Nat.le_of_ble_eq_true rfl, Nat.le_of_ble_eq_true rfl⟩ hl.1 rfl (Nat.le_of_ble_eq_true rfl) dX5_bits_14) (fun H locs hB => ?_)
    refine lv_if_ne (tgt := 23) C.hx C.hb dX5_bits_17 (by decide) (fun c_4 => ?_) (fun c_4 => ?_)
    · replace h := (if_neg c_4).symm.trans h
      refine lv_aload_n C.hx C.hb dX5_bits_23 rfl (lv_at hl 0 rfl) ?_
      refine mg_bits C hB tw_564 dX5_bits_24 ?_
      refine lv_iload_n C.hx C.hb dX5_bits_27 rfl (lv_at hl 1 rfl) ?_
      obtain ⟨c_5, h⟩ := ite_ck h
      refine ma_bits_ld C hB c_5 dX5_bits_28 ?_
      refine lv_istore_n (lv' := [(3, .int (I_3 4 v1.toNatClampNeg)), (0, .ref (ad 0)), (1, .int v1), (2, .int v2)]) C.hx C.hb dX5_bits_29 rfl hl (by decide) rfl (fun ls hl => ?_)
      refine lv_aload_n C.hx C.hb dX5_bits_30 rfl (lv_at hl 1 rfl) ?_
      refine mg_bits C hB tw_564 dX5_bits_31 ?_
      refine lv_iload_n C.hx C.hb dX5_bits_34 rfl (lv_at hl 2 rfl) ?_
      refine lv_iload_n C.hx C.hb dX5_bits_35 rfl (lv_at hl 3 rfl) ?_
      refine ma_bits_st C hB c_5 dX5_bits_36 (fun H locs hB => ?_)
      refine lv_iload_n C.hx C.hb dX5_bits_37 rfl (lv_at hl 0 rfl) ?_
      exact g_iret C hB h dX5_bits_38
    · replace h := (if_pos c_4).symm.trans h
      refine lv_bipush (v := (-2 : Int32)) C.hx C.hb dX5_bits_20 (by decide) ?_
      exact g_iret C hB h dX5_bits_22
set_option maxHeartbeats 4000000 in
set_option maxRecDepth 100000 in
theorem cnX5_bits (l : Launch) (D : va_G) (cI cJ cZ : ClassId) (ad : Nat → Nat) (sz : Nat) {v1 : Int32} {v2 : Int32} {I : TI} {J : TJ} {z : Int32 × SS}  (h : fX5_bits v1 v2 I J = some z) : Met l yX5_bits (wsm yX5_bits cX5_bits 4 (some .int)) (rmd 3) (va_Pc [.ref (ad 0), .int v1, .int v2] (gPre D (mw cI cJ cZ ad) (mt cI cJ cZ) sz I J)) (gQi D (mw cI cJ cZ ad) (mt cI cJ cZ) (mL ad) sz z) 0 0 (gA (mL ad) sz) :=
  g_met (by decide) mw_WL (fun p e s m below meth c hsz C hB ls hl => by subst hsz; exact tX5_bits C hB  hl h) (Nat.le_of_ble_eq_true rfl)
theorem hdX5_rounding : yX5_rounding.cls = "BitTunerModel" ∧ yX5_rounding.cls ≠ "java/lang/invoke/MethodHandle" ∧ yX5_rounding.cls ≠ "java/lang/invoke/VarHandle" ∧ (parseMethodDescriptor yX5_rounding.desc).map (fun d => d.parameters.length) = some 2 := by decide +kernel
def fX5_rounding  (v1 : Int32) (v2 : Int32) (I : TI) (J : TJ) : Option (Int32 × SS) :=
  bnd (fX5_isWork v1 I J) (fun q_1 I_1 J_1 =>
  if q_1 = 0 then
  some ((-2 : Int32), I_1, J_1)
  else
  bnd (fX5_in v2.toInt64 (0 : Int64) (2 : Int64) I_1 J_1) (fun q_3 I_3 J_3 =>
  if q_3 = 0 then
  some ((-2 : Int32), I_3, J_3)
  else
  if okx v1 then
  some (I_3 5 v1.toNatClampNeg, (uI I_3 5 (v1.toNatClampNeg) v2), J_3)
  else none))
set_option maxHeartbeats 4000000 in
set_option maxRecDepth 100000 in
theorem tX5_rounding {p : Program} {l : Launch} {e : Env} {s : State} {m : MethodId} {args : Array Value} {below : List Frame} {meth : Method} {c : Code} (C : KX p s m args meth c "BitTunerModel" cX5_rounding 4 (some .int)) {D : va_G} {cI cJ cZ : ClassId} {ad : Nat → Nat} {z : Int32 × SS}   {H : Heap} {locs : List Loc} {ls : Array Slot} {I : TI} {J : TJ} {v1 : Int32} {v2 : Int32} (hB : MB D cI cJ cZ ad s H locs I J)  (hl : lv_has ls 4 [(0, .ref (ad 0)), (1, .int v1), (2, .int v2)]) (h : fX5_rounding v1 v2 I J = some z) : W p l e (rmd 3) s m args below meth c H locs 0 0 (MQ below (gQi D (mw cI cJ cZ ad) (mt cI cJ cZ) (mL ad) s.heap.size z) args s 0 0 (gA (mL ad) s.heap.size)) (F0 m 0 ls []) := by
  unfold fX5_rounding at h
  refine lv_aload_n C.hx C.hb dX5_rounding_0 rfl (lv_at hl 0 rfl) ?_
  refine lv_iload_n C.hx C.hb dX5_rounding_1 rfl (lv_at hl 1 rfl) ?_
  obtain ⟨q_1, I_1, J_1, hc_1, h⟩ := bnd_some h
  refine g_goi hB (g_runV C hB [.int v1] [] (cnX5_isWork l D cI cJ cZ ad H.size  hc_1) 0 rfl rfl tw_666 tw_668 tw_16 tw_38 tw_669 ⟨rfl, rfl⟩ hdX5_isWork ⟨Nat.le_of_ble_eq_true rfl, Nat.le_of_ble_eq_true rfl⟩ hl.1 rfl (Nat.le_of_ble_eq_true rfl) dX5_rounding_2) (fun H locs hB => ?_)
  refine lv_if_eq (tgt := 20) C.hx C.hb dX5_rounding_5 (by decide) (fun c_2 => ?_) (fun c_2 => ?_)
  · replace h := (if_pos c_2).symm.trans h
    refine lv_bipush (v := (-2 : Int32)) C.hx C.hb dX5_rounding_20 (by decide) ?_
    exact g_iret C hB h dX5_rounding_22
  · replace h := (if_neg c_2).symm.trans h
    refine lv_iload_n C.hx C.hb dX5_rounding_8 rfl (lv_at hl 2 rfl) ?_
    refine lv_i2l C.hx C.hb dX5_rounding_9 rfl ?_
    refine lv_lconst (v := (0 : Int64)) C.hx C.hb dX5_rounding_10 (by decide) ?_
    refine lv_ldc2 C.hx C.hb C.hown (C.hts _ tw_640) dX5_rounding_11 ?_
    obtain ⟨q_3, I_3, J_3, hc_3, h⟩ := bnd_some h
    refine g_goi hB (g_runS C hB [.long v2.toInt64, .long (0 : Int64), .long (2 : Int64)] [] (cnX5_in l D cI cJ cZ ad H.size  hc_3) tw_625 tw_626 tw_38 tw_627 ⟨rfl, rfl⟩ hdX5_in ⟨Nat.le_of_ble_eq_true rfl, Nat.le_of_ble_eq_true rfl⟩ hl.1 rfl (Nat.le_of_ble_eq_true rfl) dX5_rounding_14) (fun H locs hB => ?_)
    refine lv_if_ne (tgt := 23) C.hx C.hb dX5_rounding_17 (by decide) (fun c_4 => ?_) (fun c_4 => ?_)
    · replace h := (if_neg c_4).symm.trans h
      refine lv_aload_n C.hx C.hb dX5_rounding_23 rfl (lv_at hl 0 rfl) ?_
      refine mg_roundings C hB tw_565 dX5_rounding_24 ?_
      refine lv_iload_n C.hx C.hb dX5_rounding_27 rfl (lv_at hl 1 rfl) ?_
      obtain ⟨c_5, h⟩ := ite_ck h
      refine ma_roundings_ld C hB c_5 dX5_rounding_28 ?_
      refine lv_istore_n (lv' := [(3, .int (I_3 5 v1.toNatClampNeg)), (0, .ref (ad 0)), (1, .int v1), (2, .int v2)]) C.hx C.hb dX5_rounding_29 rfl hl (by decide) rfl (fun ls hl => ?_)
      refine lv_aload_n C.hx C.hb dX5_rounding_30 rfl (lv_at hl 1 rfl) ?_
      refine mg_roundings C hB tw_565 dX5_rounding_31 ?_
      refine lv_iload_n C.hx C.hb dX5_rounding_34 rfl (lv_at hl 2 rfl) ?_
      refine lv_iload_n C.hx C.hb dX5_rounding_35 rfl (lv_at hl 3 rfl) ?_
      refine ma_roundings_st C hB c_5 dX5_rounding_36 (fun H locs hB => ?_)
      refine lv_iload_n C.hx C.hb dX5_rounding_37 rfl (lv_at hl 0 rfl) ?_
      exact g_iret C hB h dX5_rounding_38
    · replace h := (if_pos c_4).symm.trans h
      refine lv_bipush (v := (-2 : Int32)) C.hx C.hb dX5_rounding_20 (by decide) ?_
      exact g_iret C hB h dX5_rounding_22
set_option maxHeartbeats 4000000 in
set_option maxRecDepth 100000 in
theorem cnX5_rounding (l : Launch) (D : va_G) (cI cJ cZ : ClassId) (ad : Nat → Nat) (sz : Nat) {v1 : Int32} {v2 : Int32} {I : TI} {J : TJ} {z : Int32 × SS}  (h : fX5_rounding v1 v2 I J = some z) : Met l yX5_rounding (wsm yX5_rounding cX5_rounding 4 (some .int)) (rmd 3) (va_Pc [.ref (ad 0), .int v1, .int v2] (gPre D (mw cI cJ cZ ad) (mt cI cJ cZ) sz I J)) (gQi D (mw cI cJ cZ ad) (mt cI cJ cZ) (mL ad) sz z) 0 0 (gA (mL ad) sz) :=
  g_met (by decide) mw_WL (fun p e s m below meth c hsz C hB ls hl => by subst hsz; exact tX5_rounding C hB  hl h) (Nat.le_of_ble_eq_true rfl)
theorem hdX5_weight : yX5_weight.cls = "BitTunerModel" ∧ yX5_weight.cls ≠ "java/lang/invoke/MethodHandle" ∧ yX5_weight.cls ≠ "java/lang/invoke/VarHandle" ∧ (parseMethodDescriptor yX5_weight.desc).map (fun d => d.parameters.length) = some 2 := by decide +kernel
def fX5_weight  (v1 : Int32) (v2 : Int32) (I : TI) (J : TJ) : Option (Int32 × SS) :=
  bnd (fX5_isWork v1 I J) (fun q_1 I_1 J_1 =>
  if q_1 = 0 then
  some ((-2 : Int32), I_1, J_1)
  else
  bnd (fX5_in v2.toInt64 (0 : Int64) (100 : Int64) I_1 J_1) (fun q_3 I_3 J_3 =>
  if q_3 = 0 then
  some ((-2 : Int32), I_3, J_3)
  else
  if okx v1 then
  some (I_3 6 v1.toNatClampNeg, (uI I_3 6 (v1.toNatClampNeg) v2), J_3)
  else none))
set_option maxHeartbeats 4000000 in
set_option maxRecDepth 100000 in
theorem tX5_weight {p : Program} {l : Launch} {e : Env} {s : State} {m : MethodId} {args : Array Value} {below : List Frame} {meth : Method} {c : Code} (C : KX p s m args meth c "BitTunerModel" cX5_weight 4 (some .int)) {D : va_G} {cI cJ cZ : ClassId} {ad : Nat → Nat} {z : Int32 × SS}   {H : Heap} {locs : List Loc} {ls : Array Slot} {I : TI} {J : TJ} {v1 : Int32} {v2 : Int32} (hB : MB D cI cJ cZ ad s H locs I J)  (hl : lv_has ls 4 [(0, .ref (ad 0)), (1, .int v1), (2, .int v2)]) (h : fX5_weight v1 v2 I J = some z) : W p l e (rmd 3) s m args below meth c H locs 0 0 (MQ below (gQi D (mw cI cJ cZ ad) (mt cI cJ cZ) (mL ad) s.heap.size z) args s 0 0 (gA (mL ad) s.heap.size)) (F0 m 0 ls []) := by
  unfold fX5_weight at h
  refine lv_aload_n C.hx C.hb dX5_weight_0 rfl (lv_at hl 0 rfl) ?_
  refine lv_iload_n C.hx C.hb dX5_weight_1 rfl (lv_at hl 1 rfl) ?_
  obtain ⟨q_1, I_1, J_1, hc_1, h⟩ := bnd_some h
  refine g_goi hB (g_runV C hB [.int v1] [] (cnX5_isWork l D cI cJ cZ ad H.size  hc_1) 0 rfl rfl tw_666 tw_668 tw_16 tw_38 tw_669 ⟨rfl, rfl⟩ hdX5_isWork ⟨Nat.le_of_ble_eq_true rfl, Nat.le_of_ble_eq_true rfl⟩ hl.1 rfl (Nat.le_of_ble_eq_true rfl) dX5_weight_2) (fun H locs hB => ?_)
  refine lv_if_eq (tgt := 20) C.hx C.hb dX5_weight_5 (by decide) (fun c_2 => ?_) (fun c_2 => ?_)
  · replace h := (if_pos c_2).symm.trans h
    refine lv_bipush (v := (-2 : Int32)) C.hx C.hb dX5_weight_20 (by decide) ?_
    exact g_iret C hB h dX5_weight_22
  · replace h := (if_neg c_2).symm.trans h
    refine lv_iload_n C.hx C.hb dX5_weight_8 rfl (lv_at hl 2 rfl) ?_
    refine lv_i2l C.hx C.hb dX5_weight_9 rfl ?_
    refine lv_lconst (v := (0 : Int64)) C.hx C.hb dX5_weight_10 (by decide) ?_
    refine lv_ldc2 C.hx C.hb C.hown (C.hts _ tw_679) dX5_weight_11 ?_
    obtain ⟨q_3, I_3, J_3, hc_3, h⟩ := bnd_some h
    refine g_goi hB (g_runS C hB [.long v2.toInt64, .long (0 : Int64), .long (100 : Int64)] [] (cnX5_in l D cI cJ cZ ad H.size  hc_3) tw_625 tw_626 tw_38 tw_627 ⟨rfl, rfl⟩ hdX5_in ⟨Nat.le_of_ble_eq_true rfl, Nat.le_of_ble_eq_true rfl⟩ hl.1 rfl (Nat.le_of_ble_eq_true rfl) dX5_weight_14) (fun H locs hB => ?_)
    refine lv_if_ne (tgt := 23) C.hx C.hb dX5_weight_17 (by decide) (fun c_4 => ?_) (fun c_4 => ?_)
    · replace h := (if_neg c_4).symm.trans h
      refine lv_aload_n C.hx C.hb dX5_weight_23 rfl (lv_at hl 0 rfl) ?_
      refine mg_weights C hB tw_566 dX5_weight_24 ?_
      refine lv_iload_n C.hx C.hb dX5_weight_27 rfl (lv_at hl 1 rfl) ?_
      obtain ⟨c_5, h⟩ := ite_ck h
      refine ma_weights_ld C hB c_5 dX5_weight_28 ?_
      refine lv_istore_n (lv' := [(3, .int (I_3 6 v1.toNatClampNeg)), (0, .ref (ad 0)), (1, .int v1), (2, .int v2)]) C.hx C.hb dX5_weight_29 rfl hl (by decide) rfl (fun ls hl => ?_)
      refine lv_aload_n C.hx C.hb dX5_weight_30 rfl (lv_at hl 1 rfl) ?_
      refine mg_weights C hB tw_566 dX5_weight_31 ?_
      refine lv_iload_n C.hx C.hb dX5_weight_34 rfl (lv_at hl 2 rfl) ?_
      refine lv_iload_n C.hx C.hb dX5_weight_35 rfl (lv_at hl 3 rfl) ?_
      refine ma_weights_st C hB c_5 dX5_weight_36 (fun H locs hB => ?_)
      refine lv_iload_n C.hx C.hb dX5_weight_37 rfl (lv_at hl 0 rfl) ?_
      exact g_iret C hB h dX5_weight_38
    · replace h := (if_pos c_4).symm.trans h
      refine lv_bipush (v := (-2 : Int32)) C.hx C.hb dX5_weight_20 (by decide) ?_
      exact g_iret C hB h dX5_weight_22
set_option maxHeartbeats 4000000 in
set_option maxRecDepth 100000 in
theorem cnX5_weight (l : Launch) (D : va_G) (cI cJ cZ : ClassId) (ad : Nat → Nat) (sz : Nat) {v1 : Int32} {v2 : Int32} {I : TI} {J : TJ} {z : Int32 × SS}  (h : fX5_weight v1 v2 I J = some z) : Met l yX5_weight (wsm yX5_weight cX5_weight 4 (some .int)) (rmd 3) (va_Pc [.ref (ad 0), .int v1, .int v2] (gPre D (mw cI cJ cZ ad) (mt cI cJ cZ) sz I J)) (gQi D (mw cI cJ cZ ad) (mt cI cJ cZ) (mL ad) sz z) 0 0 (gA (mL ad) sz) :=
  g_met (by decide) mw_WL (fun p e s m below meth c hsz C hB ls hl => by subst hsz; exact tX5_weight C hB  hl h) (Nat.le_of_ble_eq_true rfl)
theorem hdX5_greatest : yX5_greatest.cls = "BitTunerModel" ∧ yX5_greatest.cls ≠ "java/lang/invoke/MethodHandle" ∧ yX5_greatest.cls ≠ "java/lang/invoke/VarHandle" ∧ (parseMethodDescriptor yX5_greatest.desc).map (fun d => d.parameters.length) = some 1 := by decide +kernel
def fX5_greatest  (v1 : Int32) (I : TI) (J : TJ) : Option (Int64 × SS) :=
  if okx v1 then
  bnd (fX5_amount (J 0 v1.toNatClampNeg) I J) (fun q_2 I_2 J_2 =>
  bnd (fX5_amount (J_2 1 v1.toNatClampNeg) I_2 J_2) (fun q_3 I_3 J_3 =>
  bnd (fX5_max q_2 q_3 I_3 J_3) (fun q_4 I_4 J_4 =>
  some (q_4, I_4, J_4))))
  else none
set_option maxHeartbeats 4000000 in
set_option maxRecDepth 100000 in
theorem tX5_greatest {p : Program} {l : Launch} {e : Env} {s : State} {m : MethodId} {args : Array Value} {below : List Frame} {meth : Method} {c : Code} (C : KX p s m args meth c "BitTunerModel" cX5_greatest 2 (some .long)) {D : va_G} {cI cJ cZ : ClassId} {ad : Nat → Nat} {z : Int64 × SS}   {H : Heap} {locs : List Loc} {ls : Array Slot} {I : TI} {J : TJ} {v1 : Int32} (hB : MB D cI cJ cZ ad s H locs I J)  (hl : lv_has ls 2 [(0, .ref (ad 0)), (1, .int v1)]) (h : fX5_greatest v1 I J = some z) : W p l e (rmd 1) s m args below meth c H locs 0 0 (MQ below (gQl D (mw cI cJ cZ ad) (mt cI cJ cZ) (mL ad) s.heap.size z) args s 0 0 (gA (mL ad) s.heap.size)) (F0 m 0 ls []) := by
  unfold fX5_greatest at h
  refine lv_aload_n C.hx C.hb dX5_greatest_0 rfl (lv_at hl 0 rfl) ?_
  refine mg_leasts C hB tw_562 dX5_greatest_1 ?_
  refine lv_iload_n C.hx C.hb dX5_greatest_4 rfl (lv_at hl 1 rfl) ?_
  obtain ⟨c_1, h⟩ := ite_ck h
  refine ma_leasts_ld C hB c_1 dX5_greatest_5 ?_
  obtain ⟨q_2, I_2, J_2, hc_2, h⟩ := bnd_some h
  refine g_gol hB (g_runS C hB [.long (J 0 v1.toNatClampNeg)] [] (cnX5_amount l D cI cJ cZ ad H.size  hc_2) tw_653 tw_654 tw_38 tw_655 ⟨rfl, rfl⟩ hdX5_amount ⟨Nat.le_of_ble_eq_true rfl, Nat.le_of_ble_eq_true rfl⟩ hl.1 rfl (Nat.le_of_ble_eq_true rfl) dX5_greatest_6) (fun H locs hB => ?_)
  refine lv_aload_n C.hx C.hb dX5_greatest_9 rfl (lv_at hl 0 rfl) ?_
  refine mg_mosts C hB tw_563 dX5_greatest_10 ?_
  refine lv_iload_n C.hx C.hb dX5_greatest_13 rfl (lv_at hl 1 rfl) ?_
  refine ma_mosts_ld C hB c_1 dX5_greatest_14 ?_
  obtain ⟨q_3, I_3, J_3, hc_3, h⟩ := bnd_some h
  refine g_gol hB (g_runS C hB [.long (J_2 1 v1.toNatClampNeg)] [.long q_2] (cnX5_amount l D cI cJ cZ ad H.size  hc_3) tw_653 tw_654 tw_38 tw_655 ⟨rfl, rfl⟩ hdX5_amount ⟨Nat.le_of_ble_eq_true rfl, Nat.le_of_ble_eq_true rfl⟩ hl.1 rfl (Nat.le_of_ble_eq_true rfl) dX5_greatest_15) (fun H locs hB => ?_)
  obtain ⟨q_4, I_4, J_4, hc_4, h⟩ := bnd_some h
  refine g_gol hB (g_runS C hB [.long q_2, .long q_3] [] (cnX5_max l D cI cJ cZ ad H.size  hc_4) tw_646 tw_647 tw_38 tw_648 ⟨rfl, rfl⟩ hdX5_max ⟨Nat.le_of_ble_eq_true rfl, Nat.le_of_ble_eq_true rfl⟩ hl.1 rfl (Nat.le_of_ble_eq_true rfl) dX5_greatest_18) (fun H locs hB => ?_)
  exact g_lret C hB h dX5_greatest_21
set_option maxHeartbeats 4000000 in
set_option maxRecDepth 100000 in
theorem cnX5_greatest (l : Launch) (D : va_G) (cI cJ cZ : ClassId) (ad : Nat → Nat) (sz : Nat) {v1 : Int32} {I : TI} {J : TJ} {z : Int64 × SS}  (h : fX5_greatest v1 I J = some z) : Met l yX5_greatest (wsm yX5_greatest cX5_greatest 2 (some .long)) (rmd 1) (va_Pc [.ref (ad 0), .int v1] (gPre D (mw cI cJ cZ ad) (mt cI cJ cZ) sz I J)) (gQl D (mw cI cJ cZ ad) (mt cI cJ cZ) (mL ad) sz z) 0 0 (gA (mL ad) sz) :=
  g_met (by decide) mw_WL (fun p e s m below meth c hsz C hB ls hl => by subst hsz; exact tX5_greatest C hB  hl h) (Nat.le_of_ble_eq_true rfl)
theorem hdX5_up : yX5_up.cls = "BitTunerModel" ∧ yX5_up.cls ≠ "java/lang/invoke/MethodHandle" ∧ yX5_up.cls ≠ "java/lang/invoke/VarHandle" ∧ (parseMethodDescriptor yX5_up.desc).map (fun d => d.parameters.length) = some 1 := by decide +kernel
def fX5_up  (v0 : Int64) (I : TI) (J : TJ) : Option (Int64 × SS) :=
  if (v0 - v0 / (65536 : Int64) * (65536 : Int64)) ≤ (0 : Int64) then
  some ((v0 / (65536 : Int64)) + (0 : Int64), I, J)
  else
  some ((v0 / (65536 : Int64)) + (1 : Int64), I, J)
set_option maxHeartbeats 4000000 in
set_option maxRecDepth 100000 in
theorem tX5_up {p : Program} {l : Launch} {e : Env} {s : State} {m : MethodId} {args : Array Value} {below : List Frame} {meth : Method} {c : Code} (C : KX p s m args meth c "BitTunerModel" cX5_up 2 (some .long)) {D : va_G} {cI cJ cZ : ClassId} {ad : Nat → Nat} {z : Int64 × SS}   {H : Heap} {locs : List Loc} {ls : Array Slot} {I : TI} {J : TJ} {v0 : Int64} (hB : MB D cI cJ cZ ad s H locs I J)  (hl : lv_has ls 2 [(0, .long v0)]) (h : fX5_up v0 I J = some z) : W p l e (rmd 0) s m args below meth c H locs 0 0 (MQ below (gQl D (mw cI cJ cZ ad) (mt cI cJ cZ) (mL ad) s.heap.size z) args s 0 0 (gA (mL ad) s.heap.size)) (F0 m 0 ls []) := by
  unfold fX5_up at h
  refine lv_lload_n C.hx C.hb dX5_up_0 rfl (lv_at hl 0 rfl) ?_
  refine lv_ldc2 C.hx C.hb C.hown (C.hts _ tw_652) dX5_up_1 ?_
  refine lv_ldiv C.hx C.hb dX5_up_4 (by decide) ?_
  refine lv_lload_n C.hx C.hb dX5_up_5 rfl (lv_at hl 0 rfl) ?_
  refine lv_ldc2 C.hx C.hb C.hown (C.hts _ tw_652) dX5_up_6 ?_
  refine lv_lrem C.hx C.hb dX5_up_9 (by decide) ?_
  refine lv_lconst (v := (0 : Int64)) C.hx C.hb dX5_up_10 (by decide) ?_
  refine g_lcmp_le C (tgt := 19) dX5_up_11 dX5_up_12 (by decide) (fun c_1 => ?_) (fun c_1 => ?_)
  · replace h := (if_pos c_1).symm.trans h
    refine lv_lconst (v := (0 : Int64)) C.hx C.hb dX5_up_19 (by decide) ?_
    refine lv_ladd C.hx C.hb dX5_up_20 ?_
    exact g_lret C hB h dX5_up_21
  · replace h := (if_neg c_1).symm.trans h
    refine lv_lconst (v := (1 : Int64)) C.hx C.hb dX5_up_15 (by decide) ?_
    refine lv_goto (tgt := 20) C.hx C.hb dX5_up_16 (by decide) ?_
    refine lv_ladd C.hx C.hb dX5_up_20 ?_
    exact g_lret C hB h dX5_up_21
set_option maxHeartbeats 4000000 in
set_option maxRecDepth 100000 in
theorem cnX5_up (l : Launch) (D : va_G) (cI cJ cZ : ClassId) (ad : Nat → Nat) (sz : Nat) {v0 : Int64} {I : TI} {J : TJ} {z : Int64 × SS}  (h : fX5_up v0 I J = some z) : Met l yX5_up (wsm yX5_up cX5_up 2 (some .long)) (rmd 0) (va_Pc [.long v0] (gPre D (mw cI cJ cZ ad) (mt cI cJ cZ) sz I J)) (gQl D (mw cI cJ cZ ad) (mt cI cJ cZ) (mL ad) sz z) 0 0 (gA (mL ad) sz) :=
  g_met (by decide) mw_WL (fun p e s m below meth c hsz C hB ls hl => by subst hsz; exact tX5_up C hB  hl h) (Nat.le_of_ble_eq_true rfl)
theorem hdX5_bound : yX5_bound.cls = "BitTunerModel" ∧ yX5_bound.cls ≠ "java/lang/invoke/MethodHandle" ∧ yX5_bound.cls ≠ "java/lang/invoke/VarHandle" ∧ (parseMethodDescriptor yX5_bound.desc).map (fun d => d.parameters.length) = some 1 := by decide +kernel
def fX5_bound_215 (kf_2 : Int32 → Int32 → TI → TJ → Option (Int64 × SS)) (v1 : Int32) (v2 : Int32) (v4 : Int64) (v10 : Int64) (I : TI) (J : TJ) : Option (Int64 × SS) :=
  bnd (fX5_min (1073741824 : Int64) (v10 + v4) I J) (fun q_10 I_10 J_10 =>
  if okx v2 then
  kf_2 v1 (v2 + (1 : Int32)) I_10 (uJ J_10 2 (v2.toNatClampNeg) q_10)
  else none)
set_option maxHeartbeats 4000000 in
set_option maxRecDepth 100000 in
theorem tX5_bound_215 {p : Program} {l : Launch} {e : Env} {s : State} {m : MethodId} {args : Array Value} {below : List Frame} {meth : Method} {c : Code} (C : KX p s m args meth c "BitTunerModel" cX5_bound 12 (some .long)) {D : va_G} {cI cJ cZ : ClassId} {ad : Nat → Nat} {z : Int64 × SS} {kf_2 : Int32 → Int32 → TI → TJ → Option (Int64 × SS)} (kt_2 : ∀ {H : Heap} {locs : List Loc} {ls : Array Slot} {I : TI} {J : TJ} {v1 : Int32} {v2 : Int32}, MB D cI cJ cZ ad s H locs I J → lv_has ls 12 [(0, .ref (ad 0)), (1, .int v1), (2, .int v2)] → kf_2 v1 v2 I J = some z → W p l e (rmd 2) s m args below meth c H locs 0 0 (MQ below (gQl D (mw cI cJ cZ ad) (mt cI cJ cZ) (mL ad) s.heap.size z) args s 0 0 (gA (mL ad) s.heap.size)) (F0 m 2 ls [])) {H : Heap} {locs : List Loc} {ls : Array Slot} {I : TI} {J : TJ} {v1 : Int32} {v2 : Int32} {v4 : Int64} {v10 : Int64} (hB : MB D cI cJ cZ ad s H locs I J)  (hl : lv_has ls 12 [(0, .ref (ad 0)), (1, .int v1), (2, .int v2), (4, .long v4), (10, .long v10)]) (h : fX5_bound_215 kf_2 v1 v2 v4 v10 I J = some z) : W p l e (rmd 2) s m args below meth c H locs 0 0 (MQ below (gQl D (mw cI cJ cZ ad) (mt cI cJ cZ) (mL ad) s.heap.size z) args s 0 0 (gA (mL ad) s.heap.size)) (F0 m 215 ls []) := by
  unfold fX5_bound_215 at h
  refine lv_aload_n C.hx C.hb dX5_bound_215 rfl (lv_at hl 0 rfl) ?_
  refine mg_bounds C hB tw_568 dX5_bound_216 ?_
  refine lv_iload_n C.hx C.hb dX5_bound_219 rfl (lv_at hl 2 rfl) ?_
  refine lv_ldc2 C.hx C.hb C.hown (C.hts _ tw_693) dX5_bound_220 ?_
  refine lv_lload C.hx C.hb dX5_bound_223 (lv_at hl 4 rfl) ?_
  refine lv_lload C.hx C.hb dX5_bound_225 (lv_at hl 3 rfl) ?_
  refine lv_ladd C.hx C.hb dX5_bound_227 ?_
  obtain ⟨q_10, I_10, J_10, hc_10, h⟩ := bnd_some h
  refine g_gol hB (g_runS C hB [.long (1073741824 : Int64), .long (v10 + v4)] [.int v2, .ref (ad 11)] (cnX5_min l D cI cJ cZ ad H.size  hc_10) tw_649 tw_650 tw_38 tw_651 ⟨rfl, rfl⟩ hdX5_min ⟨Nat.le_of_ble_eq_true rfl, Nat.le_of_ble_eq_true rfl⟩ hl.1 rfl (Nat.le_of_ble_eq_true rfl) dX5_bound_228) (fun H locs hB => ?_)
  obtain ⟨c_11, h⟩ := ite_ck h
  refine ma_bounds_st C hB c_11 dX5_bound_231 (fun H locs hB => ?_)
  refine lv_iinc (v := v2 + (1 : Int32)) (lv' := [(2, .int (v2 + (1 : Int32))), (0, .ref (ad 0)), (1, .int v1), (4, .long v4), (10, .long v10)]) C.hx C.hb dX5_bound_232 hl (k := 2) rfl rfl (by decide) rfl (fun ls hl => ?_)
  refine lv_goto (tgt := 2) C.hx C.hb dX5_bound_235 (by decide) ?_
  exact kt_2 hB (lv_sub hl [1, 2, 0] rfl) h
def fX5_bound_194 (kf_2 : Int32 → Int32 → TI → TJ → Option (Int64 × SS)) (v1 : Int32) (v2 : Int32) (v4 : Int64) (w0 : Int64) (I : TI) (J : TJ) : Option (Int64 × SS) :=
  fX5_bound_215 (kf_2) v1 v2 v4 w0 I J
set_option maxHeartbeats 4000000 in
set_option maxRecDepth 100000 in
theorem tX5_bound_194 {p : Program} {l : Launch} {e : Env} {s : State} {m : MethodId} {args : Array Value} {below : List Frame} {meth : Method} {c : Code} (C : KX p s m args meth c "BitTunerModel" cX5_bound 12 (some .long)) {D : va_G} {cI cJ cZ : ClassId} {ad : Nat → Nat} {z : Int64 × SS} {kf_2 : Int32 → Int32 → TI → TJ → Option (Int64 × SS)} (kt_2 : ∀ {H : Heap} {locs : List Loc} {ls : Array Slot} {I : TI} {J : TJ} {v1 : Int32} {v2 : Int32}, MB D cI cJ cZ ad s H locs I J → lv_has ls 12 [(0, .ref (ad 0)), (1, .int v1), (2, .int v2)] → kf_2 v1 v2 I J = some z → W p l e (rmd 2) s m args below meth c H locs 0 0 (MQ below (gQl D (mw cI cJ cZ ad) (mt cI cJ cZ) (mL ad) s.heap.size z) args s 0 0 (gA (mL ad) s.heap.size)) (F0 m 2 ls [])) {H : Heap} {locs : List Loc} {ls : Array Slot} {I : TI} {J : TJ} {v1 : Int32} {v2 : Int32} {v4 : Int64} {w0 : Int64} (hB : MB D cI cJ cZ ad s H locs I J)  (hl : lv_has ls 12 [(0, .ref (ad 0)), (1, .int v1), (2, .int v2), (4, .long v4)]) (h : fX5_bound_194 kf_2 v1 v2 v4 w0 I J = some z) : W p l e (rmd 2) s m args below meth c H locs 0 0 (MQ below (gQl D (mw cI cJ cZ ad) (mt cI cJ cZ) (mL ad) s.heap.size z) args s 0 0 (gA (mL ad) s.heap.size)) (F0 m 194 ls [.long w0]) := by
  unfold fX5_bound_194 at h
  refine lv_lstore (lv' := [(10, .long w0), (0, .ref (ad 0)), (1, .int v1), (2, .int v2), (4, .long v4)]) C.hx C.hb dX5_bound_194 hl (by decide) rfl (fun ls hl => ?_)
  refine lv_goto (tgt := 215) C.hx C.hb dX5_bound_196 (by decide) ?_
  exact tX5_bound_215 C (kt_2) hB (lv_sub hl [1, 2, 3, 4, 0] rfl) h
def fX5_bound_152 (kf_2 : Int32 → Int32 → TI → TJ → Option (Int64 × SS)) (v1 : Int32) (v2 : Int32) (v4 : Int64) (I : TI) (J : TJ) : Option (Int64 × SS) :=
  fX5_bound_194 (kf_2) v1 v2 v4 (1073741824 : Int64) I J
set_option maxHeartbeats 4000000 in
set_option maxRecDepth 100000 in
theorem tX5_bound_152 {p : Program} {l : Launch} {e : Env} {s : State} {m : MethodId} {args : Array Value} {below : List Frame} {meth : Method} {c : Code} (C : KX p s m args meth c "BitTunerModel" cX5_bound 12 (some .long)) {D : va_G} {cI cJ cZ : ClassId} {ad : Nat → Nat} {z : Int64 × SS} {kf_2 : Int32 → Int32 → TI → TJ → Option (Int64 × SS)} (kt_2 : ∀ {H : Heap} {locs : List Loc} {ls : Array Slot} {I : TI} {J : TJ} {v1 : Int32} {v2 : Int32}, MB D cI cJ cZ ad s H locs I J → lv_has ls 12 [(0, .ref (ad 0)), (1, .int v1), (2, .int v2)] → kf_2 v1 v2 I J = some z → W p l e (rmd 2) s m args below meth c H locs 0 0 (MQ below (gQl D (mw cI cJ cZ ad) (mt cI cJ cZ) (mL ad) s.heap.size z) args s 0 0 (gA (mL ad) s.heap.size)) (F0 m 2 ls [])) {H : Heap} {locs : List Loc} {ls : Array Slot} {I : TI} {J : TJ} {v1 : Int32} {v2 : Int32} {v4 : Int64} (hB : MB D cI cJ cZ ad s H locs I J)  (hl : lv_has ls 12 [(0, .ref (ad 0)), (1, .int v1), (2, .int v2), (4, .long v4)]) (h : fX5_bound_152 kf_2 v1 v2 v4 I J = some z) : W p l e (rmd 2) s m args below meth c H locs 0 0 (MQ below (gQl D (mw cI cJ cZ ad) (mt cI cJ cZ) (mL ad) s.heap.size z) args s 0 0 (gA (mL ad) s.heap.size)) (F0 m 152 ls []) := by
  unfold fX5_bound_152 at h
  refine lv_ldc2 C.hx C.hb C.hown (C.hts _ tw_693) dX5_bound_152 ?_
  refine lv_goto (tgt := 194) C.hx C.hb dX5_bound_155 (by decide) ?_
  exact tX5_bound_194 C (kt_2) hB (lv_sub hl [0, 1, 2, 3] rfl) h
def fX5_bound_58 (kf_2 : Int32 → Int32 → TI → TJ → Option (Int64 × SS)) (v1 : Int32) (v2 : Int32) (w0 : Int64) (I : TI) (J : TJ) : Option (Int64 × SS) :=
  if okx v2 then
  if okx (I 1 v2.toNatClampNeg) then
  if okx (I 2 v2.toNatClampNeg) then
  if (I 0 v2.toNatClampNeg) = 2 then
  fX5_bound_215 (kf_2) v1 v2 w0 ((J 2 ((I 1 v2.toNatClampNeg).toNatClampNeg)) + (J 2 ((I 2 v2.toNatClampNeg).toNatClampNeg))) I J
  else
  if (I 0 v2.toNatClampNeg) = 3 then
  fX5_bound_215 (kf_2) v1 v2 w0 ((J 2 ((I 1 v2.toNatClampNeg).toNatClampNeg)) + (J 2 ((I 2 v2.toNatClampNeg).toNatClampNeg))) I J
  else
  if (I 0 v2.toNatClampNeg) = 4 then
  if (J 2 ((I 1 v2.toNatClampNeg).toNatClampNeg)) = (1073741824 : Int64) then
  fX5_bound_152 (kf_2) v1 v2 w0 I J
  else
  if (J 2 ((I 2 v2.toNatClampNeg).toNatClampNeg)) = (1073741824 : Int64) then
  fX5_bound_152 (kf_2) v1 v2 w0 I J
  else
  bnd (fX5_greatest (I 1 v2.toNatClampNeg) I J) (fun q_16 I_16 J_16 =>
  bnd (fX5_greatest (I_16 2 v2.toNatClampNeg) I_16 J_16) (fun q_17 I_17 J_17 =>
  bnd (fX5_up (((q_16 * (J 2 ((I 2 v2.toNatClampNeg).toNatClampNeg))) + (q_17 * (J 2 ((I 1 v2.toNatClampNeg).toNatClampNeg)))) + ((J 2 ((I 1 v2.toNatClampNeg).toNatClampNeg)) * (J 2 ((I 2 v2.toNatClampNeg).toNatClampNeg)))) I_17 J_17) (fun q_18 I_18 J_18 =>
  fX5_bound_194 (kf_2) v1 v2 w0 q_18 I_18 J_18)))
  else
  if (I 0 v2.toNatClampNeg) = 5 then
  bnd (fX5_max (J 2 ((I 1 v2.toNatClampNeg).toNatClampNeg)) (J 2 ((I 2 v2.toNatClampNeg).toNatClampNeg)) I J) (fun q_20 I_20 J_20 =>
  fX5_bound_215 (kf_2) v1 v2 w0 q_20 I_20 J_20)
  else
  fX5_bound_215 (kf_2) v1 v2 w0 (J 2 ((I 1 v2.toNatClampNeg).toNatClampNeg)) I J
  else none
  else none
  else none
set_option maxHeartbeats 4000000 in
set_option maxRecDepth 100000 in
theorem tX5_bound_58 {p : Program} {l : Launch} {e : Env} {s : State} {m : MethodId} {args : Array Value} {below : List Frame} {meth : Method} {c : Code} (C : KX p s m args meth c "BitTunerModel" cX5_bound 12 (some .long)) {D : va_G} {cI cJ cZ : ClassId} {ad : Nat → Nat} {z : Int64 × SS} {kf_2 : Int32 → Int32 → TI → TJ → Option (Int64 × SS)} (kt_2 : ∀ {H : Heap} {locs : List Loc} {ls : Array Slot} {I : TI} {J : TJ} {v1 : Int32} {v2 : Int32}, MB D cI cJ cZ ad s H locs I J → lv_has ls 12 [(0, .ref (ad 0)), (1, .int v1), (2, .int v2)] → kf_2 v1 v2 I J = some z → W p l e (rmd 2) s m args below meth c H locs 0 0 (MQ below (gQl D (mw cI cJ cZ ad) (mt cI cJ cZ) (mL ad) s.heap.size z) args s 0 0 (gA (mL ad) s.heap.size)) (F0 m 2 ls [])) {H : Heap} {locs : List Loc} {ls : Array Slot} {I : TI} {J : TJ} {v1 : Int32} {v2 : Int32} {w0 : Int64} (hB : MB D cI cJ cZ ad s H locs I J)  (hl : lv_has ls 12 [(0, .ref (ad 0)), (1, .int v1), (2, .int v2)]) (h : fX5_bound_58 kf_2 v1 v2 w0 I J = some z) : W p l e (rmd 2) s m args below meth c H locs 0 0 (MQ below (gQl D (mw cI cJ cZ ad) (mt cI cJ cZ) (mL ad) s.heap.size z) args s 0 0 (gA (mL ad) s.heap.size)) (F0 m 58 ls [.long w0]) := by
  unfold fX5_bound_58 at h
  refine lv_lstore (lv' := [(4, .long w0), (0, .ref (ad 0)), (1, .int v1), (2, .int v2)]) C.hx C.hb dX5_bound_58 hl (by decide) rfl (fun ls hl => ?_)
  refine lv_aload_n C.hx C.hb dX5_bound_60 rfl (lv_at hl 1 rfl) ?_
  refine mg_bounds C hB tw_568 dX5_bound_61 ?_
  refine lv_aload_n C.hx C.hb dX5_bound_64 rfl (lv_at hl 1 rfl) ?_
  refine mg_a C hB tw_559 dX5_bound_65 ?_
  refine lv_iload_n C.hx C.hb dX5_bound_68 rfl (lv_at hl 3 rfl) ?_
  obtain ⟨c_6, h⟩ := ite_ck h
  refine ma_a_ld C hB c_6 dX5_bound_69 ?_
  obtain ⟨c_7, h⟩ := ite_ck h
  refine ma_bounds_ld C hB c_7 dX5_bound_70 ?_
  refine lv_lstore (lv' := [(6, .long (J 2 ((I 1 v2.toNatClampNeg).toNatClampNeg))), (4, .long w0), (0, .ref (ad 0)), (1, .int v1), (2, .int v2)]) C.hx C.hb dX5_bound_71 hl (by decide) rfl (fun ls hl => ?_)
  refine lv_aload_n C.hx C.hb dX5_bound_73 rfl (lv_at hl 2 rfl) ?_
  refine mg_bounds C hB tw_568 dX5_bound_74 ?_
  refine lv_aload_n C.hx C.hb dX5_bound_77 rfl (lv_at hl 2 rfl) ?_
  refine mg_b C hB tw_560 dX5_bound_78 ?_
  refine lv_iload_n C.hx C.hb dX5_bound_81 rfl (lv_at hl 4 rfl) ?_
  refine ma_b_ld C hB c_6 dX5_bound_82 ?_
  obtain ⟨c_8, h⟩ := ite_ck h
  refine ma_bounds_ld C hB c_8 dX5_bound_83 ?_
  refine lv_lstore (lv' := [(8, .long (J 2 ((I 2 v2.toNatClampNeg).toNatClampNeg))), (6, .long (J 2 ((I 1 v2.toNatClampNeg).toNatClampNeg))), (4, .long w0), (0, .ref (ad 0)), (1, .int v1), (2, .int v2)]) C.hx C.hb dX5_bound_84 hl (by decide) rfl (fun ls hl => ?_)
  refine lv_aload_n C.hx C.hb dX5_bound_86 rfl (lv_at hl 3 rfl) ?_
  refine mg_kinds C hB tw_558 dX5_bound_87 ?_
  refine lv_iload_n C.hx C.hb dX5_bound_90 rfl (lv_at hl 5 rfl) ?_
  refine ma_kinds_ld C hB c_6 dX5_bound_91 ?_
  by_cases c_9 : (I 0 v2.toNatClampNeg) = 2
  · replace h := (if_pos c_9).symm.trans h
    refine lv_tableIn (x := (I 0 v2.toNatClampNeg)) (tgt := 124) (off := 32) C.hx C.hb dX5_bound_92 (by rw [c_9]; decide) (by rw [c_9]; decide) (by rw [c_9]; rfl) (by decide) ?_
    refine lv_lload C.hx C.hb dX5_bound_124 (lv_at hl 1 rfl) ?_
    refine lv_lload C.hx C.hb dX5_bound_126 (lv_at hl 0 rfl) ?_
    refine lv_ladd C.hx C.hb dX5_bound_128 ?_
    refine lv_lstore (lv' := [(10, .long ((J 2 ((I 1 v2.toNatClampNeg).toNatClampNeg)) + (J 2 ((I 2 v2.toNatClampNeg).toNatClampNeg)))), (8, .long (J 2 ((I 2 v2.toNatClampNeg).toNatClampNeg))), (6, .long (J 2 ((I 1 v2.toNatClampNeg).toNatClampNeg))), (4, .long w0), (0, .ref (ad 0)), (1, .int v1), (2, .int v2)]) C.hx C.hb dX5_bound_129 hl (by decide) rfl (fun ls hl => ?_)
    refine lv_goto (tgt := 215) C.hx C.hb dX5_bound_131 (by decide) ?_
    exact tX5_bound_215 C (kt_2) hB (lv_sub hl [4, 5, 6, 3, 0] rfl) h
  · replace h := (if_neg c_9).symm.trans h
    by_cases c_12 : (I 0 v2.toNatClampNeg) = 3
    · replace h := (if_pos c_12).symm.trans h
      refine lv_tableIn (x := (I 0 v2.toNatClampNeg)) (tgt := 124) (off := 32) C.hx C.hb dX5_bound_92 (by rw [c_12]; decide) (by rw [c_12]; decide) (by rw [c_12]; rfl) (by decide) ?_
      refine lv_lload C.hx C.hb dX5_bound_124 (lv_at hl 1 rfl) ?_
      refine lv_lload C.hx C.hb dX5_bound_126 (lv_at hl 0 rfl) ?_
      refine lv_ladd C.hx C.hb dX5_bound_128 ?_
      refine lv_lstore (lv' := [(10, .long ((J 2 ((I 1 v2.toNatClampNeg).toNatClampNeg)) + (J 2 ((I 2 v2.toNatClampNeg).toNatClampNeg)))), (8, .long (J 2 ((I 2 v2.toNatClampNeg).toNatClampNeg))), (6, .long (J 2 ((I 1 v2.toNatClampNeg).toNatClampNeg))), (4, .long w0), (0, .ref (ad 0)), (1, .int v1), (2, .int v2)]) C.hx C.hb dX5_bound_129 hl (by decide) rfl (fun ls hl => ?_)
      refine lv_goto (tgt := 215) C.hx C.hb dX5_bound_131 (by decide) ?_
      exact tX5_bound_215 C (kt_2) hB (lv_sub hl [4, 5, 6, 3, 0] rfl) h
    · replace h := (if_neg c_12).symm.trans h
      by_cases c_13 : (I 0 v2.toNatClampNeg) = 4
      · replace h := (if_pos c_13).symm.trans h
        refine lv_tableIn (x := (I 0 v2.toNatClampNeg)) (tgt := 134) (off := 42) C.hx C.hb dX5_bound_92 (by rw [c_13]; decide) (by rw [c_13]; decide) (by rw [c_13]; rfl) (by decide) ?_
        refine lv_lload C.hx C.hb dX5_bound_134 (lv_at hl 1 rfl) ?_
        refine lv_ldc2 C.hx C.hb C.hown (C.hts _ tw_693) dX5_bound_136 ?_
        refine g_lcmp_eq C (tgt := 152) dX5_bound_139 dX5_bound_140 (by decide) (fun c_14 => ?_) (fun c_14 => ?_)
        · replace h := (if_pos c_14).symm.trans h
          exact tX5_bound_152 C (kt_2) hB (lv_sub hl [3, 4, 5, 2] rfl) h
        · replace h := (if_neg c_14).symm.trans h
          refine lv_lload C.hx C.hb dX5_bound_143 (lv_at hl 0 rfl) ?_
          refine lv_ldc2 C.hx C.hb C.hown (C.hts _ tw_693) dX5_bound_145 ?_
          refine g_lcmp_ne C (tgt := 158) dX5_bound_148 dX5_bound_149 (by decide) (fun c_15 => ?_) (fun c_15 => ?_)
          · replace h := (if_neg c_15).symm.trans h
            refine lv_aload_n C.hx C.hb dX5_bound_158 rfl (lv_at hl 3 rfl) ?_
            refine lv_aload_n C.hx C.hb dX5_bound_159 rfl (lv_at hl 3 rfl) ?_
            refine mg_a C hB tw_559 dX5_bound_160 ?_
            refine lv_iload_n C.hx C.hb dX5_bound_163 rfl (lv_at hl 5 rfl) ?_
            refine ma_a_ld C hB c_6 dX5_bound_164 ?_
            obtain ⟨q_16, I_16, J_16, hc_16, h⟩ := bnd_some h
            refine g_gol hB (g_runV C hB [.int (I 1 v2.toNatClampNeg)] [] (cnX5_greatest l D cI cJ cZ ad H.size  hc_16) 0 rfl rfl tw_694 tw_696 tw_18 tw_38 tw_697 ⟨rfl, rfl⟩ hdX5_greatest ⟨Nat.le_of_ble_eq_true rfl, Nat.le_of_ble_eq_true rfl⟩ hl.1 rfl (Nat.le_of_ble_eq_true rfl) dX5_bound_165) (fun H locs hB => ?_)
            refine lv_lload C.hx C.hb dX5_bound_168 (lv_at hl 0 rfl) ?_
            refine lv_lmul C.hx C.hb dX5_bound_170 ?_
            refine lv_aload_n C.hx C.hb dX5_bound_171 rfl (lv_at hl 3 rfl) ?_
            refine lv_aload_n C.hx C.hb dX5_bound_172 rfl (lv_at hl 3 rfl) ?_
            refine mg_b C hB tw_560 dX5_bound_173 ?_
            refine lv_iload_n C.hx C.hb dX5_bound_176 rfl (lv_at hl 5 rfl) ?_
            refine ma_b_ld C hB c_6 dX5_bound_177 ?_
            obtain ⟨q_17, I_17, J_17, hc_17, h⟩ := bnd_some h
            refine g_gol hB (g_runV C hB [.int (I_16 2 v2.toNatClampNeg)] [.long (q_16 * (J 2 ((I 2 v2.toNatClampNeg).toNatClampNeg)))] (cnX5_greatest l D cI cJ cZ ad H.size  hc_17) 0 rfl rfl tw_694 tw_696 tw_18 tw_38 tw_697 ⟨rfl, rfl⟩ hdX5_greatest ⟨Nat.le_of_ble_eq_true rfl, Nat.le_of_ble_eq_true rfl⟩ hl.1 rfl (Nat.le_of_ble_eq_true rfl) dX5_bound_178) (fun H locs hB => ?_)
            refine lv_lload C.hx C.hb dX5_bound_181 (lv_at hl 1 rfl) ?_
            refine lv_lmul C.hx C.hb dX5_bound_183 ?_
            refine lv_ladd C.hx C.hb dX5_bound_184 ?_
            refine lv_lload C.hx C.hb dX5_bound_185 (lv_at hl 1 rfl) ?_
            refine lv_lload C.hx C.hb dX5_bound_187 (lv_at hl 0 rfl) ?_
            refine lv_lmul C.hx C.hb dX5_bound_189 ?_
            refine lv_ladd C.hx C.hb dX5_bound_190 ?_
            obtain ⟨q_18, I_18, J_18, hc_18, h⟩ := bnd_some h
            refine g_gol hB (g_runS C hB [.long (((q_16 * (J 2 ((I 2 v2.toNatClampNeg).toNatClampNeg))) + (q_17 * (J 2 ((I 1 v2.toNatClampNeg).toNatClampNeg)))) + ((J 2 ((I 1 v2.toNatClampNeg).toNatClampNeg)) * (J 2 ((I 2 v2.toNatClampNeg).toNatClampNeg))))] [] (cnX5_up l D cI cJ cZ ad H.size  hc_18) tw_698 tw_699 tw_38 tw_700 ⟨rfl, rfl⟩ hdX5_up ⟨Nat.le_of_ble_eq_true rfl, Nat.le_of_ble_eq_true rfl⟩ hl.1 rfl (Nat.le_of_ble_eq_true rfl) dX5_bound_191) (fun H locs hB => ?_)
            exact tX5_bound_194 C (kt_2) hB (lv_sub hl [3, 4, 5, 2] rfl) h
          · replace h := (if_pos c_15).symm.trans h
            exact tX5_bound_152 C (kt_2) hB (lv_sub hl [3, 4, 5, 2] rfl) h
      · replace h := (if_neg c_13).symm.trans h
        by_cases c_19 : (I 0 v2.toNatClampNeg) = 5
        · replace h := (if_pos c_19).symm.trans h
          refine lv_tableIn (x := (I 0 v2.toNatClampNeg)) (tgt := 199) (off := 107) C.hx C.hb dX5_bound_92 (by rw [c_19]; decide) (by rw [c_19]; decide) (by rw [c_19]; rfl) (by decide) ?_
          refine lv_lload C.hx C.hb dX5_bound_199 (lv_at hl 1 rfl) ?_
          refine lv_lload C.hx C.hb dX5_bound_201 (lv_at hl 0 rfl) ?_
          obtain ⟨q_20, I_20, J_20, hc_20, h⟩ := bnd_some h
          refine g_gol hB (g_runS C hB [.long (J 2 ((I 1 v2.toNatClampNeg).toNatClampNeg)), .long (J 2 ((I 2 v2.toNatClampNeg).toNatClampNeg))] [] (cnX5_max l D cI cJ cZ ad H.size  hc_20) tw_646 tw_647 tw_38 tw_648 ⟨rfl, rfl⟩ hdX5_max ⟨Nat.le_of_ble_eq_true rfl, Nat.le_of_ble_eq_true rfl⟩ hl.1 rfl (Nat.le_of_ble_eq_true rfl) dX5_bound_203) (fun H locs hB => ?_)
          refine lv_lstore (lv' := [(10, .long q_20), (8, .long (J 2 ((I 2 v2.toNatClampNeg).toNatClampNeg))), (6, .long (J 2 ((I 1 v2.toNatClampNeg).toNatClampNeg))), (4, .long w0), (0, .ref (ad 0)), (1, .int v1), (2, .int v2)]) C.hx C.hb dX5_bound_206 hl (by decide) rfl (fun ls hl => ?_)
          refine lv_goto (tgt := 215) C.hx C.hb dX5_bound_208 (by decide) ?_
          exact tX5_bound_215 C (kt_2) hB (lv_sub hl [4, 5, 6, 3, 0] rfl) h
        · replace h := (if_neg c_19).symm.trans h
          refine lv_tableOut (x := (I 0 v2.toNatClampNeg)) (tgt := 211) C.hx C.hb dX5_bound_92 (by have z0 := ts_ne (k := 2) (2 : Int32) rfl c_9; have z1 := ts_ne (k := 3) (3 : Int32) rfl c_12; have z2 := ts_ne (k := 4) (4 : Int32) rfl c_13; have z3 := ts_ne (k := 5) (5 : Int32) rfl c_19; omega) (by decide) ?_
          refine lv_lload C.hx C.hb dX5_bound_211 (lv_at hl 1 rfl) ?_
          refine lv_lstore (lv' := [(10, .long (J 2 ((I 1 v2.toNatClampNeg).toNatClampNeg))), (8, .long (J 2 ((I 2 v2.toNatClampNeg).toNatClampNeg))), (6, .long (J 2 ((I 1 v2.toNatClampNeg).toNatClampNeg))), (4, .long w0), (0, .ref (ad 0)), (1, .int v1), (2, .int v2)]) C.hx C.hb dX5_bound_213 hl (by decide) rfl (fun ls hl => ?_)
          exact tX5_bound_215 C (kt_2) hB (lv_sub hl [4, 5, 6, 3, 0] rfl) h
def fX5_bound_2  : Nat → Int32 → Int32 → TI → TJ → Option (Int64 × SS)
  | 0, _, _, _, _ => none
  | n + 1, v1, v2, I, J =>
    if v1 < v2 then
    if okx v1 then
    some (J 2 v1.toNatClampNeg, I, J)
    else none
    else
    if okx v2 then
    if (1 : Int32) < (I 0 v2.toNatClampNeg) then
    if (I 5 v2.toNatClampNeg) = (1 : Int32) then
    fX5_bound_58 (fX5_bound_2 n) v1 v2 ((((65536 : Int32) >>> ((I 4 v2.toNatClampNeg) &&& 31)) / (2 : Int32)).toInt64) I J
    else
    fX5_bound_58 (fX5_bound_2 n) v1 v2 ((((65536 : Int32) >>> ((I 4 v2.toNatClampNeg) &&& 31)) - (1 : Int32)).toInt64) I J
    else
    fX5_bound_2 n v1 (v2 + (1 : Int32)) I (uJ J 2 (v2.toNatClampNeg) (0 : Int64))
    else none
theorem eX5_bound_2  (n : Nat) (v1 : Int32) (v2 : Int32) (I : TI) (J : TJ) : fX5_bound_2 (n + 1) v1 v2 I J = (
    if v1 < v2 then
    if okx v1 then
    some (J 2 v1.toNatClampNeg, I, J)
    else none
    else
    if okx v2 then
    if (1 : Int32) < (I 0 v2.toNatClampNeg) then
    if (I 5 v2.toNatClampNeg) = (1 : Int32) then
    fX5_bound_58 (fX5_bound_2 n) v1 v2 ((((65536 : Int32) >>> ((I 4 v2.toNatClampNeg) &&& 31)) / (2 : Int32)).toInt64) I J
    else
    fX5_bound_58 (fX5_bound_2 n) v1 v2 ((((65536 : Int32) >>> ((I 4 v2.toNatClampNeg) &&& 31)) - (1 : Int32)).toInt64) I J
    else
    fX5_bound_2 n v1 (v2 + (1 : Int32)) I (uJ J 2 (v2.toNatClampNeg) (0 : Int64))
    else none) := rfl
set_option maxHeartbeats 4000000 in
set_option maxRecDepth 100000 in
theorem tX5_bound_2 {p : Program} {l : Launch} {e : Env} {s : State} {m : MethodId} {args : Array Value} {below : List Frame} {meth : Method} {c : Code} (C : KX p s m args meth c "BitTunerModel" cX5_bound 12 (some .long)) {D : va_G} {cI cJ cZ : ClassId} {ad : Nat → Nat} {z : Int64 × SS}   : ∀ (n : Nat), ∀ {H : Heap} {locs : List Loc} {ls : Array Slot} {I : TI} {J : TJ} {v1 : Int32} {v2 : Int32}, MB D cI cJ cZ ad s H locs I J → lv_has ls 12 [(0, .ref (ad 0)), (1, .int v1), (2, .int v2)] → fX5_bound_2 n v1 v2 I J = some z → W p l e (rmd 2) s m args below meth c H locs 0 0 (MQ below (gQl D (mw cI cJ cZ ad) (mt cI cJ cZ) (mL ad) s.heap.size z) args s 0 0 (gA (mL ad) s.heap.size)) (F0 m 2 ls []) := by
  intro n
  induction n with
  | zero =>
    intro H locs ls I J v1 v2 hB  hl h
    have h : (none : Option (Int64 × SS)) = some z := h
    cases h
  | succ n ih =>
    intro H locs ls I J v1 v2 hB  hl h
    replace h := (eX5_bound_2 n v1 v2 I J).symm.trans h
    refine lv_iload_n C.hx C.hb dX5_bound_2 rfl (lv_at hl 2 rfl) ?_
    refine lv_iload_n C.hx C.hb dX5_bound_3 rfl (lv_at hl 1 rfl) ?_
    refine lv_icmp_gt (tgt := 238) C.hx C.hb dX5_bound_4 (by decide) (fun c_1 => ?_) (fun c_1 => ?_)
    · replace h := (if_pos c_1).symm.trans h
      refine lv_aload_n C.hx C.hb dX5_bound_238 rfl (lv_at hl 0 rfl) ?_
      refine mg_bounds C hB tw_568 dX5_bound_239 ?_
      refine lv_iload_n C.hx C.hb dX5_bound_242 rfl (lv_at hl 1 rfl) ?_
      obtain ⟨c_2, h⟩ := ite_ck h
      refine ma_bounds_ld C hB c_2 dX5_bound_243 ?_
      exact g_lret C hB h dX5_bound_244
    · replace h := (if_neg c_1).symm.trans h
      refine lv_aload_n C.hx C.hb dX5_bound_7 rfl (lv_at hl 0 rfl) ?_
      refine mg_kinds C hB tw_558 dX5_bound_8 ?_
      refine lv_iload_n C.hx C.hb dX5_bound_11 rfl (lv_at hl 2 rfl) ?_
      obtain ⟨c_3, h⟩ := ite_ck h
      refine ma_kinds_ld C hB c_3 dX5_bound_12 ?_
      refine lv_iconst (v := (1 : Int32)) C.hx C.hb dX5_bound_13 (by decide) ?_
      refine lv_icmp_gt (tgt := 27) C.hx C.hb dX5_bound_14 (by decide) (fun c_4 => ?_) (fun c_4 => ?_)
      · replace h := (if_pos c_4).symm.trans h
        refine lv_ldc C.hx C.hb C.hown (C.hts _ tw_692) dX5_bound_27 ?_
        refine lv_aload_n C.hx C.hb dX5_bound_29 rfl (lv_at hl 0 rfl) ?_
        refine mg_bits C hB tw_564 dX5_bound_30 ?_
        refine lv_iload_n C.hx C.hb dX5_bound_33 rfl (lv_at hl 2 rfl) ?_
        refine ma_bits_ld C hB c_3 dX5_bound_34 ?_
        refine lv_ishr C.hx C.hb dX5_bound_35 ?_
        refine lv_istore_n (lv' := [(3, .int ((65536 : Int32) >>> ((I 4 v2.toNatClampNeg) &&& 31))), (0, .ref (ad 0)), (1, .int v1), (2, .int v2)]) C.hx C.hb dX5_bound_36 rfl hl (by decide) rfl (fun ls hl => ?_)
        refine lv_aload_n C.hx C.hb dX5_bound_37 rfl (lv_at hl 1 rfl) ?_
        refine mg_roundings C hB tw_565 dX5_bound_38 ?_
        refine lv_iload_n C.hx C.hb dX5_bound_41 rfl (lv_at hl 3 rfl) ?_
        refine ma_roundings_ld C hB c_3 dX5_bound_42 ?_
        refine lv_iconst (v := (1 : Int32)) C.hx C.hb dX5_bound_43 (by decide) ?_
        refine lv_icmp_ne (tgt := 54) C.hx C.hb dX5_bound_44 (by decide) (fun c_5 => ?_) (fun c_5 => ?_)
        · replace h := (if_neg c_5).symm.trans h
          refine lv_iload_n C.hx C.hb dX5_bound_54 rfl (lv_at hl 0 rfl) ?_
          refine lv_iconst (v := (1 : Int32)) C.hx C.hb dX5_bound_55 (by decide) ?_
          refine lv_isub C.hx C.hb dX5_bound_56 ?_
          refine lv_i2l C.hx C.hb dX5_bound_57 rfl ?_
          exact tX5_bound_58 C (ih) hB (lv_sub hl [1, 2, 3] rfl) h
        · replace h := (if_pos c_5).symm.trans h
          refine lv_iload_n C.hx C.hb dX5_bound_47 rfl (lv_at hl 0 rfl) ?_
          refine lv_iconst (v := (2 : Int32)) C.hx C.hb dX5_bound_48 (by decide) ?_
          refine lv_idiv C.hx C.hb dX5_bound_49 (by decide) ?_
          refine lv_i2l C.hx C.hb dX5_bound_50 rfl ?_
          refine lv_goto (tgt := 58) C.hx C.hb dX5_bound_51 (by decide) ?_
          exact tX5_bound_58 C (ih) hB (lv_sub hl [1, 2, 3] rfl) h
      · replace h := (if_neg c_4).symm.trans h
        refine lv_aload_n C.hx C.hb dX5_bound_17 rfl (lv_at hl 0 rfl) ?_
        refine mg_bounds C hB tw_568 dX5_bound_18 ?_
        refine lv_iload_n C.hx C.hb dX5_bound_21 rfl (lv_at hl 2 rfl) ?_
        refine lv_lconst (v := (0 : Int64)) C.hx C.hb dX5_bound_22 (by decide) ?_
        refine ma_bounds_st C hB c_3 dX5_bound_23 (fun H locs hB => ?_)
        refine lv_goto (tgt := 232) C.hx C.hb dX5_bound_24 (by decide) ?_
        refine lv_iinc (v := v2 + (1 : Int32)) (lv' := [(2, .int (v2 + (1 : Int32))), (0, .ref (ad 0)), (1, .int v1)]) C.hx C.hb dX5_bound_232 hl (k := 2) rfl rfl (by decide) rfl (fun ls hl => ?_)
        refine lv_goto (tgt := 2) C.hx C.hb dX5_bound_235 (by decide) ?_
        exact ih hB (lv_sub hl [1, 2, 0] rfl) h
def fX5_bound  (v1 : Int32) (I : TI) (J : TJ) : Option (Int64 × SS) :=
  fX5_bound_2 fuel v1 (0 : Int32) I J
set_option maxHeartbeats 4000000 in
set_option maxRecDepth 100000 in
theorem tX5_bound {p : Program} {l : Launch} {e : Env} {s : State} {m : MethodId} {args : Array Value} {below : List Frame} {meth : Method} {c : Code} (C : KX p s m args meth c "BitTunerModel" cX5_bound 12 (some .long)) {D : va_G} {cI cJ cZ : ClassId} {ad : Nat → Nat} {z : Int64 × SS}   {H : Heap} {locs : List Loc} {ls : Array Slot} {I : TI} {J : TJ} {v1 : Int32} (hB : MB D cI cJ cZ ad s H locs I J)  (hl : lv_has ls 12 [(0, .ref (ad 0)), (1, .int v1)]) (h : fX5_bound v1 I J = some z) : W p l e (rmd 2) s m args below meth c H locs 0 0 (MQ below (gQl D (mw cI cJ cZ ad) (mt cI cJ cZ) (mL ad) s.heap.size z) args s 0 0 (gA (mL ad) s.heap.size)) (F0 m 0 ls []) := by
  unfold fX5_bound at h
  refine lv_iconst (v := (0 : Int32)) C.hx C.hb dX5_bound_0 (by decide) ?_
  refine lv_istore_n (lv' := [(2, .int (0 : Int32)), (0, .ref (ad 0)), (1, .int v1)]) C.hx C.hb dX5_bound_1 rfl hl (by decide) rfl (fun ls hl => ?_)
  exact tX5_bound_2 C  fuel hB (lv_sub hl [1, 2, 0] rfl) h
set_option maxHeartbeats 4000000 in
set_option maxRecDepth 100000 in
theorem cnX5_bound (l : Launch) (D : va_G) (cI cJ cZ : ClassId) (ad : Nat → Nat) (sz : Nat) {v1 : Int32} {I : TI} {J : TJ} {z : Int64 × SS}  (h : fX5_bound v1 I J = some z) : Met l yX5_bound (wsm yX5_bound cX5_bound 12 (some .long)) (rmd 2) (va_Pc [.ref (ad 0), .int v1] (gPre D (mw cI cJ cZ ad) (mt cI cJ cZ) sz I J)) (gQl D (mw cI cJ cZ ad) (mt cI cJ cZ) (mL ad) sz z) 0 0 (gA (mL ad) sz) :=
  g_met (by decide) mw_WL (fun p e s m below meth c hsz C hB ls hl => by subst hsz; exact tX5_bound C hB  hl h) (Nat.le_of_ble_eq_true rfl)
theorem hdX5_about : yX5_about.cls = "BitTunerModel" ∧ yX5_about.cls ≠ "java/lang/invoke/MethodHandle" ∧ yX5_about.cls ≠ "java/lang/invoke/VarHandle" ∧ (parseMethodDescriptor yX5_about.desc).map (fun d => d.parameters.length) = some 2 := by decide +kernel
def fX5_about  (v1 : Int32) (v2 : Int32) (I : TI) (J : TJ) : Option (Int64 × SS) :=
  bnd (fX5_isValue v1 I J) (fun q_1 I_1 J_1 =>
  if q_1 = 0 then
  bnd (fX5_no (-2 : Int32) I_1 J_1) (fun q_24 I_24 J_24 =>
  some (q_24, I_24, J_24))
  else
  if v2 = 0 then
  if okx v1 then
  some ((I_1 0 v1.toNatClampNeg).toInt64, I_1, J_1)
  else none
  else
  if v2 = 1 then
  if okx v1 then
  some ((I_1 1 v1.toNatClampNeg).toInt64, I_1, J_1)
  else none
  else
  if v2 = 2 then
  if okx v1 then
  some ((I_1 2 v1.toNatClampNeg).toInt64, I_1, J_1)
  else none
  else
  if v2 = 3 then
  if okx v1 then
  some ((I_1 3 v1.toNatClampNeg).toInt64, I_1, J_1)
  else none
  else
  if v2 = 4 then
  if okx v1 then
  some ((I_1 4 v1.toNatClampNeg).toInt64, I_1, J_1)
  else none
  else
  if v2 = 5 then
  if okx v1 then
  some ((I_1 5 v1.toNatClampNeg).toInt64, I_1, J_1)
  else none
  else
  if v2 = 6 then
  if okx v1 then
  some ((I_1 6 v1.toNatClampNeg).toInt64, I_1, J_1)
  else none
  else
  if v2 = 7 then
  if okx v1 then
  some (J_1 0 v1.toNatClampNeg, I_1, J_1)
  else none
  else
  if v2 = 8 then
  if okx v1 then
  some (J_1 1 v1.toNatClampNeg, I_1, J_1)
  else none
  else
  if v2 = 9 then
  bnd (fX5_bound v1 I_1 J_1) (fun q_22 I_22 J_22 =>
  some (q_22, I_22, J_22))
  else
  bnd (fX5_no (-2 : Int32) I_1 J_1) (fun q_23 I_23 J_23 =>
  some (q_23, I_23, J_23)))
set_option maxHeartbeats 4000000 in
set_option maxRecDepth 100000 in
theorem tX5_about {p : Program} {l : Launch} {e : Env} {s : State} {m : MethodId} {args : Array Value} {below : List Frame} {meth : Method} {c : Code} (C : KX p s m args meth c "BitTunerModel" cX5_about 3 (some .long)) {D : va_G} {cI cJ cZ : ClassId} {ad : Nat → Nat} {z : Int64 × SS}   {H : Heap} {locs : List Loc} {ls : Array Slot} {I : TI} {J : TJ} {v1 : Int32} {v2 : Int32} (hB : MB D cI cJ cZ ad s H locs I J)  (hl : lv_has ls 3 [(0, .ref (ad 0)), (1, .int v1), (2, .int v2)]) (h : fX5_about v1 v2 I J = some z) : W p l e (rmd 3) s m args below meth c H locs 0 0 (MQ below (gQl D (mw cI cJ cZ ad) (mt cI cJ cZ) (mL ad) s.heap.size z) args s 0 0 (gA (mL ad) s.heap.size)) (F0 m 0 ls []) := by
  unfold fX5_about at h
  refine lv_aload_n C.hx C.hb dX5_about_0 rfl (lv_at hl 0 rfl) ?_
  refine lv_iload_n C.hx C.hb dX5_about_1 rfl (lv_at hl 1 rfl) ?_
  obtain ⟨q_1, I_1, J_1, hc_1, h⟩ := bnd_some h
  refine g_goi hB (g_runV C hB [.int v1] [] (cnX5_isValue l D cI cJ cZ ad H.size  hc_1) 0 rfl rfl tw_642 tw_644 tw_15 tw_38 tw_645 ⟨rfl, rfl⟩ hdX5_isValue ⟨Nat.le_of_ble_eq_true rfl, Nat.le_of_ble_eq_true rfl⟩ hl.1 rfl (Nat.le_of_ble_eq_true rfl) dX5_about_2) (fun H locs hB => ?_)
  refine lv_if_ne (tgt := 14) C.hx C.hb dX5_about_5 (by decide) (fun c_2 => ?_) (fun c_2 => ?_)
  · replace h := (if_neg c_2).symm.trans h
    refine lv_iload_n C.hx C.hb dX5_about_14 rfl (lv_at hl 2 rfl) ?_
    by_cases c_3 : v2 = 0
    · replace h := (if_pos c_3).symm.trans h
      refine lv_tableIn (x := v2) (tgt := 68) (off := 53) C.hx C.hb dX5_about_15 (by rw [c_3]; decide) (by rw [c_3]; decide) (by rw [c_3]; rfl) (by decide) ?_
      refine lv_aload_n C.hx C.hb dX5_about_68 rfl (lv_at hl 0 rfl) ?_
      refine mg_kinds C hB tw_558 dX5_about_69 ?_
      refine lv_iload_n C.hx C.hb dX5_about_72 rfl (lv_at hl 1 rfl) ?_
      obtain ⟨c_4, h⟩ := ite_ck h
      refine ma_kinds_ld C hB c_4 dX5_about_73 ?_
      refine lv_i2l C.hx C.hb dX5_about_74 rfl ?_
      exact g_lret C hB h dX5_about_75
    · replace h := (if_neg c_3).symm.trans h
      by_cases c_5 : v2 = 1
      · replace h := (if_pos c_5).symm.trans h
        refine lv_tableIn (x := v2) (tgt := 76) (off := 61) C.hx C.hb dX5_about_15 (by rw [c_5]; decide) (by rw [c_5]; decide) (by rw [c_5]; rfl) (by decide) ?_
        refine lv_aload_n C.hx C.hb dX5_about_76 rfl (lv_at hl 0 rfl) ?_
        refine mg_a C hB tw_559 dX5_about_77 ?_
        refine lv_iload_n C.hx C.hb dX5_about_80 rfl (lv_at hl 1 rfl) ?_
        obtain ⟨c_6, h⟩ := ite_ck h
        refine ma_a_ld C hB c_6 dX5_about_81 ?_
        refine lv_i2l C.hx C.hb dX5_about_82 rfl ?_
        exact g_lret C hB h dX5_about_83
      · replace h := (if_neg c_5).symm.trans h
        by_cases c_7 : v2 = 2
        · replace h := (if_pos c_7).symm.trans h
          refine lv_tableIn (x := v2) (tgt := 84) (off := 69) C.hx C.hb dX5_about_15 (by rw [c_7]; decide) (by rw [c_7]; decide) (by rw [c_7]; rfl) (by decide) ?_
          refine lv_aload_n C.hx C.hb dX5_about_84 rfl (lv_at hl 0 rfl) ?_
          refine mg_b C hB tw_560 dX5_about_85 ?_
          refine lv_iload_n C.hx C.hb dX5_about_88 rfl (lv_at hl 1 rfl) ?_
          obtain ⟨c_8, h⟩ := ite_ck h
          refine ma_b_ld C hB c_8 dX5_about_89 ?_
          refine lv_i2l C.hx C.hb dX5_about_90 rfl ?_
          exact g_lret C hB h dX5_about_91
        · replace h := (if_neg c_7).symm.trans h
          by_cases c_9 : v2 = 3
          · replace h := (if_pos c_9).symm.trans h
            refine lv_tableIn (x := v2) (tgt := 92) (off := 77) C.hx C.hb dX5_about_15 (by rw [c_9]; decide) (by rw [c_9]; decide) (by rw [c_9]; rfl) (by decide) ?_
            refine lv_aload_n C.hx C.hb dX5_about_92 rfl (lv_at hl 0 rfl) ?_
            refine mg_degrees C hB tw_561 dX5_about_93 ?_
            refine lv_iload_n C.hx C.hb dX5_about_96 rfl (lv_at hl 1 rfl) ?_
            obtain ⟨c_10, h⟩ := ite_ck h
            refine ma_degrees_ld C hB c_10 dX5_about_97 ?_
            refine lv_i2l C.hx C.hb dX5_about_98 rfl ?_
            exact g_lret C hB h dX5_about_99
          · replace h := (if_neg c_9).symm.trans h
            by_cases c_11 : v2 = 4
            · replace h := (if_pos c_11).symm.trans h
              refine lv_tableIn (x := v2) (tgt := 100) (off := 85) C.hx C.hb dX5_about_15 (by rw [c_11]; decide) (by rw [c_11]; decide) (by rw [c_11]; rfl) (by decide) ?_
              refine lv_aload_n C.hx C.hb dX5_about_100 rfl (lv_at hl 0 rfl) ?_
              refine mg_bits C hB tw_564 dX5_about_101 ?_
              refine lv_iload_n C.hx C.hb dX5_about_104 rfl (lv_at hl 1 rfl) ?_
              obtain ⟨c_12, h⟩ := ite_ck h
              refine ma_bits_ld C hB c_12 dX5_about_105 ?_
              refine lv_i2l C.hx C.hb dX5_about_106 rfl ?_
              exact g_lret C hB h dX5_about_107
            · replace h := (if_neg c_11).symm.trans h
              by_cases c_13 : v2 = 5
              · replace h := (if_pos c_13).symm.trans h
                refine lv_tableIn (x := v2) (tgt := 108) (off := 93) C.hx C.hb dX5_about_15 (by rw [c_13]; decide) (by rw [c_13]; decide) (by rw [c_13]; rfl) (by decide) ?_
                refine lv_aload_n C.hx C.hb dX5_about_108 rfl (lv_at hl 0 rfl) ?_
                refine mg_roundings C hB tw_565 dX5_about_109 ?_
                refine lv_iload_n C.hx C.hb dX5_about_112 rfl (lv_at hl 1 rfl) ?_
                obtain ⟨c_14, h⟩ := ite_ck h
                refine ma_roundings_ld C hB c_14 dX5_about_113 ?_
                refine lv_i2l C.hx C.hb dX5_about_114 rfl ?_
                exact g_lret C hB h dX5_about_115
              · replace h := (if_neg c_13).symm.trans h
                by_cases c_15 : v2 = 6
                · replace h := (if_pos c_15).symm.trans h
                  refine lv_tableIn (x := v2) (tgt := 116) (off := 101) C.hx C.hb dX5_about_15 (by rw [c_15]; decide) (by rw [c_15]; decide) (by rw [c_15]; rfl) (by decide) ?_
                  refine lv_aload_n C.hx C.hb dX5_about_116 rfl (lv_at hl 0 rfl) ?_
                  refine mg_weights C hB tw_566 dX5_about_117 ?_
                  refine lv_iload_n C.hx C.hb dX5_about_120 rfl (lv_at hl 1 rfl) ?_
                  obtain ⟨c_16, h⟩ := ite_ck h
                  refine ma_weights_ld C hB c_16 dX5_about_121 ?_
                  refine lv_i2l C.hx C.hb dX5_about_122 rfl ?_
                  exact g_lret C hB h dX5_about_123
                · replace h := (if_neg c_15).symm.trans h
                  by_cases c_17 : v2 = 7
                  · replace h := (if_pos c_17).symm.trans h
                    refine lv_tableIn (x := v2) (tgt := 124) (off := 109) C.hx C.hb dX5_about_15 (by rw [c_17]; decide) (by rw [c_17]; decide) (by rw [c_17]; rfl) (by decide) ?_
                    refine lv_aload_n C.hx C.hb dX5_about_124 rfl (lv_at hl 0 rfl) ?_
                    refine mg_leasts C hB tw_562 dX5_about_125 ?_
                    refine lv_iload_n C.hx C.hb dX5_about_128 rfl (lv_at hl 1 rfl) ?_
                    obtain ⟨c_18, h⟩ := ite_ck h
                    refine ma_leasts_ld C hB c_18 dX5_about_129 ?_
                    exact g_lret C hB h dX5_about_130
                  · replace h := (if_neg c_17).symm.trans h
                    by_cases c_19 : v2 = 8
                    · replace h := (if_pos c_19).symm.trans h
                      refine lv_tableIn (x := v2) (tgt := 131) (off := 116) C.hx C.hb dX5_about_15 (by rw [c_19]; decide) (by rw [c_19]; decide) (by rw [c_19]; rfl) (by decide) ?_
                      refine lv_aload_n C.hx C.hb dX5_about_131 rfl (lv_at hl 0 rfl) ?_
                      refine mg_mosts C hB tw_563 dX5_about_132 ?_
                      refine lv_iload_n C.hx C.hb dX5_about_135 rfl (lv_at hl 1 rfl) ?_
                      obtain ⟨c_20, h⟩ := ite_ck h
                      refine ma_mosts_ld C hB c_20 dX5_about_136 ?_
                      exact g_lret C hB h dX5_about_137
                    · replace h := (if_neg c_19).symm.trans h
                      by_cases c_21 : v2 = 9
                      · replace h := (if_pos c_21).symm.trans h
                        refine lv_tableIn (x := v2) (tgt := 138) (off := 123) C.hx C.hb dX5_about_15 (by rw [c_21]; decide) (by rw [c_21]; decide) (by rw [c_21]; rfl) (by decide) ?_
                        refine lv_aload_n C.hx C.hb dX5_about_138 rfl (lv_at hl 0 rfl) ?_
                        refine lv_iload_n C.hx C.hb dX5_about_139 rfl (lv_at hl 1 rfl) ?_
                        obtain ⟨q_22, I_22, J_22, hc_22, h⟩ := bnd_some h
                        refine g_gol hB (g_runV C hB [.int v1] [] (cnX5_bound l D cI cJ cZ ad H.size  hc_22) 0 rfl rfl tw_688 tw_690 tw_17 tw_38 tw_691 ⟨rfl, rfl⟩ hdX5_bound ⟨Nat.le_of_ble_eq_true rfl, Nat.le_of_ble_eq_true rfl⟩ hl.1 rfl (Nat.le_of_ble_eq_true rfl) dX5_about_140) (fun H locs hB => ?_)
                        exact g_lret C hB h dX5_about_143
                      · replace h := (if_neg c_21).symm.trans h
                        refine lv_tableOut (x := v2) (tgt := 144) C.hx C.hb dX5_about_15 (by have z0 := ts_ne (k := 0) (0 : Int32) rfl c_3; have z1 := ts_ne (k := 1) (1 : Int32) rfl c_5; have z2 := ts_ne (k := 2) (2 : Int32) rfl c_7; have z3 := ts_ne (k := 3) (3 : Int32) rfl c_9; have z4 := ts_ne (k := 4) (4 : Int32) rfl c_11; have z5 := ts_ne (k := 5) (5 : Int32) rfl c_13; have z6 := ts_ne (k := 6) (6 : Int32) rfl c_15; have z7 := ts_ne (k := 7) (7 : Int32) rfl c_17; have z8 := ts_ne (k := 8) (8 : Int32) rfl c_19; have z9 := ts_ne (k := 9) (9 : Int32) rfl c_21; omega) (by decide) ?_
                        refine lv_bipush (v := (-2 : Int32)) C.hx C.hb dX5_about_144 (by decide) ?_
                        obtain ⟨q_23, I_23, J_23, hc_23, h⟩ := bnd_some h
                        refine g_gol hB (g_runS C hB [.int (-2 : Int32)] [] (cnX5_no l D cI cJ cZ ad H.size  hc_23) tw_684 tw_685 tw_38 tw_686 ⟨rfl, rfl⟩ hdX5_no ⟨Nat.le_of_ble_eq_true rfl, Nat.le_of_ble_eq_true rfl⟩ hl.1 rfl (Nat.le_of_ble_eq_true rfl) dX5_about_146) (fun H locs hB => ?_)
                        exact g_lret C hB h dX5_about_149
  · replace h := (if_pos c_2).symm.trans h
    refine lv_bipush (v := (-2 : Int32)) C.hx C.hb dX5_about_8 (by decide) ?_
    obtain ⟨q_24, I_24, J_24, hc_24, h⟩ := bnd_some h
    refine g_gol hB (g_runS C hB [.int (-2 : Int32)] [] (cnX5_no l D cI cJ cZ ad H.size  hc_24) tw_684 tw_685 tw_38 tw_686 ⟨rfl, rfl⟩ hdX5_no ⟨Nat.le_of_ble_eq_true rfl, Nat.le_of_ble_eq_true rfl⟩ hl.1 rfl (Nat.le_of_ble_eq_true rfl) dX5_about_10) (fun H locs hB => ?_)
    exact g_lret C hB h dX5_about_13
set_option maxHeartbeats 4000000 in
set_option maxRecDepth 100000 in
theorem cnX5_about (l : Launch) (D : va_G) (cI cJ cZ : ClassId) (ad : Nat → Nat) (sz : Nat) {v1 : Int32} {v2 : Int32} {I : TI} {J : TJ} {z : Int64 × SS}  (h : fX5_about v1 v2 I J = some z) : Met l yX5_about (wsm yX5_about cX5_about 3 (some .long)) (rmd 3) (va_Pc [.ref (ad 0), .int v1, .int v2] (gPre D (mw cI cJ cZ ad) (mt cI cJ cZ) sz I J)) (gQl D (mw cI cJ cZ ad) (mt cI cJ cZ) (mL ad) sz z) 0 0 (gA (mL ad) sz) :=
  g_met (by decide) mw_WL (fun p e s m below meth c hsz C hB ls hl => by subst hsz; exact tX5_about C hB  hl h) (Nat.le_of_ble_eq_true rfl)
theorem hdX5_price : yX5_price.cls = "BitTunerModel" ∧ yX5_price.cls ≠ "java/lang/invoke/MethodHandle" ∧ yX5_price.cls ≠ "java/lang/invoke/VarHandle" ∧ (parseMethodDescriptor yX5_price.desc).map (fun d => d.parameters.length) = some 0 := by decide +kernel
def fX5_price_4  : Nat → Int32 → Int32 → TI → TJ → Option (Int32 × SS)
  | 0, _, _, _, _ => none
  | n + 1, v1, v2, I, J =>
    if (I 13 0) ≤ v2 then
    some (v1, I, J)
    else
    if okx v2 then
    if (I 0 v2.toNatClampNeg) ≤ (1 : Int32) then
    fX5_price_4 n (v1 + (0 : Int32)) (v2 + (1 : Int32)) I J
    else
    fX5_price_4 n (v1 + ((I 6 v2.toNatClampNeg) * (I 4 v2.toNatClampNeg))) (v2 + (1 : Int32)) I J
    else none
theorem eX5_price_4  (n : Nat) (v1 : Int32) (v2 : Int32) (I : TI) (J : TJ) : fX5_price_4 (n + 1) v1 v2 I J = (
    if (I 13 0) ≤ v2 then
    some (v1, I, J)
    else
    if okx v2 then
    if (I 0 v2.toNatClampNeg) ≤ (1 : Int32) then
    fX5_price_4 n (v1 + (0 : Int32)) (v2 + (1 : Int32)) I J
    else
    fX5_price_4 n (v1 + ((I 6 v2.toNatClampNeg) * (I 4 v2.toNatClampNeg))) (v2 + (1 : Int32)) I J
    else none) := rfl
set_option maxHeartbeats 4000000 in
set_option maxRecDepth 100000 in
theorem tX5_price_4 {p : Program} {l : Launch} {e : Env} {s : State} {m : MethodId} {args : Array Value} {below : List Frame} {meth : Method} {c : Code} (C : KX p s m args meth c "BitTunerModel" cX5_price 3 (some .int)) {D : va_G} {cI cJ cZ : ClassId} {ad : Nat → Nat} {z : Int32 × SS}   : ∀ (n : Nat), ∀ {H : Heap} {locs : List Loc} {ls : Array Slot} {I : TI} {J : TJ} {v1 : Int32} {v2 : Int32}, MB D cI cJ cZ ad s H locs I J → lv_has ls 3 [(0, .ref (ad 0)), (1, .int v1), (2, .int v2)] → fX5_price_4 n v1 v2 I J = some z → W p l e (rmd 0) s m args below meth c H locs 0 0 (MQ below (gQi D (mw cI cJ cZ ad) (mt cI cJ cZ) (mL ad) s.heap.size z) args s 0 0 (gA (mL ad) s.heap.size)) (F0 m 4 ls []) := by
  intro n
  induction n with
  | zero =>
    intro H locs ls I J v1 v2 hB  hl h
    have h : (none : Option (Int32 × SS)) = some z := h
    cases h
  | succ n ih =>
    intro H locs ls I J v1 v2 hB  hl h
    replace h := (eX5_price_4 n v1 v2 I J).symm.trans h
    refine lv_iload_n C.hx C.hb dX5_price_4 rfl (lv_at hl 2 rfl) ?_
    refine lv_aload_n C.hx C.hb dX5_price_5 rfl (lv_at hl 0 rfl) ?_
    refine mg_values C hB tw_557 dX5_price_6 ?_
    refine lv_icmp_ge (tgt := 48) C.hx C.hb dX5_price_9 (by decide) (fun c_1 => ?_) (fun c_1 => ?_)
    · replace h := (if_pos c_1).symm.trans h
      refine lv_iload_n C.hx C.hb dX5_price_48 rfl (lv_at hl 1 rfl) ?_
      exact g_iret C hB h dX5_price_49
    · replace h := (if_neg c_1).symm.trans h
      refine lv_iload_n C.hx C.hb dX5_price_12 rfl (lv_at hl 1 rfl) ?_
      refine lv_aload_n C.hx C.hb dX5_price_13 rfl (lv_at hl 0 rfl) ?_
      refine mg_kinds C hB tw_558 dX5_price_14 ?_
      refine lv_iload_n C.hx C.hb dX5_price_17 rfl (lv_at hl 2 rfl) ?_
      obtain ⟨c_2, h⟩ := ite_ck h
      refine ma_kinds_ld C hB c_2 dX5_price_18 ?_
      refine lv_iconst (v := (1 : Int32)) C.hx C.hb dX5_price_19 (by decide) ?_
      refine lv_icmp_le (tgt := 39) C.hx C.hb dX5_price_20 (by decide) (fun c_3 => ?_) (fun c_3 => ?_)
      · replace h := (if_pos c_3).symm.trans h
        refine lv_iconst (v := (0 : Int32)) C.hx C.hb dX5_price_39 (by decide) ?_
        refine lv_iadd C.hx C.hb dX5_price_40 ?_
        refine lv_istore_n (lv' := [(1, .int (v1 + (0 : Int32))), (0, .ref (ad 0)), (2, .int v2)]) C.hx C.hb dX5_price_41 rfl hl (by decide) rfl (fun ls hl => ?_)
        refine lv_iinc (v := v2 + (1 : Int32)) (lv' := [(2, .int (v2 + (1 : Int32))), (1, .int (v1 + (0 : Int32))), (0, .ref (ad 0))]) C.hx C.hb dX5_price_42 hl (k := 2) rfl rfl (by decide) rfl (fun ls hl => ?_)
        refine lv_goto (tgt := 4) C.hx C.hb dX5_price_45 (by decide) ?_
        exact ih hB (lv_sub hl [2, 1, 0] rfl) h
      · replace h := (if_neg c_3).symm.trans h
        refine lv_aload_n C.hx C.hb dX5_price_23 rfl (lv_at hl 0 rfl) ?_
        refine mg_weights C hB tw_566 dX5_price_24 ?_
        refine lv_iload_n C.hx C.hb dX5_price_27 rfl (lv_at hl 2 rfl) ?_
        refine ma_weights_ld C hB c_2 dX5_price_28 ?_
        refine lv_aload_n C.hx C.hb dX5_price_29 rfl (lv_at hl 0 rfl) ?_
        refine mg_bits C hB tw_564 dX5_price_30 ?_
        refine lv_iload_n C.hx C.hb dX5_price_33 rfl (lv_at hl 2 rfl) ?_
        refine ma_bits_ld C hB c_2 dX5_price_34 ?_
        refine lv_imul C.hx C.hb dX5_price_35 ?_
        refine lv_goto (tgt := 40) C.hx C.hb dX5_price_36 (by decide) ?_
        refine lv_iadd C.hx C.hb dX5_price_40 ?_
        refine lv_istore_n (lv' := [(1, .int (v1 + ((I 6 v2.toNatClampNeg) * (I 4 v2.toNatClampNeg)))), (0, .ref (ad 0)), (2, .int v2)]) C.hx C.hb dX5_price_41 rfl hl (by decide) rfl (fun ls hl => ?_)
        refine lv_iinc (v := v2 + (1 : Int32)) (lv' := [(2, .int (v2 + (1 : Int32))), (1, .int (v1 + ((I 6 v2.toNatClampNeg) * (I 4 v2.toNatClampNeg)))), (0, .ref (ad 0))]) C.hx C.hb dX5_price_42 hl (k := 2) rfl rfl (by decide) rfl (fun ls hl => ?_)
        refine lv_goto (tgt := 4) C.hx C.hb dX5_price_45 (by decide) ?_
        exact ih hB (lv_sub hl [2, 1, 0] rfl) h
def fX5_price   (I : TI) (J : TJ) : Option (Int32 × SS) :=
  fX5_price_4 fuel (0 : Int32) (0 : Int32) I J
set_option maxHeartbeats 4000000 in
set_option maxRecDepth 100000 in
theorem tX5_price {p : Program} {l : Launch} {e : Env} {s : State} {m : MethodId} {args : Array Value} {below : List Frame} {meth : Method} {c : Code} (C : KX p s m args meth c "BitTunerModel" cX5_price 3 (some .int)) {D : va_G} {cI cJ cZ : ClassId} {ad : Nat → Nat} {z : Int32 × SS}   {H : Heap} {locs : List Loc} {ls : Array Slot} {I : TI} {J : TJ}  (hB : MB D cI cJ cZ ad s H locs I J)  (hl : lv_has ls 3 [(0, .ref (ad 0))]) (h : fX5_price I J = some z) : W p l e (rmd 0) s m args below meth c H locs 0 0 (MQ below (gQi D (mw cI cJ cZ ad) (mt cI cJ cZ) (mL ad) s.heap.size z) args s 0 0 (gA (mL ad) s.heap.size)) (F0 m 0 ls []) := by
  unfold fX5_price at h
  refine lv_iconst (v := (0 : Int32)) C.hx C.hb dX5_price_0 (by decide) ?_
  refine lv_istore_n (lv' := [(1, .int (0 : Int32)), (0, .ref (ad 0))]) C.hx C.hb dX5_price_1 rfl hl (by decide) rfl (fun ls hl => ?_)
  refine lv_iconst (v := (0 : Int32)) C.hx C.hb dX5_price_2 (by decide) ?_
  refine lv_istore_n (lv' := [(2, .int (0 : Int32)), (1, .int (0 : Int32)), (0, .ref (ad 0))]) C.hx C.hb dX5_price_3 rfl hl (by decide) rfl (fun ls hl => ?_)
  exact tX5_price_4 C  fuel hB (lv_sub hl [2, 1, 0] rfl) h
set_option maxHeartbeats 4000000 in
set_option maxRecDepth 100000 in
theorem cnX5_price (l : Launch) (D : va_G) (cI cJ cZ : ClassId) (ad : Nat → Nat) (sz : Nat)  {I : TI} {J : TJ} {z : Int32 × SS}  (h : fX5_price I J = some z) : Met l yX5_price (wsm yX5_price cX5_price 3 (some .int)) (rmd 0) (va_Pc [.ref (ad 0)] (gPre D (mw cI cJ cZ ad) (mt cI cJ cZ) sz I J)) (gQi D (mw cI cJ cZ ad) (mt cI cJ cZ) (mL ad) sz z) 0 0 (gA (mL ad) sz) :=
  g_met (by decide) mw_WL (fun p e s m below meth c hsz C hB ls hl => by subst hsz; exact tX5_price C hB  hl h) (Nat.le_of_ble_eq_true rfl)
theorem hdX5_floored : yX5_floored.cls = "BitTunerModel" ∧ yX5_floored.cls ≠ "java/lang/invoke/MethodHandle" ∧ yX5_floored.cls ≠ "java/lang/invoke/VarHandle" ∧ (parseMethodDescriptor yX5_floored.desc).map (fun d => d.parameters.length) = some 2 := by decide +kernel
def fX5_floored  (v0 : Int64) (v2 : Int64) (I : TI) (J : TJ) : Option (Int64 × SS) :=
  if v2 = 0 then none else
  if v2 = 0 then none else
  if (0 : Int64) ≤ (v0 - v0 / v2 * v2) then
  some (v0 / v2, I, J)
  else
  some ((v0 / v2) - (1 : Int64), I, J)
set_option maxHeartbeats 4000000 in
set_option maxRecDepth 100000 in
theorem tX5_floored {p : Program} {l : Launch} {e : Env} {s : State} {m : MethodId} {args : Array Value} {below : List Frame} {meth : Method} {c : Code} (C : KX p s m args meth c "BitTunerModel" cX5_floored 6 (some .long)) {D : va_G} {cI cJ cZ : ClassId} {ad : Nat → Nat} {z : Int64 × SS}   {H : Heap} {locs : List Loc} {ls : Array Slot} {I : TI} {J : TJ} {v0 : Int64} {v2 : Int64} (hB : MB D cI cJ cZ ad s H locs I J)  (hl : lv_has ls 6 [(0, .long v0), (2, .long v2)]) (h : fX5_floored v0 v2 I J = some z) : W p l e (rmd 0) s m args below meth c H locs 0 0 (MQ below (gQl D (mw cI cJ cZ ad) (mt cI cJ cZ) (mL ad) s.heap.size z) args s 0 0 (gA (mL ad) s.heap.size)) (F0 m 0 ls []) := by
  unfold fX5_floored at h
  refine lv_lload_n C.hx C.hb dX5_floored_0 rfl (lv_at hl 0 rfl) ?_
  refine lv_lload_n C.hx C.hb dX5_floored_1 rfl (lv_at hl 1 rfl) ?_
  obtain ⟨z_1, h⟩ := ite_ck0 h
  refine lv_ldiv C.hx C.hb dX5_floored_2 z_1 ?_
  refine lv_lstore (lv' := [(4, .long (v0 / v2)), (0, .long v0), (2, .long v2)]) C.hx C.hb dX5_floored_3 hl (by decide) rfl (fun ls hl => ?_)
  refine lv_lload_n C.hx C.hb dX5_floored_5 rfl (lv_at hl 1 rfl) ?_
  refine lv_lload_n C.hx C.hb dX5_floored_6 rfl (lv_at hl 2 rfl) ?_
  obtain ⟨z_2, h⟩ := ite_ck0 h
  refine lv_lrem C.hx C.hb dX5_floored_7 z_2 ?_
  refine lv_lconst (v := (0 : Int64)) C.hx C.hb dX5_floored_8 (by decide) ?_
  refine g_lcmp_ge C (tgt := 20) dX5_floored_9 dX5_floored_10 (by decide) (fun c_3 => ?_) (fun c_3 => ?_)
  · replace h := (if_pos c_3).symm.trans h
    refine lv_lload C.hx C.hb dX5_floored_20 (lv_at hl 0 rfl) ?_
    exact g_lret C hB h dX5_floored_22
  · replace h := (if_neg c_3).symm.trans h
    refine lv_lload C.hx C.hb dX5_floored_13 (lv_at hl 0 rfl) ?_
    refine lv_lconst (v := (1 : Int64)) C.hx C.hb dX5_floored_15 (by decide) ?_
    refine lv_lsub C.hx C.hb dX5_floored_16 ?_
    refine lv_goto (tgt := 22) C.hx C.hb dX5_floored_17 (by decide) ?_
    exact g_lret C hB h dX5_floored_22
set_option maxHeartbeats 4000000 in
set_option maxRecDepth 100000 in
theorem cnX5_floored (l : Launch) (D : va_G) (cI cJ cZ : ClassId) (ad : Nat → Nat) (sz : Nat) {v0 : Int64} {v2 : Int64} {I : TI} {J : TJ} {z : Int64 × SS}  (h : fX5_floored v0 v2 I J = some z) : Met l yX5_floored (wsm yX5_floored cX5_floored 6 (some .long)) (rmd 0) (va_Pc [.long v0, .long v2] (gPre D (mw cI cJ cZ ad) (mt cI cJ cZ) sz I J)) (gQl D (mw cI cJ cZ ad) (mt cI cJ cZ) (mL ad) sz z) 0 0 (gA (mL ad) sz) :=
  g_met (by decide) mw_WL (fun p e s m below meth c hsz C hB ls hl => by subst hsz; exact tX5_floored C hB  hl h) (Nat.le_of_ble_eq_true rfl)
theorem hdX5_rounded : yX5_rounded.cls = "BitTunerModel" ∧ yX5_rounded.cls ≠ "java/lang/invoke/MethodHandle" ∧ yX5_rounded.cls ≠ "java/lang/invoke/VarHandle" ∧ (parseMethodDescriptor yX5_rounded.desc).map (fun d => d.parameters.length) = some 3 := by decide +kernel
def fX5_rounded  (v0 : Int64) (v2 : Int64) (v4 : Int32) (I : TI) (J : TJ) : Option (Int64 × SS) :=
  if v4 = (1 : Int32) then
  bnd (fX5_floored (v0 + (v2 / (2 : Int64))) v2 I J) (fun q_5 I_5 J_5 =>
  some (q_5, I_5, J_5))
  else
  if v4 = 0 then
  bnd (fX5_floored v0 v2 I J) (fun q_4 I_4 J_4 =>
  some (q_4, I_4, J_4))
  else
  if v2 = 0 then none else
  some (v0 / v2, I, J)
set_option maxHeartbeats 4000000 in
set_option maxRecDepth 100000 in
theorem tX5_rounded {p : Program} {l : Launch} {e : Env} {s : State} {m : MethodId} {args : Array Value} {below : List Frame} {meth : Method} {c : Code} (C : KX p s m args meth c "BitTunerModel" cX5_rounded 5 (some .long)) {D : va_G} {cI cJ cZ : ClassId} {ad : Nat → Nat} {z : Int64 × SS}   {H : Heap} {locs : List Loc} {ls : Array Slot} {I : TI} {J : TJ} {v0 : Int64} {v2 : Int64} {v4 : Int32} (hB : MB D cI cJ cZ ad s H locs I J)  (hl : lv_has ls 5 [(0, .long v0), (2, .long v2), (4, .int v4)]) (h : fX5_rounded v0 v2 v4 I J = some z) : W p l e (rmd 1) s m args below meth c H locs 0 0 (MQ below (gQl D (mw cI cJ cZ ad) (mt cI cJ cZ) (mL ad) s.heap.size z) args s 0 0 (gA (mL ad) s.heap.size)) (F0 m 0 ls []) := by
  unfold fX5_rounded at h
  refine lv_iload C.hx C.hb dX5_rounded_0 (lv_at hl 2 rfl) ?_
  refine lv_iconst (v := (1 : Int32)) C.hx C.hb dX5_rounded_2 (by decide) ?_
  refine lv_icmp_ne (tgt := 18) C.hx C.hb dX5_rounded_3 (by decide) (fun c_1 => ?_) (fun c_1 => ?_)
  · replace h := (if_neg c_1).symm.trans h
    refine lv_iload C.hx C.hb dX5_rounded_18 (lv_at hl 2 rfl) ?_
    refine lv_if_ne (tgt := 31) C.hx C.hb dX5_rounded_20 (by decide) (fun c_2 => ?_) (fun c_2 => ?_)
    · replace h := (if_neg c_2).symm.trans h
      refine lv_lload_n C.hx C.hb dX5_rounded_31 rfl (lv_at hl 0 rfl) ?_
      refine lv_lload_n C.hx C.hb dX5_rounded_32 rfl (lv_at hl 1 rfl) ?_
      obtain ⟨z_3, h⟩ := ite_ck0 h
      refine lv_ldiv C.hx C.hb dX5_rounded_33 z_3 ?_
      exact g_lret C hB h dX5_rounded_34
    · replace h := (if_pos c_2).symm.trans h
      refine lv_lload_n C.hx C.hb dX5_rounded_23 rfl (lv_at hl 0 rfl) ?_
      refine lv_lload_n C.hx C.hb dX5_rounded_24 rfl (lv_at hl 1 rfl) ?_
      obtain ⟨q_4, I_4, J_4, hc_4, h⟩ := bnd_some h
      refine g_gol hB (g_runS C hB [.long v0, .long v2] [] (cnX5_floored l D cI cJ cZ ad H.size  hc_4) tw_739 tw_740 tw_38 tw_741 ⟨rfl, rfl⟩ hdX5_floored ⟨Nat.le_of_ble_eq_true rfl, Nat.le_of_ble_eq_true rfl⟩ hl.1 rfl (Nat.le_of_ble_eq_true rfl) dX5_rounded_25) (fun H locs hB => ?_)
      refine lv_goto (tgt := 34) C.hx C.hb dX5_rounded_28 (by decide) ?_
      exact g_lret C hB h dX5_rounded_34
  · replace h := (if_pos c_1).symm.trans h
    refine lv_lload_n C.hx C.hb dX5_rounded_6 rfl (lv_at hl 0 rfl) ?_
    refine lv_lload_n C.hx C.hb dX5_rounded_7 rfl (lv_at hl 1 rfl) ?_
    refine lv_ldc2 C.hx C.hb C.hown (C.hts _ tw_640) dX5_rounded_8 ?_
    refine lv_ldiv C.hx C.hb dX5_rounded_11 (by decide) ?_
    refine lv_ladd C.hx C.hb dX5_rounded_12 ?_
    refine lv_lload_n C.hx C.hb dX5_rounded_13 rfl (lv_at hl 1 rfl) ?_
    obtain ⟨q_5, I_5, J_5, hc_5, h⟩ := bnd_some h
    refine g_gol hB (g_runS C hB [.long (v0 + (v2 / (2 : Int64))), .long v2] [] (cnX5_floored l D cI cJ cZ ad H.size  hc_5) tw_739 tw_740 tw_38 tw_741 ⟨rfl, rfl⟩ hdX5_floored ⟨Nat.le_of_ble_eq_true rfl, Nat.le_of_ble_eq_true rfl⟩ hl.1 rfl (Nat.le_of_ble_eq_true rfl) dX5_rounded_14) (fun H locs hB => ?_)
    exact g_lret C hB h dX5_rounded_17
set_option maxHeartbeats 4000000 in
set_option maxRecDepth 100000 in
theorem cnX5_rounded (l : Launch) (D : va_G) (cI cJ cZ : ClassId) (ad : Nat → Nat) (sz : Nat) {v0 : Int64} {v2 : Int64} {v4 : Int32} {I : TI} {J : TJ} {z : Int64 × SS}  (h : fX5_rounded v0 v2 v4 I J = some z) : Met l yX5_rounded (wsm yX5_rounded cX5_rounded 5 (some .long)) (rmd 1) (va_Pc [.long v0, .long v2, .int v4] (gPre D (mw cI cJ cZ ad) (mt cI cJ cZ) sz I J)) (gQl D (mw cI cJ cZ ad) (mt cI cJ cZ) (mL ad) sz z) 0 0 (gA (mL ad) sz) :=
  g_met (by decide) mw_WL (fun p e s m below meth c hsz C hB ls hl => by subst hsz; exact tX5_rounded C hB  hl h) (Nat.le_of_ble_eq_true rfl)
theorem hdX5_does : yX5_does.cls = "BitTunerModel" ∧ yX5_does.cls ≠ "java/lang/invoke/MethodHandle" ∧ yX5_does.cls ≠ "java/lang/invoke/VarHandle" ∧ (parseMethodDescriptor yX5_does.desc).map (fun d => d.parameters.length) = some 3 := by decide +kernel
def fX5_does  (v0 : Int32) (v1 : Int64) (v3 : Int64) (I : TI) (J : TJ) : Option (Int64 × SS) :=
  if v0 = 2 then
  some (v1 + v3, I, J)
  else
  if v0 = 3 then
  some (v1 - v3, I, J)
  else
  if v0 = 4 then
  some (v1 * v3, I, J)
  else
  if v0 = 5 then
  bnd (fX5_max v1 v3 I J) (fun q_5 I_5 J_5 =>
  some (q_5, I_5, J_5))
  else
  if v0 = 6 then
  bnd (fX5_amount v1 I J) (fun q_7 I_7 J_7 =>
  some (q_7, I_7, J_7))
  else
  some (v1, I, J)
set_option maxHeartbeats 4000000 in
set_option maxRecDepth 100000 in
theorem tX5_does {p : Program} {l : Launch} {e : Env} {s : State} {m : MethodId} {args : Array Value} {below : List Frame} {meth : Method} {c : Code} (C : KX p s m args meth c "BitTunerModel" cX5_does 5 (some .long)) {D : va_G} {cI cJ cZ : ClassId} {ad : Nat → Nat} {z : Int64 × SS}   {H : Heap} {locs : List Loc} {ls : Array Slot} {I : TI} {J : TJ} {v0 : Int32} {v1 : Int64} {v3 : Int64} (hB : MB D cI cJ cZ ad s H locs I J)  (hl : lv_has ls 5 [(0, .int v0), (1, .long v1), (3, .long v3)]) (h : fX5_does v0 v1 v3 I J = some z) : W p l e (rmd 1) s m args below meth c H locs 0 0 (MQ below (gQl D (mw cI cJ cZ ad) (mt cI cJ cZ) (mL ad) s.heap.size z) args s 0 0 (gA (mL ad) s.heap.size)) (F0 m 0 ls []) := by
  unfold fX5_does at h
  refine lv_iload_n C.hx C.hb dX5_does_0 rfl (lv_at hl 0 rfl) ?_
  by_cases c_1 : v0 = 2
  · replace h := (if_pos c_1).symm.trans h
    refine lv_tableIn (x := v0) (tgt := 36) (off := 35) C.hx C.hb dX5_does_1 (by rw [c_1]; decide) (by rw [c_1]; decide) (by rw [c_1]; rfl) (by decide) ?_
    refine lv_lload_n C.hx C.hb dX5_does_36 rfl (lv_at hl 1 rfl) ?_
    refine lv_lload_n C.hx C.hb dX5_does_37 rfl (lv_at hl 2 rfl) ?_
    refine lv_ladd C.hx C.hb dX5_does_38 ?_
    exact g_lret C hB h dX5_does_39
  · replace h := (if_neg c_1).symm.trans h
    by_cases c_2 : v0 = 3
    · replace h := (if_pos c_2).symm.trans h
      refine lv_tableIn (x := v0) (tgt := 40) (off := 39) C.hx C.hb dX5_does_1 (by rw [c_2]; decide) (by rw [c_2]; decide) (by rw [c_2]; rfl) (by decide) ?_
      refine lv_lload_n C.hx C.hb dX5_does_40 rfl (lv_at hl 1 rfl) ?_
      refine lv_lload_n C.hx C.hb dX5_does_41 rfl (lv_at hl 2 rfl) ?_
      refine lv_lsub C.hx C.hb dX5_does_42 ?_
      exact g_lret C hB h dX5_does_43
    · replace h := (if_neg c_2).symm.trans h
      by_cases c_3 : v0 = 4
      · replace h := (if_pos c_3).symm.trans h
        refine lv_tableIn (x := v0) (tgt := 44) (off := 43) C.hx C.hb dX5_does_1 (by rw [c_3]; decide) (by rw [c_3]; decide) (by rw [c_3]; rfl) (by decide) ?_
        refine lv_lload_n C.hx C.hb dX5_does_44 rfl (lv_at hl 1 rfl) ?_
        refine lv_lload_n C.hx C.hb dX5_does_45 rfl (lv_at hl 2 rfl) ?_
        refine lv_lmul C.hx C.hb dX5_does_46 ?_
        exact g_lret C hB h dX5_does_47
      · replace h := (if_neg c_3).symm.trans h
        by_cases c_4 : v0 = 5
        · replace h := (if_pos c_4).symm.trans h
          refine lv_tableIn (x := v0) (tgt := 48) (off := 47) C.hx C.hb dX5_does_1 (by rw [c_4]; decide) (by rw [c_4]; decide) (by rw [c_4]; rfl) (by decide) ?_
          refine lv_lload_n C.hx C.hb dX5_does_48 rfl (lv_at hl 1 rfl) ?_
          refine lv_lload_n C.hx C.hb dX5_does_49 rfl (lv_at hl 2 rfl) ?_
          obtain ⟨q_5, I_5, J_5, hc_5, h⟩ := bnd_some h
          refine g_gol hB (g_runS C hB [.long v1, .long v3] [] (cnX5_max l D cI cJ cZ ad H.size  hc_5) tw_646 tw_647 tw_38 tw_648 ⟨rfl, rfl⟩ hdX5_max ⟨Nat.le_of_ble_eq_true rfl, Nat.le_of_ble_eq_true rfl⟩ hl.1 rfl (Nat.le_of_ble_eq_true rfl) dX5_does_50) (fun H locs hB => ?_)
          exact g_lret C hB h dX5_does_53
        · replace h := (if_neg c_4).symm.trans h
          by_cases c_6 : v0 = 6
          · replace h := (if_pos c_6).symm.trans h
            refine lv_tableIn (x := v0) (tgt := 54) (off := 53) C.hx C.hb dX5_does_1 (by rw [c_6]; decide) (by rw [c_6]; decide) (by rw [c_6]; rfl) (by decide) ?_
            refine lv_lload_n C.hx C.hb dX5_does_54 rfl (lv_at hl 1 rfl) ?_
            obtain ⟨q_7, I_7, J_7, hc_7, h⟩ := bnd_some h
            refine g_gol hB (g_runS C hB [.long v1] [] (cnX5_amount l D cI cJ cZ ad H.size  hc_7) tw_653 tw_654 tw_38 tw_655 ⟨rfl, rfl⟩ hdX5_amount ⟨Nat.le_of_ble_eq_true rfl, Nat.le_of_ble_eq_true rfl⟩ hl.1 rfl (Nat.le_of_ble_eq_true rfl) dX5_does_55) (fun H locs hB => ?_)
            exact g_lret C hB h dX5_does_58
          · replace h := (if_neg c_6).symm.trans h
            refine lv_tableOut (x := v0) (tgt := 59) C.hx C.hb dX5_does_1 (by have z0 := ts_ne (k := 2) (2 : Int32) rfl c_1; have z1 := ts_ne (k := 3) (3 : Int32) rfl c_2; have z2 := ts_ne (k := 4) (4 : Int32) rfl c_3; have z3 := ts_ne (k := 5) (5 : Int32) rfl c_4; have z4 := ts_ne (k := 6) (6 : Int32) rfl c_6; omega) (by decide) ?_
            refine lv_lload_n C.hx C.hb dX5_does_59 rfl (lv_at hl 1 rfl) ?_
            exact g_lret C hB h dX5_does_60
set_option maxHeartbeats 4000000 in
set_option maxRecDepth 100000 in
theorem cnX5_does (l : Launch) (D : va_G) (cI cJ cZ : ClassId) (ad : Nat → Nat) (sz : Nat) {v0 : Int32} {v1 : Int64} {v3 : Int64} {I : TI} {J : TJ} {z : Int64 × SS}  (h : fX5_does v0 v1 v3 I J = some z) : Met l yX5_does (wsm yX5_does cX5_does 5 (some .long)) (rmd 1) (va_Pc [.int v0, .long v1, .long v3] (gPre D (mw cI cJ cZ ad) (mt cI cJ cZ) sz I J)) (gQl D (mw cI cJ cZ ad) (mt cI cJ cZ) (mL ad) sz z) 0 0 (gA (mL ad) sz) :=
  g_met (by decide) mw_WL (fun p e s m below meth c hsz C hB ls hl => by subst hsz; exact tX5_does C hB  hl h) (Nat.le_of_ble_eq_true rfl)
theorem hdX5_runs : yX5_runs.cls = "BitTunerModel" ∧ yX5_runs.cls ≠ "java/lang/invoke/MethodHandle" ∧ yX5_runs.cls ≠ "java/lang/invoke/VarHandle" ∧ (parseMethodDescriptor yX5_runs.desc).map (fun d => d.parameters.length) = some 1 := by decide +kernel
def fX5_runs_189 (kf_2 : Int32 → Int32 → TI → TJ → Option (Unit × SS)) (v1 : Int32) (v2 : Int32) (w0 : Int64) (w1 : Int64) (w2 : Int64) (I : TI) (J : TJ) : Option (Unit × SS) :=
  if okx v2 then
  bnd (fX5_rounded w1 w0 (I 5 v2.toNatClampNeg) I J) (fun q_18 I_18 J_18 =>
  bnd (fX5_min (2147483648 : Int64) (w2 * q_18) I_18 J_18) (fun q_19 I_19 J_19 =>
  bnd (fX5_max (-2147483648 : Int64) q_19 I_19 J_19) (fun q_20 I_20 J_20 =>
  kf_2 v1 (v2 + (1 : Int32)) I_20 (uJ J_20 4 (v2.toNatClampNeg) q_20))))
  else none
set_option maxHeartbeats 4000000 in
set_option maxRecDepth 100000 in
theorem tX5_runs_189 {p : Program} {l : Launch} {e : Env} {s : State} {m : MethodId} {args : Array Value} {below : List Frame} {meth : Method} {c : Code} (C : KX p s m args meth c "BitTunerModel" cX5_runs 8 none) {D : va_G} {cI cJ cZ : ClassId} {ad : Nat → Nat} {z : Unit × SS} {kf_2 : Int32 → Int32 → TI → TJ → Option (Unit × SS)} (kt_2 : ∀ {H : Heap} {locs : List Loc} {ls : Array Slot} {I : TI} {J : TJ} {v1 : Int32} {v2 : Int32}, MB D cI cJ cZ ad s H locs I J → lv_has ls 8 [(0, .ref (ad 0)), (1, .int v1), (2, .int v2)] → kf_2 v1 v2 I J = some z → W p l e (rmd 2) s m args below meth c H locs 0 0 (MQ below (gQv D (mw cI cJ cZ ad) (mt cI cJ cZ) (mL ad) s.heap.size z) args s 0 0 (gA (mL ad) s.heap.size)) (F0 m 2 ls [])) {H : Heap} {locs : List Loc} {ls : Array Slot} {I : TI} {J : TJ} {v1 : Int32} {v2 : Int32} {w0 : Int64} {w1 : Int64} {w2 : Int64} (hB : MB D cI cJ cZ ad s H locs I J)  (hl : lv_has ls 8 [(0, .ref (ad 0)), (1, .int v1), (2, .int v2)]) (h : fX5_runs_189 kf_2 v1 v2 w0 w1 w2 I J = some z) : W p l e (rmd 2) s m args below meth c H locs 0 0 (MQ below (gQv D (mw cI cJ cZ ad) (mt cI cJ cZ) (mL ad) s.heap.size z) args s 0 0 (gA (mL ad) s.heap.size)) (F0 m 189 ls [.long w0, .long w1, .long w2]) := by
  unfold fX5_runs_189 at h
  refine lv_aload_n C.hx C.hb dX5_runs_189 rfl (lv_at hl 0 rfl) ?_
  refine mg_roundings C hB tw_565 dX5_runs_190 ?_
  refine lv_iload_n C.hx C.hb dX5_runs_193 rfl (lv_at hl 2 rfl) ?_
  obtain ⟨c_17, h⟩ := ite_ck h
  refine ma_roundings_ld C hB c_17 dX5_runs_194 ?_
  obtain ⟨q_18, I_18, J_18, hc_18, h⟩ := bnd_some h
  refine g_gol hB (g_runS C hB [.long w1, .long w0, .int (I 5 v2.toNatClampNeg)] [.long w2] (cnX5_rounded l D cI cJ cZ ad H.size  hc_18) tw_736 tw_737 tw_38 tw_738 ⟨rfl, rfl⟩ hdX5_rounded ⟨Nat.le_of_ble_eq_true rfl, Nat.le_of_ble_eq_true rfl⟩ hl.1 rfl (Nat.le_of_ble_eq_true rfl) dX5_runs_195) (fun H locs hB => ?_)
  refine lv_lmul C.hx C.hb dX5_runs_198 ?_
  refine lv_lstore (lv' := [(6, .long (w2 * q_18)), (0, .ref (ad 0)), (1, .int v1), (2, .int v2)]) C.hx C.hb dX5_runs_199 hl (by decide) rfl (fun ls hl => ?_)
  refine lv_aload_n C.hx C.hb dX5_runs_201 rfl (lv_at hl 1 rfl) ?_
  refine mg_tuneds C hB tw_570 dX5_runs_202 ?_
  refine lv_iload_n C.hx C.hb dX5_runs_205 rfl (lv_at hl 3 rfl) ?_
  refine lv_ldc2 C.hx C.hb C.hown (C.hts _ tw_742) dX5_runs_206 ?_
  refine lv_ldc2 C.hx C.hb C.hown (C.hts _ tw_743) dX5_runs_209 ?_
  refine lv_lload C.hx C.hb dX5_runs_212 (lv_at hl 0 rfl) ?_
  obtain ⟨q_19, I_19, J_19, hc_19, h⟩ := bnd_some h
  refine g_gol hB (g_runS C hB [.long (2147483648 : Int64), .long (w2 * q_18)] [.long (-2147483648 : Int64), .int v2, .ref (ad 13)] (cnX5_min l D cI cJ cZ ad H.size  hc_19) tw_649 tw_650 tw_38 tw_651 ⟨rfl, rfl⟩ hdX5_min ⟨Nat.le_of_ble_eq_true rfl, Nat.le_of_ble_eq_true rfl⟩ hl.1 rfl (Nat.le_of_ble_eq_true rfl) dX5_runs_214) (fun H locs hB => ?_)
  obtain ⟨q_20, I_20, J_20, hc_20, h⟩ := bnd_some h
  refine g_gol hB (g_runS C hB [.long (-2147483648 : Int64), .long q_19] [.int v2, .ref (ad 13)] (cnX5_max l D cI cJ cZ ad H.size  hc_20) tw_646 tw_647 tw_38 tw_648 ⟨rfl, rfl⟩ hdX5_max ⟨Nat.le_of_ble_eq_true rfl, Nat.le_of_ble_eq_true rfl⟩ hl.1 rfl (Nat.le_of_ble_eq_true rfl) dX5_runs_217) (fun H locs hB => ?_)
  refine ma_tuneds_st C hB c_17 dX5_runs_220 (fun H locs hB => ?_)
  refine lv_iinc (v := v2 + (1 : Int32)) (lv' := [(2, .int (v2 + (1 : Int32))), (6, .long (w2 * q_18)), (0, .ref (ad 0)), (1, .int v1)]) C.hx C.hb dX5_runs_221 hl (k := 3) rfl rfl (by decide) rfl (fun ls hl => ?_)
  refine lv_goto (tgt := 2) C.hx C.hb dX5_runs_224 (by decide) ?_
  exact kt_2 hB (lv_sub hl [2, 3, 0] rfl) h
def fX5_runs_139 (kf_2 : Int32 → Int32 → TI → TJ → Option (Unit × SS)) (v1 : Int32) (v2 : Int32) (v3 : Int32) (v4 : Int64) (w0 : Int64) (w1 : Int64) (w2 : Int32) (I : TI) (J : TJ) : Option (Unit × SS) :=
  if w0 = 0 then none else
  if okx w2 then
  if okx v2 then
  if okx (I 1 v2.toNatClampNeg) then
  if okx (I 2 v2.toNatClampNeg) then
  bnd (fX5_does (I 0 v2.toNatClampNeg) (J 4 ((I 1 v2.toNatClampNeg).toNatClampNeg)) (J 4 ((I 2 v2.toNatClampNeg).toNatClampNeg)) I (uJ J 3 (w2.toNatClampNeg) (w1 / w0))) (fun q_15 I_15 J_15 =>
  if v3 = 0 then
  fX5_runs_189 (kf_2) v1 v2 v4 q_15 v4 I_15 J_15
  else
  fX5_runs_189 (kf_2) v1 v2 ((65536 : Int64) * v4) q_15 v4 I_15 J_15)
  else none
  else none
  else none
  else none
set_option maxHeartbeats 4000000 in
set_option maxRecDepth 100000 in
theorem tX5_runs_139 {p : Program} {l : Launch} {e : Env} {s : State} {m : MethodId} {args : Array Value} {below : List Frame} {meth : Method} {c : Code} (C : KX p s m args meth c "BitTunerModel" cX5_runs 8 none) {D : va_G} {cI cJ cZ : ClassId} {ad : Nat → Nat} {z : Unit × SS} {kf_2 : Int32 → Int32 → TI → TJ → Option (Unit × SS)} (kt_2 : ∀ {H : Heap} {locs : List Loc} {ls : Array Slot} {I : TI} {J : TJ} {v1 : Int32} {v2 : Int32}, MB D cI cJ cZ ad s H locs I J → lv_has ls 8 [(0, .ref (ad 0)), (1, .int v1), (2, .int v2)] → kf_2 v1 v2 I J = some z → W p l e (rmd 2) s m args below meth c H locs 0 0 (MQ below (gQv D (mw cI cJ cZ ad) (mt cI cJ cZ) (mL ad) s.heap.size z) args s 0 0 (gA (mL ad) s.heap.size)) (F0 m 2 ls [])) {H : Heap} {locs : List Loc} {ls : Array Slot} {I : TI} {J : TJ} {v1 : Int32} {v2 : Int32} {v3 : Int32} {v4 : Int64} {w0 : Int64} {w1 : Int64} {w2 : Int32} (hB : MB D cI cJ cZ ad s H locs I J)  (hl : lv_has ls 8 [(0, .ref (ad 0)), (1, .int v1), (2, .int v2), (3, .int v3), (4, .long v4)]) (h : fX5_runs_139 kf_2 v1 v2 v3 v4 w0 w1 w2 I J = some z) : W p l e (rmd 2) s m args below meth c H locs 0 0 (MQ below (gQv D (mw cI cJ cZ ad) (mt cI cJ cZ) (mL ad) s.heap.size z) args s 0 0 (gA (mL ad) s.heap.size)) (F0 m 139 ls [.long w0, .long w1, .int w2, .ref (ad 12)]) := by
  unfold fX5_runs_139 at h
  obtain ⟨z_10, h⟩ := ite_ck0 h
  refine lv_ldiv C.hx C.hb dX5_runs_139 z_10 ?_
  obtain ⟨c_11, h⟩ := ite_ck h
  refine ma_exacts_st C hB c_11 dX5_runs_140 (fun H locs hB => ?_)
  refine lv_lload C.hx C.hb dX5_runs_141 (lv_at hl 4 rfl) ?_
  refine lv_aload_n C.hx C.hb dX5_runs_143 rfl (lv_at hl 0 rfl) ?_
  refine mg_kinds C hB tw_558 dX5_runs_144 ?_
  refine lv_iload_n C.hx C.hb dX5_runs_147 rfl (lv_at hl 2 rfl) ?_
  obtain ⟨c_12, h⟩ := ite_ck h
  refine ma_kinds_ld C hB c_12 dX5_runs_148 ?_
  refine lv_aload_n C.hx C.hb dX5_runs_149 rfl (lv_at hl 0 rfl) ?_
  refine mg_tuneds C hB tw_570 dX5_runs_150 ?_
  refine lv_aload_n C.hx C.hb dX5_runs_153 rfl (lv_at hl 0 rfl) ?_
  refine mg_a C hB tw_559 dX5_runs_154 ?_
  refine lv_iload_n C.hx C.hb dX5_runs_157 rfl (lv_at hl 2 rfl) ?_
  refine ma_a_ld C hB c_12 dX5_runs_158 ?_
  obtain ⟨c_13, h⟩ := ite_ck h
  refine ma_tuneds_ld C hB c_13 dX5_runs_159 ?_
  refine lv_aload_n C.hx C.hb dX5_runs_160 rfl (lv_at hl 0 rfl) ?_
  refine mg_tuneds C hB tw_570 dX5_runs_161 ?_
  refine lv_aload_n C.hx C.hb dX5_runs_164 rfl (lv_at hl 0 rfl) ?_
  refine mg_b C hB tw_560 dX5_runs_165 ?_
  refine lv_iload_n C.hx C.hb dX5_runs_168 rfl (lv_at hl 2 rfl) ?_
  refine ma_b_ld C hB c_12 dX5_runs_169 ?_
  obtain ⟨c_14, h⟩ := ite_ck h
  refine ma_tuneds_ld C hB c_14 dX5_runs_170 ?_
  obtain ⟨q_15, I_15, J_15, hc_15, h⟩ := bnd_some h
  refine g_gol hB (g_runS C hB [.int (I 0 v2.toNatClampNeg), .long (J 4 ((I 1 v2.toNatClampNeg).toNatClampNeg)), .long (J 4 ((I 2 v2.toNatClampNeg).toNatClampNeg))] [.long v4] (cnX5_does l D cI cJ cZ ad H.size  hc_15) tw_733 tw_734 tw_38 tw_735 ⟨rfl, rfl⟩ hdX5_does ⟨Nat.le_of_ble_eq_true rfl, Nat.le_of_ble_eq_true rfl⟩ hl.1 rfl (Nat.le_of_ble_eq_true rfl) dX5_runs_171) (fun H locs hB => ?_)
  refine lv_iload_n C.hx C.hb dX5_runs_174 rfl (lv_at hl 3 rfl) ?_
  refine lv_if_eq (tgt := 187) C.hx C.hb dX5_runs_175 (by decide) (fun c_16 => ?_) (fun c_16 => ?_)
  · replace h := (if_pos c_16).symm.trans h
    refine lv_lload C.hx C.hb dX5_runs_187 (lv_at hl 4 rfl) ?_
    exact tX5_runs_189 C (kt_2) hB (lv_sub hl [0, 1, 2] rfl) h
  · replace h := (if_neg c_16).symm.trans h
    refine lv_ldc2 C.hx C.hb C.hown (C.hts _ tw_652) dX5_runs_178 ?_
    refine lv_lload C.hx C.hb dX5_runs_181 (lv_at hl 4 rfl) ?_
    refine lv_lmul C.hx C.hb dX5_runs_183 ?_
    refine lv_goto (tgt := 189) C.hx C.hb dX5_runs_184 (by decide) ?_
    exact tX5_runs_189 C (kt_2) hB (lv_sub hl [0, 1, 2] rfl) h
def fX5_runs_79 (kf_2 : Int32 → Int32 → TI → TJ → Option (Unit × SS)) (v1 : Int32) (v2 : Int32) (w0 : Int32) (I : TI) (J : TJ) : Option (Unit × SS) :=
  if okx v2 then
  if okx (I 1 v2.toNatClampNeg) then
  if okx (I 2 v2.toNatClampNeg) then
  bnd (fX5_does (I 0 v2.toNatClampNeg) (J 3 ((I 1 v2.toNatClampNeg).toNatClampNeg)) (J 3 ((I 2 v2.toNatClampNeg).toNatClampNeg)) I J) (fun q_8 I_8 J_8 =>
  if w0 = 0 then
  fX5_runs_139 (kf_2) v1 v2 w0 (((65536 : Int32) >>> ((I 4 v2.toNatClampNeg) &&& 31)).toInt64) (1 : Int64) q_8 v2 I_8 J_8
  else
  fX5_runs_139 (kf_2) v1 v2 w0 (((65536 : Int32) >>> ((I 4 v2.toNatClampNeg) &&& 31)).toInt64) (65536 : Int64) q_8 v2 I_8 J_8)
  else none
  else none
  else none
set_option maxHeartbeats 4000000 in
set_option maxRecDepth 100000 in
theorem tX5_runs_79 {p : Program} {l : Launch} {e : Env} {s : State} {m : MethodId} {args : Array Value} {below : List Frame} {meth : Method} {c : Code} (C : KX p s m args meth c "BitTunerModel" cX5_runs 8 none) {D : va_G} {cI cJ cZ : ClassId} {ad : Nat → Nat} {z : Unit × SS} {kf_2 : Int32 → Int32 → TI → TJ → Option (Unit × SS)} (kt_2 : ∀ {H : Heap} {locs : List Loc} {ls : Array Slot} {I : TI} {J : TJ} {v1 : Int32} {v2 : Int32}, MB D cI cJ cZ ad s H locs I J → lv_has ls 8 [(0, .ref (ad 0)), (1, .int v1), (2, .int v2)] → kf_2 v1 v2 I J = some z → W p l e (rmd 2) s m args below meth c H locs 0 0 (MQ below (gQv D (mw cI cJ cZ ad) (mt cI cJ cZ) (mL ad) s.heap.size z) args s 0 0 (gA (mL ad) s.heap.size)) (F0 m 2 ls [])) {H : Heap} {locs : List Loc} {ls : Array Slot} {I : TI} {J : TJ} {v1 : Int32} {v2 : Int32} {w0 : Int32} (hB : MB D cI cJ cZ ad s H locs I J)  (hl : lv_has ls 8 [(0, .ref (ad 0)), (1, .int v1), (2, .int v2)]) (h : fX5_runs_79 kf_2 v1 v2 w0 I J = some z) : W p l e (rmd 2) s m args below meth c H locs 0 0 (MQ below (gQv D (mw cI cJ cZ ad) (mt cI cJ cZ) (mL ad) s.heap.size z) args s 0 0 (gA (mL ad) s.heap.size)) (F0 m 79 ls [.int w0]) := by
  unfold fX5_runs_79 at h
  refine lv_istore_n (lv' := [(3, .int w0), (0, .ref (ad 0)), (1, .int v1), (2, .int v2)]) C.hx C.hb dX5_runs_79 rfl hl (by decide) rfl (fun ls hl => ?_)
  refine lv_ldc C.hx C.hb C.hown (C.hts _ tw_692) dX5_runs_80 ?_
  refine lv_aload_n C.hx C.hb dX5_runs_82 rfl (lv_at hl 1 rfl) ?_
  refine mg_bits C hB tw_564 dX5_runs_83 ?_
  refine lv_iload_n C.hx C.hb dX5_runs_86 rfl (lv_at hl 3 rfl) ?_
  obtain ⟨c_5, h⟩ := ite_ck h
  refine ma_bits_ld C hB c_5 dX5_runs_87 ?_
  refine lv_ishr C.hx C.hb dX5_runs_88 ?_
  refine lv_i2l C.hx C.hb dX5_runs_89 rfl ?_
  refine lv_lstore (lv' := [(4, .long (((65536 : Int32) >>> ((I 4 v2.toNatClampNeg) &&& 31)).toInt64)), (3, .int w0), (0, .ref (ad 0)), (1, .int v1), (2, .int v2)]) C.hx C.hb dX5_runs_90 hl (by decide) rfl (fun ls hl => ?_)
  refine lv_aload_n C.hx C.hb dX5_runs_92 rfl (lv_at hl 2 rfl) ?_
  refine mg_exacts C hB tw_569 dX5_runs_93 ?_
  refine lv_iload_n C.hx C.hb dX5_runs_96 rfl (lv_at hl 4 rfl) ?_
  refine lv_aload_n C.hx C.hb dX5_runs_97 rfl (lv_at hl 2 rfl) ?_
  refine mg_kinds C hB tw_558 dX5_runs_98 ?_
  refine lv_iload_n C.hx C.hb dX5_runs_101 rfl (lv_at hl 4 rfl) ?_
  refine ma_kinds_ld C hB c_5 dX5_runs_102 ?_
  refine lv_aload_n C.hx C.hb dX5_runs_103 rfl (lv_at hl 2 rfl) ?_
  refine mg_exacts C hB tw_569 dX5_runs_104 ?_
  refine lv_aload_n C.hx C.hb dX5_runs_107 rfl (lv_at hl 2 rfl) ?_
  refine mg_a C hB tw_559 dX5_runs_108 ?_
  refine lv_iload_n C.hx C.hb dX5_runs_111 rfl (lv_at hl 4 rfl) ?_
  refine ma_a_ld C hB c_5 dX5_runs_112 ?_
  obtain ⟨c_6, h⟩ := ite_ck h
  refine ma_exacts_ld C hB c_6 dX5_runs_113 ?_
  refine lv_aload_n C.hx C.hb dX5_runs_114 rfl (lv_at hl 2 rfl) ?_
  refine mg_exacts C hB tw_569 dX5_runs_115 ?_
  refine lv_aload_n C.hx C.hb dX5_runs_118 rfl (lv_at hl 2 rfl) ?_
  refine mg_b C hB tw_560 dX5_runs_119 ?_
  refine lv_iload_n C.hx C.hb dX5_runs_122 rfl (lv_at hl 4 rfl) ?_
  refine ma_b_ld C hB c_5 dX5_runs_123 ?_
  obtain ⟨c_7, h⟩ := ite_ck h
  refine ma_exacts_ld C hB c_7 dX5_runs_124 ?_
  obtain ⟨q_8, I_8, J_8, hc_8, h⟩ := bnd_some h
  refine g_gol hB (g_runS C hB [.int (I 0 v2.toNatClampNeg), .long (J 3 ((I 1 v2.toNatClampNeg).toNatClampNeg)), .long (J 3 ((I 2 v2.toNatClampNeg).toNatClampNeg))] [.int v2, .ref (ad 12)] (cnX5_does l D cI cJ cZ ad H.size  hc_8) tw_733 tw_734 tw_38 tw_735 ⟨rfl, rfl⟩ hdX5_does ⟨Nat.le_of_ble_eq_true rfl, Nat.le_of_ble_eq_true rfl⟩ hl.1 rfl (Nat.le_of_ble_eq_true rfl) dX5_runs_125) (fun H locs hB => ?_)
  refine lv_iload_n C.hx C.hb dX5_runs_128 rfl (lv_at hl 1 rfl) ?_
  refine lv_if_eq (tgt := 138) C.hx C.hb dX5_runs_129 (by decide) (fun c_9 => ?_) (fun c_9 => ?_)
  · replace h := (if_pos c_9).symm.trans h
    refine lv_lconst (v := (1 : Int64)) C.hx C.hb dX5_runs_138 (by decide) ?_
    exact tX5_runs_139 C (kt_2) hB (lv_sub hl [2, 3, 4, 1, 0] rfl) h
  · replace h := (if_neg c_9).symm.trans h
    refine lv_ldc2 C.hx C.hb C.hown (C.hts _ tw_652) dX5_runs_132 ?_
    refine lv_goto (tgt := 139) C.hx C.hb dX5_runs_135 (by decide) ?_
    exact tX5_runs_139 C (kt_2) hB (lv_sub hl [2, 3, 4, 1, 0] rfl) h
def fX5_runs_48 (kf_2 : Int32 → Int32 → TI → TJ → Option (Unit × SS)) (v1 : Int32) (v2 : Int32) (w0 : Int64) (w1 : Int32) (I : TI) (J : TJ) : Option (Unit × SS) :=
  if okx w1 then
  if okx v2 then
  kf_2 v1 (v2 + (1 : Int32)) I (uJ (uJ J 3 (w1.toNatClampNeg) w0) 4 (v2.toNatClampNeg) ((uJ J 3 (w1.toNatClampNeg) w0) 3 v2.toNatClampNeg))
  else none
  else none
set_option maxHeartbeats 4000000 in
set_option maxRecDepth 100000 in
theorem tX5_runs_48 {p : Program} {l : Launch} {e : Env} {s : State} {m : MethodId} {args : Array Value} {below : List Frame} {meth : Method} {c : Code} (C : KX p s m args meth c "BitTunerModel" cX5_runs 8 none) {D : va_G} {cI cJ cZ : ClassId} {ad : Nat → Nat} {z : Unit × SS} {kf_2 : Int32 → Int32 → TI → TJ → Option (Unit × SS)} (kt_2 : ∀ {H : Heap} {locs : List Loc} {ls : Array Slot} {I : TI} {J : TJ} {v1 : Int32} {v2 : Int32}, MB D cI cJ cZ ad s H locs I J → lv_has ls 8 [(0, .ref (ad 0)), (1, .int v1), (2, .int v2)] → kf_2 v1 v2 I J = some z → W p l e (rmd 2) s m args below meth c H locs 0 0 (MQ below (gQv D (mw cI cJ cZ ad) (mt cI cJ cZ) (mL ad) s.heap.size z) args s 0 0 (gA (mL ad) s.heap.size)) (F0 m 2 ls [])) {H : Heap} {locs : List Loc} {ls : Array Slot} {I : TI} {J : TJ} {v1 : Int32} {v2 : Int32} {w0 : Int64} {w1 : Int32} (hB : MB D cI cJ cZ ad s H locs I J)  (hl : lv_has ls 8 [(0, .ref (ad 0)), (1, .int v1), (2, .int v2)]) (h : fX5_runs_48 kf_2 v1 v2 w0 w1 I J = some z) : W p l e (rmd 2) s m args below meth c H locs 0 0 (MQ below (gQv D (mw cI cJ cZ ad) (mt cI cJ cZ) (mL ad) s.heap.size z) args s 0 0 (gA (mL ad) s.heap.size)) (F0 m 48 ls [.long w0, .int w1, .ref (ad 12)]) := by
  unfold fX5_runs_48 at h
  obtain ⟨c_22, h⟩ := ite_ck h
  refine ma_exacts_st C hB c_22 dX5_runs_48 (fun H locs hB => ?_)
  refine lv_aload_n C.hx C.hb dX5_runs_49 rfl (lv_at hl 0 rfl) ?_
  refine mg_tuneds C hB tw_570 dX5_runs_50 ?_
  refine lv_iload_n C.hx C.hb dX5_runs_53 rfl (lv_at hl 2 rfl) ?_
  refine lv_aload_n C.hx C.hb dX5_runs_54 rfl (lv_at hl 0 rfl) ?_
  refine mg_exacts C hB tw_569 dX5_runs_55 ?_
  refine lv_iload_n C.hx C.hb dX5_runs_58 rfl (lv_at hl 2 rfl) ?_
  obtain ⟨c_23, h⟩ := ite_ck h
  refine ma_exacts_ld C hB c_23 dX5_runs_59 ?_
  refine ma_tuneds_st C hB c_23 dX5_runs_60 (fun H locs hB => ?_)
  refine lv_goto (tgt := 221) C.hx C.hb dX5_runs_61 (by decide) ?_
  refine lv_iinc (v := v2 + (1 : Int32)) (lv' := [(2, .int (v2 + (1 : Int32))), (0, .ref (ad 0)), (1, .int v1)]) C.hx C.hb dX5_runs_221 hl (k := 2) rfl rfl (by decide) rfl (fun ls hl => ?_)
  refine lv_goto (tgt := 2) C.hx C.hb dX5_runs_224 (by decide) ?_
  exact kt_2 hB (lv_sub hl [1, 2, 0] rfl) h
def fX5_runs_2  : Nat → Int32 → Int32 → TI → TJ → Option (Unit × SS)
  | 0, _, _, _, _ => none
  | n + 1, v1, v2, I, J =>
    if v1 < v2 then
    some ((), I, J)
    else
    if okx v2 then
    if (1 : Int32) < (I 0 v2.toNatClampNeg) then
    if (I 0 v2.toNatClampNeg) = (4 : Int32) then
    fX5_runs_79 (fX5_runs_2 n) v1 v2 (1 : Int32) I J
    else
    fX5_runs_79 (fX5_runs_2 n) v1 v2 (0 : Int32) I J
    else
    if (I 0 v2.toNatClampNeg) = 0 then
    fX5_runs_48 (fX5_runs_2 n) v1 v2 ((I 7 v2.toNatClampNeg).toInt64) v2 I J
    else
    fX5_runs_48 (fX5_runs_2 n) v1 v2 ((I 1 v2.toNatClampNeg).toInt64) v2 I J
    else none
theorem eX5_runs_2  (n : Nat) (v1 : Int32) (v2 : Int32) (I : TI) (J : TJ) : fX5_runs_2 (n + 1) v1 v2 I J = (
    if v1 < v2 then
    some ((), I, J)
    else
    if okx v2 then
    if (1 : Int32) < (I 0 v2.toNatClampNeg) then
    if (I 0 v2.toNatClampNeg) = (4 : Int32) then
    fX5_runs_79 (fX5_runs_2 n) v1 v2 (1 : Int32) I J
    else
    fX5_runs_79 (fX5_runs_2 n) v1 v2 (0 : Int32) I J
    else
    if (I 0 v2.toNatClampNeg) = 0 then
    fX5_runs_48 (fX5_runs_2 n) v1 v2 ((I 7 v2.toNatClampNeg).toInt64) v2 I J
    else
    fX5_runs_48 (fX5_runs_2 n) v1 v2 ((I 1 v2.toNatClampNeg).toInt64) v2 I J
    else none) := rfl
set_option maxHeartbeats 4000000 in
set_option maxRecDepth 100000 in
theorem tX5_runs_2 {p : Program} {l : Launch} {e : Env} {s : State} {m : MethodId} {args : Array Value} {below : List Frame} {meth : Method} {c : Code} (C : KX p s m args meth c "BitTunerModel" cX5_runs 8 none) {D : va_G} {cI cJ cZ : ClassId} {ad : Nat → Nat} {z : Unit × SS}   : ∀ (n : Nat), ∀ {H : Heap} {locs : List Loc} {ls : Array Slot} {I : TI} {J : TJ} {v1 : Int32} {v2 : Int32}, MB D cI cJ cZ ad s H locs I J → lv_has ls 8 [(0, .ref (ad 0)), (1, .int v1), (2, .int v2)] → fX5_runs_2 n v1 v2 I J = some z → W p l e (rmd 2) s m args below meth c H locs 0 0 (MQ below (gQv D (mw cI cJ cZ ad) (mt cI cJ cZ) (mL ad) s.heap.size z) args s 0 0 (gA (mL ad) s.heap.size)) (F0 m 2 ls []) := by
  intro n
  induction n with
  | zero =>
    intro H locs ls I J v1 v2 hB  hl h
    have h : (none : Option (Unit × SS)) = some z := h
    cases h
  | succ n ih =>
    intro H locs ls I J v1 v2 hB  hl h
    replace h := (eX5_runs_2 n v1 v2 I J).symm.trans h
    refine lv_iload_n C.hx C.hb dX5_runs_2 rfl (lv_at hl 2 rfl) ?_
    refine lv_iload_n C.hx C.hb dX5_runs_3 rfl (lv_at hl 1 rfl) ?_
    refine lv_icmp_gt (tgt := 227) C.hx C.hb dX5_runs_4 (by decide) (fun c_1 => ?_) (fun c_1 => ?_)
    · replace h := (if_pos c_1).symm.trans h
      exact g_vret C hB h dX5_runs_227
    · replace h := (if_neg c_1).symm.trans h
      refine lv_aload_n C.hx C.hb dX5_runs_7 rfl (lv_at hl 0 rfl) ?_
      refine mg_kinds C hB tw_558 dX5_runs_8 ?_
      refine lv_iload_n C.hx C.hb dX5_runs_11 rfl (lv_at hl 2 rfl) ?_
      obtain ⟨c_2, h⟩ := ite_ck h
      refine ma_kinds_ld C hB c_2 dX5_runs_12 ?_
      refine lv_iconst (v := (1 : Int32)) C.hx C.hb dX5_runs_13 (by decide) ?_
      refine lv_icmp_gt (tgt := 64) C.hx C.hb dX5_runs_14 (by decide) (fun c_3 => ?_) (fun c_3 => ?_)
      · replace h := (if_pos c_3).symm.trans h
        refine lv_aload_n C.hx C.hb dX5_runs_64 rfl (lv_at hl 0 rfl) ?_
        refine mg_kinds C hB tw_558 dX5_runs_65 ?_
        refine lv_iload_n C.hx C.hb dX5_runs_68 rfl (lv_at hl 2 rfl) ?_
        refine ma_kinds_ld C hB c_2 dX5_runs_69 ?_
        refine lv_iconst (v := (4 : Int32)) C.hx C.hb dX5_runs_70 (by decide) ?_
        refine lv_icmp_ne (tgt := 78) C.hx C.hb dX5_runs_71 (by decide) (fun c_4 => ?_) (fun c_4 => ?_)
        · replace h := (if_neg c_4).symm.trans h
          refine lv_iconst (v := (0 : Int32)) C.hx C.hb dX5_runs_78 (by decide) ?_
          exact tX5_runs_79 C (ih) hB (lv_sub hl [0, 1, 2] rfl) h
        · replace h := (if_pos c_4).symm.trans h
          refine lv_iconst (v := (1 : Int32)) C.hx C.hb dX5_runs_74 (by decide) ?_
          refine lv_goto (tgt := 79) C.hx C.hb dX5_runs_75 (by decide) ?_
          exact tX5_runs_79 C (ih) hB (lv_sub hl [0, 1, 2] rfl) h
      · replace h := (if_neg c_3).symm.trans h
        refine lv_aload_n C.hx C.hb dX5_runs_17 rfl (lv_at hl 0 rfl) ?_
        refine mg_exacts C hB tw_569 dX5_runs_18 ?_
        refine lv_iload_n C.hx C.hb dX5_runs_21 rfl (lv_at hl 2 rfl) ?_
        refine lv_aload_n C.hx C.hb dX5_runs_22 rfl (lv_at hl 0 rfl) ?_
        refine mg_kinds C hB tw_558 dX5_runs_23 ?_
        refine lv_iload_n C.hx C.hb dX5_runs_26 rfl (lv_at hl 2 rfl) ?_
        refine ma_kinds_ld C hB c_2 dX5_runs_27 ?_
        refine lv_if_ne (tgt := 41) C.hx C.hb dX5_runs_28 (by decide) (fun c_21 => ?_) (fun c_21 => ?_)
        · replace h := (if_neg c_21).symm.trans h
          refine lv_aload_n C.hx C.hb dX5_runs_41 rfl (lv_at hl 0 rfl) ?_
          refine mg_a C hB tw_559 dX5_runs_42 ?_
          refine lv_iload_n C.hx C.hb dX5_runs_45 rfl (lv_at hl 2 rfl) ?_
          refine ma_a_ld C hB c_2 dX5_runs_46 ?_
          refine lv_i2l C.hx C.hb dX5_runs_47 rfl ?_
          exact tX5_runs_48 C (ih) hB (lv_sub hl [0, 1, 2] rfl) h
        · replace h := (if_pos c_21).symm.trans h
          refine lv_aload_n C.hx C.hb dX5_runs_31 rfl (lv_at hl 0 rfl) ?_
          refine mg_setTo C hB tw_567 dX5_runs_32 ?_
          refine lv_iload_n C.hx C.hb dX5_runs_35 rfl (lv_at hl 2 rfl) ?_
          refine ma_setTo_ld C hB c_2 dX5_runs_36 ?_
          refine lv_i2l C.hx C.hb dX5_runs_37 rfl ?_
          refine lv_goto (tgt := 48) C.hx C.hb dX5_runs_38 (by decide) ?_
          exact tX5_runs_48 C (ih) hB (lv_sub hl [0, 1, 2] rfl) h
def fX5_runs  (v1 : Int32) (I : TI) (J : TJ) : Option (Unit × SS) :=
  fX5_runs_2 fuel v1 (0 : Int32) I J
set_option maxHeartbeats 4000000 in
set_option maxRecDepth 100000 in
theorem tX5_runs {p : Program} {l : Launch} {e : Env} {s : State} {m : MethodId} {args : Array Value} {below : List Frame} {meth : Method} {c : Code} (C : KX p s m args meth c "BitTunerModel" cX5_runs 8 none) {D : va_G} {cI cJ cZ : ClassId} {ad : Nat → Nat} {z : Unit × SS}   {H : Heap} {locs : List Loc} {ls : Array Slot} {I : TI} {J : TJ} {v1 : Int32} (hB : MB D cI cJ cZ ad s H locs I J)  (hl : lv_has ls 8 [(0, .ref (ad 0)), (1, .int v1)]) (h : fX5_runs v1 I J = some z) : W p l e (rmd 2) s m args below meth c H locs 0 0 (MQ below (gQv D (mw cI cJ cZ ad) (mt cI cJ cZ) (mL ad) s.heap.size z) args s 0 0 (gA (mL ad) s.heap.size)) (F0 m 0 ls []) := by
  unfold fX5_runs at h
  refine lv_iconst (v := (0 : Int32)) C.hx C.hb dX5_runs_0 (by decide) ?_
  refine lv_istore_n (lv' := [(2, .int (0 : Int32)), (0, .ref (ad 0)), (1, .int v1)]) C.hx C.hb dX5_runs_1 rfl hl (by decide) rfl (fun ls hl => ?_)
  exact tX5_runs_2 C  fuel hB (lv_sub hl [1, 2, 0] rfl) h
set_option maxHeartbeats 4000000 in
set_option maxRecDepth 100000 in
theorem cnX5_runs (l : Launch) (D : va_G) (cI cJ cZ : ClassId) (ad : Nat → Nat) (sz : Nat) {v1 : Int32} {I : TI} {J : TJ} {z : Unit × SS}  (h : fX5_runs v1 I J = some z) : Met l yX5_runs (wsm yX5_runs cX5_runs 8 none) (rmd 2) (va_Pc [.ref (ad 0), .int v1] (gPre D (mw cI cJ cZ ad) (mt cI cJ cZ) sz I J)) (gQv D (mw cI cJ cZ ad) (mt cI cJ cZ) (mL ad) sz z) 0 0 (gA (mL ad) sz) :=
  g_met (by decide) mw_WL (fun p e s m below meth c hsz C hB ls hl => by subst hsz; exact tX5_runs C hB  hl h) (Nat.le_of_ble_eq_true rfl)
theorem hdX5_isOf : yX5_isOf.cls = "BitTunerModel" ∧ yX5_isOf.cls ≠ "java/lang/invoke/MethodHandle" ∧ yX5_isOf.cls ≠ "java/lang/invoke/VarHandle" ∧ (parseMethodDescriptor yX5_isOf.desc).map (fun d => d.parameters.length) = some 2 := by decide +kernel
def fX5_isOf  (v1 : Int32) (v2 : Int64) (I : TI) (J : TJ) : Option (Int32 × SS) :=
  if okx v1 then
  bnd (fX5_in v2 (J 0 v1.toNatClampNeg) (J 1 v1.toNatClampNeg) I J) (fun q_2 I_2 J_2 =>
  if q_2 = 0 then
  some ((0 : Int32), I_2, J_2)
  else
  if (v2 - v2 / (4096 : Int64) * (4096 : Int64)) = (0 : Int64) then
  some ((1 : Int32), I_2, J_2)
  else
  some ((0 : Int32), I_2, J_2))
  else none
set_option maxHeartbeats 4000000 in
set_option maxRecDepth 100000 in
theorem tX5_isOf {p : Program} {l : Launch} {e : Env} {s : State} {m : MethodId} {args : Array Value} {below : List Frame} {meth : Method} {c : Code} (C : KX p s m args meth c "BitTunerModel" cX5_isOf 4 (some .boolean)) {D : va_G} {cI cJ cZ : ClassId} {ad : Nat → Nat} {z : Int32 × SS}   {H : Heap} {locs : List Loc} {ls : Array Slot} {I : TI} {J : TJ} {v1 : Int32} {v2 : Int64} (hB : MB D cI cJ cZ ad s H locs I J)  (hl : lv_has ls 4 [(0, .ref (ad 0)), (1, .int v1), (2, .long v2)]) (h : fX5_isOf v1 v2 I J = some z) : W p l e (rmd 1) s m args below meth c H locs 0 0 (MQ below (gQi D (mw cI cJ cZ ad) (mt cI cJ cZ) (mL ad) s.heap.size z) args s 0 0 (gA (mL ad) s.heap.size)) (F0 m 0 ls []) := by
  unfold fX5_isOf at h
  refine lv_lload_n C.hx C.hb dX5_isOf_0 rfl (lv_at hl 2 rfl) ?_
  refine lv_aload_n C.hx C.hb dX5_isOf_1 rfl (lv_at hl 0 rfl) ?_
  refine mg_leasts C hB tw_562 dX5_isOf_2 ?_
  refine lv_iload_n C.hx C.hb dX5_isOf_5 rfl (lv_at hl 1 rfl) ?_
  obtain ⟨c_1, h⟩ := ite_ck h
  refine ma_leasts_ld C hB c_1 dX5_isOf_6 ?_
  refine lv_aload_n C.hx C.hb dX5_isOf_7 rfl (lv_at hl 0 rfl) ?_
  refine mg_mosts C hB tw_563 dX5_isOf_8 ?_
  refine lv_iload_n C.hx C.hb dX5_isOf_11 rfl (lv_at hl 1 rfl) ?_
  refine ma_mosts_ld C hB c_1 dX5_isOf_12 ?_
  obtain ⟨q_2, I_2, J_2, hc_2, h⟩ := bnd_some h
  refine g_goi hB (g_runS C hB [.long v2, .long (J 0 v1.toNatClampNeg), .long (J 1 v1.toNatClampNeg)] [] (cnX5_in l D cI cJ cZ ad H.size  hc_2) tw_625 tw_626 tw_38 tw_627 ⟨rfl, rfl⟩ hdX5_in ⟨Nat.le_of_ble_eq_true rfl, Nat.le_of_ble_eq_true rfl⟩ hl.1 rfl (Nat.le_of_ble_eq_true rfl) dX5_isOf_13) (fun H locs hB => ?_)
  refine lv_if_eq (tgt := 33) C.hx C.hb dX5_isOf_16 (by decide) (fun c_3 => ?_) (fun c_3 => ?_)
  · replace h := (if_pos c_3).symm.trans h
    refine lv_iconst (v := (0 : Int32)) C.hx C.hb dX5_isOf_33 (by decide) ?_
    exact g_zret C hB h (by decide) dX5_isOf_34
  · replace h := (if_neg c_3).symm.trans h
    refine lv_lload_n C.hx C.hb dX5_isOf_19 rfl (lv_at hl 2 rfl) ?_
    refine lv_ldc2 C.hx C.hb C.hown (C.hts _ tw_717) dX5_isOf_20 ?_
    refine lv_lrem C.hx C.hb dX5_isOf_23 (by decide) ?_
    refine lv_lconst (v := (0 : Int64)) C.hx C.hb dX5_isOf_24 (by decide) ?_
    refine g_lcmp_ne C (tgt := 33) dX5_isOf_25 dX5_isOf_26 (by decide) (fun c_4 => ?_) (fun c_4 => ?_)
    · replace h := (if_neg c_4).symm.trans h
      refine lv_iconst (v := (0 : Int32)) C.hx C.hb dX5_isOf_33 (by decide) ?_
      exact g_zret C hB h (by decide) dX5_isOf_34
    · replace h := (if_pos c_4).symm.trans h
      refine lv_iconst (v := (1 : Int32)) C.hx C.hb dX5_isOf_29 (by decide) ?_
      refine lv_goto (tgt := 34) C.hx C.hb dX5_isOf_30 (by decide) ?_
      exact g_zret C hB h (by decide) dX5_isOf_34
set_option maxHeartbeats 4000000 in
set_option maxRecDepth 100000 in
theorem cnX5_isOf (l : Launch) (D : va_G) (cI cJ cZ : ClassId) (ad : Nat → Nat) (sz : Nat) {v1 : Int32} {v2 : Int64} {I : TI} {J : TJ} {z : Int32 × SS}  (h : fX5_isOf v1 v2 I J = some z) : Met l yX5_isOf (wsm yX5_isOf cX5_isOf 4 (some .boolean)) (rmd 1) (va_Pc [.ref (ad 0), .int v1, .long v2] (gPre D (mw cI cJ cZ ad) (mt cI cJ cZ) sz I J)) (gQi D (mw cI cJ cZ ad) (mt cI cJ cZ) (mL ad) sz z) 0 0 (gA (mL ad) sz) :=
  g_met (by decide) mw_WL (fun p e s m below meth c hsz C hB ls hl => by subst hsz; exact tX5_isOf C hB  hl h) (Nat.le_of_ble_eq_true rfl)
theorem hdX5_set : yX5_set.cls = "BitTunerModel" ∧ yX5_set.cls ≠ "java/lang/invoke/MethodHandle" ∧ yX5_set.cls ≠ "java/lang/invoke/VarHandle" ∧ (parseMethodDescriptor yX5_set.desc).map (fun d => d.parameters.length) = some 2 := by decide +kernel
def fX5_set  (v1 : Int32) (v2 : Int32) (I : TI) (J : TJ) : Option (Int32 × SS) :=
  bnd (fX5_isInput v1 I J) (fun q_1 I_1 J_1 =>
  if q_1 = 0 then
  some ((-2 : Int32), I_1, J_1)
  else
  bnd (fX5_isOf v1 v2.toInt64 I_1 J_1) (fun q_3 I_3 J_3 =>
  if q_3 = 0 then
  some ((-2 : Int32), I_3, J_3)
  else
  if okx v1 then
  some ((1 : Int32), (uI I_3 7 (v1.toNatClampNeg) v2), J_3)
  else none))
set_option maxHeartbeats 4000000 in
set_option maxRecDepth 100000 in
theorem tX5_set {p : Program} {l : Launch} {e : Env} {s : State} {m : MethodId} {args : Array Value} {below : List Frame} {meth : Method} {c : Code} (C : KX p s m args meth c "BitTunerModel" cX5_set 3 (some .int)) {D : va_G} {cI cJ cZ : ClassId} {ad : Nat → Nat} {z : Int32 × SS}   {H : Heap} {locs : List Loc} {ls : Array Slot} {I : TI} {J : TJ} {v1 : Int32} {v2 : Int32} (hB : MB D cI cJ cZ ad s H locs I J)  (hl : lv_has ls 3 [(0, .ref (ad 0)), (1, .int v1), (2, .int v2)]) (h : fX5_set v1 v2 I J = some z) : W p l e (rmd 3) s m args below meth c H locs 0 0 (MQ below (gQi D (mw cI cJ cZ ad) (mt cI cJ cZ) (mL ad) s.heap.size z) args s 0 0 (gA (mL ad) s.heap.size)) (F0 m 0 ls []) := by
  unfold fX5_set at h
  refine lv_aload_n C.hx C.hb dX5_set_0 rfl (lv_at hl 0 rfl) ?_
  refine lv_iload_n C.hx C.hb dX5_set_1 rfl (lv_at hl 1 rfl) ?_
  obtain ⟨q_1, I_1, J_1, hc_1, h⟩ := bnd_some h
  refine g_goi hB (g_runV C hB [.int v1] [] (cnX5_isInput l D cI cJ cZ ad H.size  hc_1) 0 rfl rfl tw_709 tw_711 tw_19 tw_38 tw_712 ⟨rfl, rfl⟩ hdX5_isInput ⟨Nat.le_of_ble_eq_true rfl, Nat.le_of_ble_eq_true rfl⟩ hl.1 rfl (Nat.le_of_ble_eq_true rfl) dX5_set_2) (fun H locs hB => ?_)
  refine lv_if_eq (tgt := 18) C.hx C.hb dX5_set_5 (by decide) (fun c_2 => ?_) (fun c_2 => ?_)
  · replace h := (if_pos c_2).symm.trans h
    refine lv_bipush (v := (-2 : Int32)) C.hx C.hb dX5_set_18 (by decide) ?_
    exact g_iret C hB h dX5_set_20
  · replace h := (if_neg c_2).symm.trans h
    refine lv_aload_n C.hx C.hb dX5_set_8 rfl (lv_at hl 0 rfl) ?_
    refine lv_iload_n C.hx C.hb dX5_set_9 rfl (lv_at hl 1 rfl) ?_
    refine lv_iload_n C.hx C.hb dX5_set_10 rfl (lv_at hl 2 rfl) ?_
    refine lv_i2l C.hx C.hb dX5_set_11 rfl ?_
    obtain ⟨q_3, I_3, J_3, hc_3, h⟩ := bnd_some h
    refine g_goi hB (g_runV C hB [.int v1, .long v2.toInt64] [] (cnX5_isOf l D cI cJ cZ ad H.size  hc_3) 0 rfl rfl tw_713 tw_715 tw_20 tw_38 tw_716 ⟨rfl, rfl⟩ hdX5_isOf ⟨Nat.le_of_ble_eq_true rfl, Nat.le_of_ble_eq_true rfl⟩ hl.1 rfl (Nat.le_of_ble_eq_true rfl) dX5_set_12) (fun H locs hB => ?_)
    refine lv_if_ne (tgt := 21) C.hx C.hb dX5_set_15 (by decide) (fun c_4 => ?_) (fun c_4 => ?_)
    · replace h := (if_neg c_4).symm.trans h
      refine lv_aload_n C.hx C.hb dX5_set_21 rfl (lv_at hl 0 rfl) ?_
      refine mg_setTo C hB tw_567 dX5_set_22 ?_
      refine lv_iload_n C.hx C.hb dX5_set_25 rfl (lv_at hl 1 rfl) ?_
      refine lv_iload_n C.hx C.hb dX5_set_26 rfl (lv_at hl 2 rfl) ?_
      obtain ⟨c_5, h⟩ := ite_ck h
      refine ma_setTo_st C hB c_5 dX5_set_27 (fun H locs hB => ?_)
      refine lv_iconst (v := (1 : Int32)) C.hx C.hb dX5_set_28 (by decide) ?_
      exact g_iret C hB h dX5_set_29
    · replace h := (if_pos c_4).symm.trans h
      refine lv_bipush (v := (-2 : Int32)) C.hx C.hb dX5_set_18 (by decide) ?_
      exact g_iret C hB h dX5_set_20
set_option maxHeartbeats 4000000 in
set_option maxRecDepth 100000 in
theorem cnX5_set (l : Launch) (D : va_G) (cI cJ cZ : ClassId) (ad : Nat → Nat) (sz : Nat) {v1 : Int32} {v2 : Int32} {I : TI} {J : TJ} {z : Int32 × SS}  (h : fX5_set v1 v2 I J = some z) : Met l yX5_set (wsm yX5_set cX5_set 3 (some .int)) (rmd 3) (va_Pc [.ref (ad 0), .int v1, .int v2] (gPre D (mw cI cJ cZ ad) (mt cI cJ cZ) sz I J)) (gQi D (mw cI cJ cZ ad) (mt cI cJ cZ) (mL ad) sz z) 0 0 (gA (mL ad) sz) :=
  g_met (by decide) mw_WL (fun p e s m below meth c hsz C hB ls hl => by subst hsz; exact tX5_set C hB  hl h) (Nat.le_of_ble_eq_true rfl)
theorem hdX5_enter : yX5_enter.cls = "BitTunerModel" ∧ yX5_enter.cls ≠ "java/lang/invoke/MethodHandle" ∧ yX5_enter.cls ≠ "java/lang/invoke/VarHandle" ∧ (parseMethodDescriptor yX5_enter.desc).map (fun d => d.parameters.length) = some 2 := by decide +kernel
def fX5_enter  (v1 : Int32) (v2 : UInt64) (I : TI) (J : TJ) : Option (Int32 × SS) :=
  bnd (fX5_isInput v1 I J) (fun q_1 I_1 J_1 =>
  if q_1 = 0 then
  some ((-2 : Int32), I_1, J_1)
  else
  if (Op.cmpValue (FP.dcmp v2 (13857576053419016192 : UInt64)) CmpOp.l) < 0 then
  some ((-2 : Int32), I_1, J_1)
  else
  if (Op.cmpValue (FP.dcmp v2 (4634204016564240384 : UInt64)) CmpOp.g) ≤ 0 then
  if okd (FP.dmul v2 (4679240012837945344 : UInt64)) then
  if (Op.cmpValue (FP.dcmp (FP.l2d (FP.d2l (FP.dmul v2 (4679240012837945344 : UInt64)))) (FP.dmul v2 (4679240012837945344 : UInt64))) CmpOp.l) = 0 then
  bnd (fX5_isOf v1 (FP.d2l (FP.dmul v2 (4679240012837945344 : UInt64))) I_1 J_1) (fun q_7 I_7 J_7 =>
  if q_7 = 0 then
  some ((-2 : Int32), I_7, J_7)
  else
  if okx v1 then
  some ((1 : Int32), (uI I_7 7 (v1.toNatClampNeg) ((FP.d2l (FP.dmul v2 (4679240012837945344 : UInt64))).toInt32)), J_7)
  else none)
  else
  some ((-2 : Int32), I_1, J_1)
  else none
  else
  some ((-2 : Int32), I_1, J_1))
set_option maxHeartbeats 4000000 in
set_option maxRecDepth 100000 in
theorem tX5_enter {p : Program} {l : Launch} {e : Env} {s : State} {m : MethodId} {args : Array Value} {below : List Frame} {meth : Method} {c : Code} (C : KX p s m args meth c "BitTunerModel" cX5_enter 8 (some .int)) {D : va_G} {cI cJ cZ : ClassId} {ad : Nat → Nat} {z : Int32 × SS}   {H : Heap} {locs : List Loc} {ls : Array Slot} {I : TI} {J : TJ} {v1 : Int32} {v2 : UInt64} (hB : MB D cI cJ cZ ad s H locs I J)  (hl : lv_has ls 8 [(0, .ref (ad 0)), (1, .int v1), (2, .double v2)]) (h : fX5_enter v1 v2 I J = some z) : W p l e (rmd 3) s m args below meth c H locs 0 0 (MQ below (gQi D (mw cI cJ cZ ad) (mt cI cJ cZ) (mL ad) s.heap.size z) args s 0 0 (gA (mL ad) s.heap.size)) (F0 m 0 ls []) := by
  unfold fX5_enter at h
  refine lv_aload_n C.hx C.hb dX5_enter_0 rfl (lv_at hl 0 rfl) ?_
  refine lv_iload_n C.hx C.hb dX5_enter_1 rfl (lv_at hl 1 rfl) ?_
  obtain ⟨q_1, I_1, J_1, hc_1, h⟩ := bnd_some h
  refine g_goi hB (g_runV C hB [.int v1] [] (cnX5_isInput l D cI cJ cZ ad H.size  hc_1) 0 rfl rfl tw_709 tw_711 tw_19 tw_38 tw_712 ⟨rfl, rfl⟩ hdX5_isInput ⟨Nat.le_of_ble_eq_true rfl, Nat.le_of_ble_eq_true rfl⟩ hl.1 rfl (Nat.le_of_ble_eq_true rfl) dX5_enter_2) (fun H locs hB => ?_)
  refine lv_if_eq (tgt := 24) C.hx C.hb dX5_enter_5 (by decide) (fun c_2 => ?_) (fun c_2 => ?_)
  · replace h := (if_pos c_2).symm.trans h
    refine lv_bipush (v := (-2 : Int32)) C.hx C.hb dX5_enter_24 (by decide) ?_
    exact g_iret C hB h dX5_enter_26
  · replace h := (if_neg c_2).symm.trans h
    refine lv_dload_n C.hx C.hb dX5_enter_8 rfl (lv_at hl 2 rfl) ?_
    refine lv_ldc2d C.hx C.hb C.hown (C.hts _ tw_722) dX5_enter_9 ?_
    refine lv_dcmp C.hx C.hb dX5_enter_12 ?_
    refine lv_if_lt (tgt := 24) C.hx C.hb dX5_enter_13 (by decide) (fun c_3 => ?_) (fun c_3 => ?_)
    · replace h := (if_pos c_3).symm.trans h
      refine lv_bipush (v := (-2 : Int32)) C.hx C.hb dX5_enter_24 (by decide) ?_
      exact g_iret C hB h dX5_enter_26
    · replace h := (if_neg c_3).symm.trans h
      refine lv_dload_n C.hx C.hb dX5_enter_16 rfl (lv_at hl 2 rfl) ?_
      refine lv_ldc2d C.hx C.hb C.hown (C.hts _ tw_723) dX5_enter_17 ?_
      refine lv_dcmp C.hx C.hb dX5_enter_20 ?_
      refine lv_if_le (tgt := 27) C.hx C.hb dX5_enter_21 (by decide) (fun c_4 => ?_) (fun c_4 => ?_)
      · replace h := (if_pos c_4).symm.trans h
        refine lv_dload_n C.hx C.hb dX5_enter_27 rfl (lv_at hl 2 rfl) ?_
        refine lv_ldc2d C.hx C.hb C.hown (C.hts _ tw_724) dX5_enter_28 ?_
        obtain ⟨c_5, h⟩ := ite_ck h
        refine lv_dmul C.hx C.hb dX5_enter_31 c_5 ?_
        refine lv_dstore (lv' := [(4, .double (FP.dmul v2 (4679240012837945344 : UInt64))), (0, .ref (ad 0)), (1, .int v1), (2, .double v2)]) C.hx C.hb dX5_enter_32 hl (by decide) rfl (fun ls hl => ?_)
        refine lv_dload C.hx C.hb dX5_enter_34 (lv_at hl 0 rfl) ?_
        refine lv_d2l C.hx C.hb dX5_enter_36 ?_
        refine lv_lstore (lv' := [(6, .long (FP.d2l (FP.dmul v2 (4679240012837945344 : UInt64)))), (4, .double (FP.dmul v2 (4679240012837945344 : UInt64))), (0, .ref (ad 0)), (1, .int v1), (2, .double v2)]) C.hx C.hb dX5_enter_37 hl (by decide) rfl (fun ls hl => ?_)
        refine lv_lload C.hx C.hb dX5_enter_39 (lv_at hl 0 rfl) ?_
        refine lv_l2d C.hx C.hb dX5_enter_41 ?_
        refine lv_dload C.hx C.hb dX5_enter_42 (lv_at hl 1 rfl) ?_
        refine lv_dcmp C.hx C.hb dX5_enter_44 ?_
        refine lv_if_ne (tgt := 58) C.hx C.hb dX5_enter_45 (by decide) (fun c_6 => ?_) (fun c_6 => ?_)
        · replace h := (if_neg c_6).symm.trans h
          refine lv_bipush (v := (-2 : Int32)) C.hx C.hb dX5_enter_58 (by decide) ?_
          exact g_iret C hB h dX5_enter_60
        · replace h := (if_pos c_6).symm.trans h
          refine lv_aload_n C.hx C.hb dX5_enter_48 rfl (lv_at hl 2 rfl) ?_
          refine lv_iload_n C.hx C.hb dX5_enter_49 rfl (lv_at hl 3 rfl) ?_
          refine lv_lload C.hx C.hb dX5_enter_50 (lv_at hl 0 rfl) ?_
          obtain ⟨q_7, I_7, J_7, hc_7, h⟩ := bnd_some h
          refine g_goi hB (g_runV C hB [.int v1, .long (FP.d2l (FP.dmul v2 (4679240012837945344 : UInt64)))] [] (cnX5_isOf l D cI cJ cZ ad H.size  hc_7) 0 rfl rfl tw_713 tw_715 tw_20 tw_38 tw_716 ⟨rfl, rfl⟩ hdX5_isOf ⟨Nat.le_of_ble_eq_true rfl, Nat.le_of_ble_eq_true rfl⟩ hl.1 rfl (Nat.le_of_ble_eq_true rfl) dX5_enter_52) (fun H locs hB => ?_)
          refine lv_if_ne (tgt := 61) C.hx C.hb dX5_enter_55 (by decide) (fun c_8 => ?_) (fun c_8 => ?_)
          · replace h := (if_neg c_8).symm.trans h
            refine lv_aload_n C.hx C.hb dX5_enter_61 rfl (lv_at hl 2 rfl) ?_
            refine mg_setTo C hB tw_567 dX5_enter_62 ?_
            refine lv_iload_n C.hx C.hb dX5_enter_65 rfl (lv_at hl 3 rfl) ?_
            refine lv_lload C.hx C.hb dX5_enter_66 (lv_at hl 0 rfl) ?_
            refine lv_l2i C.hx C.hb dX5_enter_68 rfl ?_
            obtain ⟨c_9, h⟩ := ite_ck h
            refine ma_setTo_st C hB c_9 dX5_enter_69 (fun H locs hB => ?_)
            refine lv_iconst (v := (1 : Int32)) C.hx C.hb dX5_enter_70 (by decide) ?_
            exact g_iret C hB h dX5_enter_71
          · replace h := (if_pos c_8).symm.trans h
            refine lv_bipush (v := (-2 : Int32)) C.hx C.hb dX5_enter_58 (by decide) ?_
            exact g_iret C hB h dX5_enter_60
      · replace h := (if_neg c_4).symm.trans h
        refine lv_bipush (v := (-2 : Int32)) C.hx C.hb dX5_enter_24 (by decide) ?_
        exact g_iret C hB h dX5_enter_26
set_option maxHeartbeats 4000000 in
set_option maxRecDepth 100000 in
theorem cnX5_enter (l : Launch) (D : va_G) (cI cJ cZ : ClassId) (ad : Nat → Nat) (sz : Nat) {v1 : Int32} {v2 : UInt64} {I : TI} {J : TJ} {z : Int32 × SS}  (h : fX5_enter v1 v2 I J = some z) : Met l yX5_enter (wsm yX5_enter cX5_enter 8 (some .int)) (rmd 3) (va_Pc [.ref (ad 0), .int v1, .double v2] (gPre D (mw cI cJ cZ ad) (mt cI cJ cZ) sz I J)) (gQi D (mw cI cJ cZ ad) (mt cI cJ cZ) (mL ad) sz z) 0 0 (gA (mL ad) sz) :=
  g_met (by decide) mw_WL (fun p e s m below meth c hsz C hB ls hl => by subst hsz; exact tX5_enter C hB  hl h) (Nat.le_of_ble_eq_true rfl)
theorem hdX5_exact : yX5_exact.cls = "BitTunerModel" ∧ yX5_exact.cls ≠ "java/lang/invoke/MethodHandle" ∧ yX5_exact.cls ≠ "java/lang/invoke/VarHandle" ∧ (parseMethodDescriptor yX5_exact.desc).map (fun d => d.parameters.length) = some 1 := by decide +kernel
def fX5_exact  (v1 : Int32) (I : TI) (J : TJ) : Option (Int64 × SS) :=
  bnd (fX5_isValue v1 I J) (fun q_1 I_1 J_1 =>
  if q_1 = 0 then
  bnd (fX5_no (-2 : Int32) I_1 J_1) (fun q_5 I_5 J_5 =>
  some (q_5, I_5, J_5))
  else
  bnd (fX5_runs v1 I_1 J_1) (fun q_3 I_3 J_3 =>
  if okx v1 then
  some (J_3 3 v1.toNatClampNeg, I_3, J_3)
  else none))
set_option maxHeartbeats 4000000 in
set_option maxRecDepth 100000 in
theorem tX5_exact {p : Program} {l : Launch} {e : Env} {s : State} {m : MethodId} {args : Array Value} {below : List Frame} {meth : Method} {c : Code} (C : KX p s m args meth c "BitTunerModel" cX5_exact 2 (some .long)) {D : va_G} {cI cJ cZ : ClassId} {ad : Nat → Nat} {z : Int64 × SS}   {H : Heap} {locs : List Loc} {ls : Array Slot} {I : TI} {J : TJ} {v1 : Int32} (hB : MB D cI cJ cZ ad s H locs I J)  (hl : lv_has ls 2 [(0, .ref (ad 0)), (1, .int v1)]) (h : fX5_exact v1 I J = some z) : W p l e (rmd 3) s m args below meth c H locs 0 0 (MQ below (gQl D (mw cI cJ cZ ad) (mt cI cJ cZ) (mL ad) s.heap.size z) args s 0 0 (gA (mL ad) s.heap.size)) (F0 m 0 ls []) := by
  unfold fX5_exact at h
  refine lv_aload_n C.hx C.hb dX5_exact_0 rfl (lv_at hl 0 rfl) ?_
  refine lv_iload_n C.hx C.hb dX5_exact_1 rfl (lv_at hl 1 rfl) ?_
  obtain ⟨q_1, I_1, J_1, hc_1, h⟩ := bnd_some h
  refine g_goi hB (g_runV C hB [.int v1] [] (cnX5_isValue l D cI cJ cZ ad H.size  hc_1) 0 rfl rfl tw_642 tw_644 tw_15 tw_38 tw_645 ⟨rfl, rfl⟩ hdX5_isValue ⟨Nat.le_of_ble_eq_true rfl, Nat.le_of_ble_eq_true rfl⟩ hl.1 rfl (Nat.le_of_ble_eq_true rfl) dX5_exact_2) (fun H locs hB => ?_)
  refine lv_if_ne (tgt := 14) C.hx C.hb dX5_exact_5 (by decide) (fun c_2 => ?_) (fun c_2 => ?_)
  · replace h := (if_neg c_2).symm.trans h
    refine lv_aload_n C.hx C.hb dX5_exact_14 rfl (lv_at hl 0 rfl) ?_
    refine lv_iload_n C.hx C.hb dX5_exact_15 rfl (lv_at hl 1 rfl) ?_
    obtain ⟨q_3, I_3, J_3, hc_3, h⟩ := bnd_some h
    refine g_gov hB (g_runV C hB [.int v1] [] (cnX5_runs l D cI cJ cZ ad H.size  hc_3) 0 rfl rfl tw_729 tw_731 tw_21 tw_38 tw_732 ⟨rfl, rfl⟩ hdX5_runs ⟨Nat.le_of_ble_eq_true rfl, Nat.le_of_ble_eq_true rfl⟩ hl.1 rfl (Nat.le_of_ble_eq_true rfl) dX5_exact_16) (fun H locs hB => ?_)
    refine lv_aload_n C.hx C.hb dX5_exact_19 rfl (lv_at hl 0 rfl) ?_
    refine mg_exacts C hB tw_569 dX5_exact_20 ?_
    refine lv_iload_n C.hx C.hb dX5_exact_23 rfl (lv_at hl 1 rfl) ?_
    obtain ⟨c_4, h⟩ := ite_ck h
    refine ma_exacts_ld C hB c_4 dX5_exact_24 ?_
    exact g_lret C hB h dX5_exact_25
  · replace h := (if_pos c_2).symm.trans h
    refine lv_bipush (v := (-2 : Int32)) C.hx C.hb dX5_exact_8 (by decide) ?_
    obtain ⟨q_5, I_5, J_5, hc_5, h⟩ := bnd_some h
    refine g_gol hB (g_runS C hB [.int (-2 : Int32)] [] (cnX5_no l D cI cJ cZ ad H.size  hc_5) tw_684 tw_685 tw_38 tw_686 ⟨rfl, rfl⟩ hdX5_no ⟨Nat.le_of_ble_eq_true rfl, Nat.le_of_ble_eq_true rfl⟩ hl.1 rfl (Nat.le_of_ble_eq_true rfl) dX5_exact_10) (fun H locs hB => ?_)
    exact g_lret C hB h dX5_exact_13
set_option maxHeartbeats 4000000 in
set_option maxRecDepth 100000 in
theorem cnX5_exact (l : Launch) (D : va_G) (cI cJ cZ : ClassId) (ad : Nat → Nat) (sz : Nat) {v1 : Int32} {I : TI} {J : TJ} {z : Int64 × SS}  (h : fX5_exact v1 I J = some z) : Met l yX5_exact (wsm yX5_exact cX5_exact 2 (some .long)) (rmd 3) (va_Pc [.ref (ad 0), .int v1] (gPre D (mw cI cJ cZ ad) (mt cI cJ cZ) sz I J)) (gQl D (mw cI cJ cZ ad) (mt cI cJ cZ) (mL ad) sz z) 0 0 (gA (mL ad) sz) :=
  g_met (by decide) mw_WL (fun p e s m below meth c hsz C hB ls hl => by subst hsz; exact tX5_exact C hB  hl h) (Nat.le_of_ble_eq_true rfl)
theorem hdX5_tuned : yX5_tuned.cls = "BitTunerModel" ∧ yX5_tuned.cls ≠ "java/lang/invoke/MethodHandle" ∧ yX5_tuned.cls ≠ "java/lang/invoke/VarHandle" ∧ (parseMethodDescriptor yX5_tuned.desc).map (fun d => d.parameters.length) = some 1 := by decide +kernel
def fX5_tuned  (v1 : Int32) (I : TI) (J : TJ) : Option (Int64 × SS) :=
  bnd (fX5_isValue v1 I J) (fun q_1 I_1 J_1 =>
  if q_1 = 0 then
  bnd (fX5_no (-2 : Int32) I_1 J_1) (fun q_5 I_5 J_5 =>
  some (q_5, I_5, J_5))
  else
  bnd (fX5_runs v1 I_1 J_1) (fun q_3 I_3 J_3 =>
  if okx v1 then
  some (J_3 4 v1.toNatClampNeg, I_3, J_3)
  else none))
set_option maxHeartbeats 4000000 in
set_option maxRecDepth 100000 in
theorem tX5_tuned {p : Program} {l : Launch} {e : Env} {s : State} {m : MethodId} {args : Array Value} {below : List Frame} {meth : Method} {c : Code} (C : KX p s m args meth c "BitTunerModel" cX5_tuned 2 (some .long)) {D : va_G} {cI cJ cZ : ClassId} {ad : Nat → Nat} {z : Int64 × SS}   {H : Heap} {locs : List Loc} {ls : Array Slot} {I : TI} {J : TJ} {v1 : Int32} (hB : MB D cI cJ cZ ad s H locs I J)  (hl : lv_has ls 2 [(0, .ref (ad 0)), (1, .int v1)]) (h : fX5_tuned v1 I J = some z) : W p l e (rmd 3) s m args below meth c H locs 0 0 (MQ below (gQl D (mw cI cJ cZ ad) (mt cI cJ cZ) (mL ad) s.heap.size z) args s 0 0 (gA (mL ad) s.heap.size)) (F0 m 0 ls []) := by
  unfold fX5_tuned at h
  refine lv_aload_n C.hx C.hb dX5_tuned_0 rfl (lv_at hl 0 rfl) ?_
  refine lv_iload_n C.hx C.hb dX5_tuned_1 rfl (lv_at hl 1 rfl) ?_
  obtain ⟨q_1, I_1, J_1, hc_1, h⟩ := bnd_some h
  refine g_goi hB (g_runV C hB [.int v1] [] (cnX5_isValue l D cI cJ cZ ad H.size  hc_1) 0 rfl rfl tw_642 tw_644 tw_15 tw_38 tw_645 ⟨rfl, rfl⟩ hdX5_isValue ⟨Nat.le_of_ble_eq_true rfl, Nat.le_of_ble_eq_true rfl⟩ hl.1 rfl (Nat.le_of_ble_eq_true rfl) dX5_tuned_2) (fun H locs hB => ?_)
  refine lv_if_ne (tgt := 14) C.hx C.hb dX5_tuned_5 (by decide) (fun c_2 => ?_) (fun c_2 => ?_)
  · replace h := (if_neg c_2).symm.trans h
    refine lv_aload_n C.hx C.hb dX5_tuned_14 rfl (lv_at hl 0 rfl) ?_
    refine lv_iload_n C.hx C.hb dX5_tuned_15 rfl (lv_at hl 1 rfl) ?_
    obtain ⟨q_3, I_3, J_3, hc_3, h⟩ := bnd_some h
    refine g_gov hB (g_runV C hB [.int v1] [] (cnX5_runs l D cI cJ cZ ad H.size  hc_3) 0 rfl rfl tw_729 tw_731 tw_21 tw_38 tw_732 ⟨rfl, rfl⟩ hdX5_runs ⟨Nat.le_of_ble_eq_true rfl, Nat.le_of_ble_eq_true rfl⟩ hl.1 rfl (Nat.le_of_ble_eq_true rfl) dX5_tuned_16) (fun H locs hB => ?_)
    refine lv_aload_n C.hx C.hb dX5_tuned_19 rfl (lv_at hl 0 rfl) ?_
    refine mg_tuneds C hB tw_570 dX5_tuned_20 ?_
    refine lv_iload_n C.hx C.hb dX5_tuned_23 rfl (lv_at hl 1 rfl) ?_
    obtain ⟨c_4, h⟩ := ite_ck h
    refine ma_tuneds_ld C hB c_4 dX5_tuned_24 ?_
    exact g_lret C hB h dX5_tuned_25
  · replace h := (if_pos c_2).symm.trans h
    refine lv_bipush (v := (-2 : Int32)) C.hx C.hb dX5_tuned_8 (by decide) ?_
    obtain ⟨q_5, I_5, J_5, hc_5, h⟩ := bnd_some h
    refine g_gol hB (g_runS C hB [.int (-2 : Int32)] [] (cnX5_no l D cI cJ cZ ad H.size  hc_5) tw_684 tw_685 tw_38 tw_686 ⟨rfl, rfl⟩ hdX5_no ⟨Nat.le_of_ble_eq_true rfl, Nat.le_of_ble_eq_true rfl⟩ hl.1 rfl (Nat.le_of_ble_eq_true rfl) dX5_tuned_10) (fun H locs hB => ?_)
    exact g_lret C hB h dX5_tuned_13
set_option maxHeartbeats 4000000 in
set_option maxRecDepth 100000 in
theorem cnX5_tuned (l : Launch) (D : va_G) (cI cJ cZ : ClassId) (ad : Nat → Nat) (sz : Nat) {v1 : Int32} {I : TI} {J : TJ} {z : Int64 × SS}  (h : fX5_tuned v1 I J = some z) : Met l yX5_tuned (wsm yX5_tuned cX5_tuned 2 (some .long)) (rmd 3) (va_Pc [.ref (ad 0), .int v1] (gPre D (mw cI cJ cZ ad) (mt cI cJ cZ) sz I J)) (gQl D (mw cI cJ cZ ad) (mt cI cJ cZ) (mL ad) sz z) 0 0 (gA (mL ad) sz) :=
  g_met (by decide) mw_WL (fun p e s m below meth c hsz C hB ls hl => by subst hsz; exact tX5_tuned C hB  hl h) (Nat.le_of_ble_eq_true rfl)
theorem hdX5_missNow : yX5_missNow.cls = "BitTunerModel" ∧ yX5_missNow.cls ≠ "java/lang/invoke/MethodHandle" ∧ yX5_missNow.cls ≠ "java/lang/invoke/VarHandle" ∧ (parseMethodDescriptor yX5_missNow.desc).map (fun d => d.parameters.length) = some 1 := by decide +kernel
def fX5_missNow  (v1 : Int32) (I : TI) (J : TJ) : Option (Int64 × SS) :=
  bnd (fX5_runs v1 I J) (fun q_1 I_1 J_1 =>
  if okx v1 then
  bnd (fX5_amount ((J_1 4 v1.toNatClampNeg) - (J_1 3 v1.toNatClampNeg)) I_1 J_1) (fun q_3 I_3 J_3 =>
  some (q_3, I_3, J_3))
  else none)
set_option maxHeartbeats 4000000 in
set_option maxRecDepth 100000 in
theorem tX5_missNow {p : Program} {l : Launch} {e : Env} {s : State} {m : MethodId} {args : Array Value} {below : List Frame} {meth : Method} {c : Code} (C : KX p s m args meth c "BitTunerModel" cX5_missNow 2 (some .long)) {D : va_G} {cI cJ cZ : ClassId} {ad : Nat → Nat} {z : Int64 × SS}   {H : Heap} {locs : List Loc} {ls : Array Slot} {I : TI} {J : TJ} {v1 : Int32} (hB : MB D cI cJ cZ ad s H locs I J)  (hl : lv_has ls 2 [(0, .ref (ad 0)), (1, .int v1)]) (h : fX5_missNow v1 I J = some z) : W p l e (rmd 3) s m args below meth c H locs 0 0 (MQ below (gQl D (mw cI cJ cZ ad) (mt cI cJ cZ) (mL ad) s.heap.size z) args s 0 0 (gA (mL ad) s.heap.size)) (F0 m 0 ls []) := by
  unfold fX5_missNow at h
  refine lv_aload_n C.hx C.hb dX5_missNow_0 rfl (lv_at hl 0 rfl) ?_
  refine lv_iload_n C.hx C.hb dX5_missNow_1 rfl (lv_at hl 1 rfl) ?_
  obtain ⟨q_1, I_1, J_1, hc_1, h⟩ := bnd_some h
  refine g_gov hB (g_runV C hB [.int v1] [] (cnX5_runs l D cI cJ cZ ad H.size  hc_1) 0 rfl rfl tw_729 tw_731 tw_21 tw_38 tw_732 ⟨rfl, rfl⟩ hdX5_runs ⟨Nat.le_of_ble_eq_true rfl, Nat.le_of_ble_eq_true rfl⟩ hl.1 rfl (Nat.le_of_ble_eq_true rfl) dX5_missNow_2) (fun H locs hB => ?_)
  refine lv_aload_n C.hx C.hb dX5_missNow_5 rfl (lv_at hl 0 rfl) ?_
  refine mg_tuneds C hB tw_570 dX5_missNow_6 ?_
  refine lv_iload_n C.hx C.hb dX5_missNow_9 rfl (lv_at hl 1 rfl) ?_
  obtain ⟨c_2, h⟩ := ite_ck h
  refine ma_tuneds_ld C hB c_2 dX5_missNow_10 ?_
  refine lv_aload_n C.hx C.hb dX5_missNow_11 rfl (lv_at hl 0 rfl) ?_
  refine mg_exacts C hB tw_569 dX5_missNow_12 ?_
  refine lv_iload_n C.hx C.hb dX5_missNow_15 rfl (lv_at hl 1 rfl) ?_
  refine ma_exacts_ld C hB c_2 dX5_missNow_16 ?_
  refine lv_lsub C.hx C.hb dX5_missNow_17 ?_
  obtain ⟨q_3, I_3, J_3, hc_3, h⟩ := bnd_some h
  refine g_gol hB (g_runS C hB [.long ((J_1 4 v1.toNatClampNeg) - (J_1 3 v1.toNatClampNeg))] [] (cnX5_amount l D cI cJ cZ ad H.size  hc_3) tw_653 tw_654 tw_38 tw_655 ⟨rfl, rfl⟩ hdX5_amount ⟨Nat.le_of_ble_eq_true rfl, Nat.le_of_ble_eq_true rfl⟩ hl.1 rfl (Nat.le_of_ble_eq_true rfl) dX5_missNow_18) (fun H locs hB => ?_)
  exact g_lret C hB h dX5_missNow_21
set_option maxHeartbeats 4000000 in
set_option maxRecDepth 100000 in
theorem cnX5_missNow (l : Launch) (D : va_G) (cI cJ cZ : ClassId) (ad : Nat → Nat) (sz : Nat) {v1 : Int32} {I : TI} {J : TJ} {z : Int64 × SS}  (h : fX5_missNow v1 I J = some z) : Met l yX5_missNow (wsm yX5_missNow cX5_missNow 2 (some .long)) (rmd 3) (va_Pc [.ref (ad 0), .int v1] (gPre D (mw cI cJ cZ ad) (mt cI cJ cZ) sz I J)) (gQl D (mw cI cJ cZ ad) (mt cI cJ cZ) (mL ad) sz z) 0 0 (gA (mL ad) sz) :=
  g_met (by decide) mw_WL (fun p e s m below meth c hsz C hB ls hl => by subst hsz; exact tX5_missNow C hB  hl h) (Nat.le_of_ble_eq_true rfl)
theorem hdX5_miss : yX5_miss.cls = "BitTunerModel" ∧ yX5_miss.cls ≠ "java/lang/invoke/MethodHandle" ∧ yX5_miss.cls ≠ "java/lang/invoke/VarHandle" ∧ (parseMethodDescriptor yX5_miss.desc).map (fun d => d.parameters.length) = some 1 := by decide +kernel
def fX5_miss  (v1 : Int32) (I : TI) (J : TJ) : Option (Int64 × SS) :=
  bnd (fX5_isValue v1 I J) (fun q_1 I_1 J_1 =>
  if q_1 = 0 then
  bnd (fX5_no (-2 : Int32) I_1 J_1) (fun q_3 I_3 J_3 =>
  some (q_3, I_3, J_3))
  else
  bnd (fX5_missNow v1 I_1 J_1) (fun q_4 I_4 J_4 =>
  some (q_4, I_4, J_4)))
set_option maxHeartbeats 4000000 in
set_option maxRecDepth 100000 in
theorem tX5_miss {p : Program} {l : Launch} {e : Env} {s : State} {m : MethodId} {args : Array Value} {below : List Frame} {meth : Method} {c : Code} (C : KX p s m args meth c "BitTunerModel" cX5_miss 2 (some .long)) {D : va_G} {cI cJ cZ : ClassId} {ad : Nat → Nat} {z : Int64 × SS}   {H : Heap} {locs : List Loc} {ls : Array Slot} {I : TI} {J : TJ} {v1 : Int32} (hB : MB D cI cJ cZ ad s H locs I J)  (hl : lv_has ls 2 [(0, .ref (ad 0)), (1, .int v1)]) (h : fX5_miss v1 I J = some z) : W p l e (rmd 4) s m args below meth c H locs 0 0 (MQ below (gQl D (mw cI cJ cZ ad) (mt cI cJ cZ) (mL ad) s.heap.size z) args s 0 0 (gA (mL ad) s.heap.size)) (F0 m 0 ls []) := by
  unfold fX5_miss at h
  refine lv_aload_n C.hx C.hb dX5_miss_0 rfl (lv_at hl 0 rfl) ?_
  refine lv_iload_n C.hx C.hb dX5_miss_1 rfl (lv_at hl 1 rfl) ?_
  obtain ⟨q_1, I_1, J_1, hc_1, h⟩ := bnd_some h
  refine g_goi hB (g_runV C hB [.int v1] [] (cnX5_isValue l D cI cJ cZ ad H.size  hc_1) 0 rfl rfl tw_642 tw_644 tw_15 tw_38 tw_645 ⟨rfl, rfl⟩ hdX5_isValue ⟨Nat.le_of_ble_eq_true rfl, Nat.le_of_ble_eq_true rfl⟩ hl.1 rfl (Nat.le_of_ble_eq_true rfl) dX5_miss_2) (fun H locs hB => ?_)
  refine lv_if_eq (tgt := 16) C.hx C.hb dX5_miss_5 (by decide) (fun c_2 => ?_) (fun c_2 => ?_)
  · replace h := (if_pos c_2).symm.trans h
    refine lv_bipush (v := (-2 : Int32)) C.hx C.hb dX5_miss_16 (by decide) ?_
    obtain ⟨q_3, I_3, J_3, hc_3, h⟩ := bnd_some h
    refine g_gol hB (g_runS C hB [.int (-2 : Int32)] [] (cnX5_no l D cI cJ cZ ad H.size  hc_3) tw_684 tw_685 tw_38 tw_686 ⟨rfl, rfl⟩ hdX5_no ⟨Nat.le_of_ble_eq_true rfl, Nat.le_of_ble_eq_true rfl⟩ hl.1 rfl (Nat.le_of_ble_eq_true rfl) dX5_miss_18) (fun H locs hB => ?_)
    exact g_lret C hB h dX5_miss_21
  · replace h := (if_neg c_2).symm.trans h
    refine lv_aload_n C.hx C.hb dX5_miss_8 rfl (lv_at hl 0 rfl) ?_
    refine lv_iload_n C.hx C.hb dX5_miss_9 rfl (lv_at hl 1 rfl) ?_
    obtain ⟨q_4, I_4, J_4, hc_4, h⟩ := bnd_some h
    refine g_gol hB (g_runV C hB [.int v1] [] (cnX5_missNow l D cI cJ cZ ad H.size  hc_4) 0 rfl rfl tw_752 tw_754 tw_22 tw_38 tw_755 ⟨rfl, rfl⟩ hdX5_missNow ⟨Nat.le_of_ble_eq_true rfl, Nat.le_of_ble_eq_true rfl⟩ hl.1 rfl (Nat.le_of_ble_eq_true rfl) dX5_miss_10) (fun H locs hB => ?_)
    refine lv_goto (tgt := 21) C.hx C.hb dX5_miss_13 (by decide) ?_
    exact g_lret C hB h dX5_miss_21
set_option maxHeartbeats 4000000 in
set_option maxRecDepth 100000 in
theorem cnX5_miss (l : Launch) (D : va_G) (cI cJ cZ : ClassId) (ad : Nat → Nat) (sz : Nat) {v1 : Int32} {I : TI} {J : TJ} {z : Int64 × SS}  (h : fX5_miss v1 I J = some z) : Met l yX5_miss (wsm yX5_miss cX5_miss 2 (some .long)) (rmd 4) (va_Pc [.ref (ad 0), .int v1] (gPre D (mw cI cJ cZ ad) (mt cI cJ cZ) sz I J)) (gQl D (mw cI cJ cZ ad) (mt cI cJ cZ) (mL ad) sz z) 0 0 (gA (mL ad) sz) :=
  g_met (by decide) mw_WL (fun p e s m below meth c hsz C hB ls hl => by subst hsz; exact tX5_miss C hB  hl h) (Nat.le_of_ble_eq_true rfl)
theorem hdX5_leave : yX5_leave.cls = "BitTunerModel" ∧ yX5_leave.cls ≠ "java/lang/invoke/MethodHandle" ∧ yX5_leave.cls ≠ "java/lang/invoke/VarHandle" ∧ (parseMethodDescriptor yX5_leave.desc).map (fun d => d.parameters.length) = some 1 := by decide +kernel
def fX5_leave  (v1 : Int32) (I : TI) (J : TJ) : Option (UInt64 × SS) :=
  bnd (fX5_isValue v1 I J) (fun q_1 I_1 J_1 =>
  if q_1 = 0 then
  some (FP.dconst0, I_1, J_1)
  else
  bnd (fX5_runs v1 I_1 J_1) (fun q_3 I_3 J_3 =>
  if okx v1 then
  if okd (FP.ddiv (FP.l2d (J_3 4 v1.toNatClampNeg)) (4679240012837945344 : UInt64)) then
  some (FP.ddiv (FP.l2d (J_3 4 v1.toNatClampNeg)) (4679240012837945344 : UInt64), I_3, J_3)
  else none
  else none))
set_option maxHeartbeats 4000000 in
set_option maxRecDepth 100000 in
theorem tX5_leave {p : Program} {l : Launch} {e : Env} {s : State} {m : MethodId} {args : Array Value} {below : List Frame} {meth : Method} {c : Code} (C : KX p s m args meth c "BitTunerModel" cX5_leave 2 (some .double)) {D : va_G} {cI cJ cZ : ClassId} {ad : Nat → Nat} {z : UInt64 × SS}   {H : Heap} {locs : List Loc} {ls : Array Slot} {I : TI} {J : TJ} {v1 : Int32} (hB : MB D cI cJ cZ ad s H locs I J)  (hl : lv_has ls 2 [(0, .ref (ad 0)), (1, .int v1)]) (h : fX5_leave v1 I J = some z) : W p l e (rmd 3) s m args below meth c H locs 0 0 (MQ below (gQd D (mw cI cJ cZ ad) (mt cI cJ cZ) (mL ad) s.heap.size z) args s 0 0 (gA (mL ad) s.heap.size)) (F0 m 0 ls []) := by
  unfold fX5_leave at h
  refine lv_aload_n C.hx C.hb dX5_leave_0 rfl (lv_at hl 0 rfl) ?_
  refine lv_iload_n C.hx C.hb dX5_leave_1 rfl (lv_at hl 1 rfl) ?_
  obtain ⟨q_1, I_1, J_1, hc_1, h⟩ := bnd_some h
  refine g_goi hB (g_runV C hB [.int v1] [] (cnX5_isValue l D cI cJ cZ ad H.size  hc_1) 0 rfl rfl tw_642 tw_644 tw_15 tw_38 tw_645 ⟨rfl, rfl⟩ hdX5_isValue ⟨Nat.le_of_ble_eq_true rfl, Nat.le_of_ble_eq_true rfl⟩ hl.1 rfl (Nat.le_of_ble_eq_true rfl) dX5_leave_2) (fun H locs hB => ?_)
  refine lv_if_ne (tgt := 10) C.hx C.hb dX5_leave_5 (by decide) (fun c_2 => ?_) (fun c_2 => ?_)
  · replace h := (if_neg c_2).symm.trans h
    refine lv_aload_n C.hx C.hb dX5_leave_10 rfl (lv_at hl 0 rfl) ?_
    refine lv_iload_n C.hx C.hb dX5_leave_11 rfl (lv_at hl 1 rfl) ?_
    obtain ⟨q_3, I_3, J_3, hc_3, h⟩ := bnd_some h
    refine g_gov hB (g_runV C hB [.int v1] [] (cnX5_runs l D cI cJ cZ ad H.size  hc_3) 0 rfl rfl tw_729 tw_731 tw_21 tw_38 tw_732 ⟨rfl, rfl⟩ hdX5_runs ⟨Nat.le_of_ble_eq_true rfl, Nat.le_of_ble_eq_true rfl⟩ hl.1 rfl (Nat.le_of_ble_eq_true rfl) dX5_leave_12) (fun H locs hB => ?_)
    refine lv_aload_n C.hx C.hb dX5_leave_15 rfl (lv_at hl 0 rfl) ?_
    refine mg_tuneds C hB tw_570 dX5_leave_16 ?_
    refine lv_iload_n C.hx C.hb dX5_leave_19 rfl (lv_at hl 1 rfl) ?_
    obtain ⟨c_4, h⟩ := ite_ck h
    refine ma_tuneds_ld C hB c_4 dX5_leave_20 ?_
    refine lv_l2d C.hx C.hb dX5_leave_21 ?_
    refine lv_ldc2d C.hx C.hb C.hown (C.hts _ tw_724) dX5_leave_22 ?_
    obtain ⟨c_5, h⟩ := ite_ck h
    refine lv_ddiv C.hx C.hb dX5_leave_25 c_5 ?_
    exact g_dret C hB h dX5_leave_26
  · replace h := (if_pos c_2).symm.trans h
    refine lv_dconst0 C.hx C.hb dX5_leave_8 ?_
    exact g_dret C hB h dX5_leave_9
set_option maxHeartbeats 4000000 in
set_option maxRecDepth 100000 in
theorem cnX5_leave (l : Launch) (D : va_G) (cI cJ cZ : ClassId) (ad : Nat → Nat) (sz : Nat) {v1 : Int32} {I : TI} {J : TJ} {z : UInt64 × SS}  (h : fX5_leave v1 I J = some z) : Met l yX5_leave (wsm yX5_leave cX5_leave 2 (some .double)) (rmd 3) (va_Pc [.ref (ad 0), .int v1] (gPre D (mw cI cJ cZ ad) (mt cI cJ cZ) sz I J)) (gQd D (mw cI cJ cZ ad) (mt cI cJ cZ) (mL ad) sz z) 0 0 (gA (mL ad) sz) :=
  g_met (by decide) mw_WL (fun p e s m below meth c hsz C hB ls hl => by subst hsz; exact tX5_leave C hB  hl h) (Nat.le_of_ble_eq_true rfl)
theorem hdX5_narrow : yX5_narrow.cls = "BitTunerModel" ∧ yX5_narrow.cls ≠ "java/lang/invoke/MethodHandle" ∧ yX5_narrow.cls ≠ "java/lang/invoke/VarHandle" ∧ (parseMethodDescriptor yX5_narrow.desc).map (fun d => d.parameters.length) = some 1 := by decide +kernel
def fX5_narrow  (v1 : Int32) (I : TI) (J : TJ) : Option (UInt32 × SS) :=
  bnd (fX5_isValue v1 I J) (fun q_1 I_1 J_1 =>
  if q_1 = 0 then
  some (FP.fconst0, I_1, J_1)
  else
  bnd (fX5_runs v1 I_1 J_1) (fun q_3 I_3 J_3 =>
  if okx v1 then
  if okd (FP.ddiv (FP.l2d (J_3 4 v1.toNatClampNeg)) (4679240012837945344 : UInt64)) then
  if okf (FP.d2f (FP.ddiv (FP.l2d (J_3 4 v1.toNatClampNeg)) (4679240012837945344 : UInt64))) then
  some (FP.d2f (FP.ddiv (FP.l2d (J_3 4 v1.toNatClampNeg)) (4679240012837945344 : UInt64)), I_3, J_3)
  else none
  else none
  else none))
set_option maxHeartbeats 4000000 in
set_option maxRecDepth 100000 in
theorem tX5_narrow {p : Program} {l : Launch} {e : Env} {s : State} {m : MethodId} {args : Array Value} {below : List Frame} {meth : Method} {c : Code} (C : KX p s m args meth c "BitTunerModel" cX5_narrow 2 (some .float)) {D : va_G} {cI cJ cZ : ClassId} {ad : Nat → Nat} {z : UInt32 × SS}   {H : Heap} {locs : List Loc} {ls : Array Slot} {I : TI} {J : TJ} {v1 : Int32} (hB : MB D cI cJ cZ ad s H locs I J)  (hl : lv_has ls 2 [(0, .ref (ad 0)), (1, .int v1)]) (h : fX5_narrow v1 I J = some z) : W p l e (rmd 3) s m args below meth c H locs 0 0 (MQ below (gQf D (mw cI cJ cZ ad) (mt cI cJ cZ) (mL ad) s.heap.size z) args s 0 0 (gA (mL ad) s.heap.size)) (F0 m 0 ls []) := by
  unfold fX5_narrow at h
  refine lv_aload_n C.hx C.hb dX5_narrow_0 rfl (lv_at hl 0 rfl) ?_
  refine lv_iload_n C.hx C.hb dX5_narrow_1 rfl (lv_at hl 1 rfl) ?_
  obtain ⟨q_1, I_1, J_1, hc_1, h⟩ := bnd_some h
  refine g_goi hB (g_runV C hB [.int v1] [] (cnX5_isValue l D cI cJ cZ ad H.size  hc_1) 0 rfl rfl tw_642 tw_644 tw_15 tw_38 tw_645 ⟨rfl, rfl⟩ hdX5_isValue ⟨Nat.le_of_ble_eq_true rfl, Nat.le_of_ble_eq_true rfl⟩ hl.1 rfl (Nat.le_of_ble_eq_true rfl) dX5_narrow_2) (fun H locs hB => ?_)
  refine lv_if_ne (tgt := 10) C.hx C.hb dX5_narrow_5 (by decide) (fun c_2 => ?_) (fun c_2 => ?_)
  · replace h := (if_neg c_2).symm.trans h
    refine lv_aload_n C.hx C.hb dX5_narrow_10 rfl (lv_at hl 0 rfl) ?_
    refine lv_iload_n C.hx C.hb dX5_narrow_11 rfl (lv_at hl 1 rfl) ?_
    obtain ⟨q_3, I_3, J_3, hc_3, h⟩ := bnd_some h
    refine g_gov hB (g_runV C hB [.int v1] [] (cnX5_runs l D cI cJ cZ ad H.size  hc_3) 0 rfl rfl tw_729 tw_731 tw_21 tw_38 tw_732 ⟨rfl, rfl⟩ hdX5_runs ⟨Nat.le_of_ble_eq_true rfl, Nat.le_of_ble_eq_true rfl⟩ hl.1 rfl (Nat.le_of_ble_eq_true rfl) dX5_narrow_12) (fun H locs hB => ?_)
    refine lv_aload_n C.hx C.hb dX5_narrow_15 rfl (lv_at hl 0 rfl) ?_
    refine mg_tuneds C hB tw_570 dX5_narrow_16 ?_
    refine lv_iload_n C.hx C.hb dX5_narrow_19 rfl (lv_at hl 1 rfl) ?_
    obtain ⟨c_4, h⟩ := ite_ck h
    refine ma_tuneds_ld C hB c_4 dX5_narrow_20 ?_
    refine lv_l2d C.hx C.hb dX5_narrow_21 ?_
    refine lv_ldc2d C.hx C.hb C.hown (C.hts _ tw_724) dX5_narrow_22 ?_
    obtain ⟨c_5, h⟩ := ite_ck h
    refine lv_ddiv C.hx C.hb dX5_narrow_25 c_5 ?_
    obtain ⟨c_6, h⟩ := ite_ck h
    refine lv_d2f C.hx C.hb dX5_narrow_26 c_6 ?_
    exact g_fret C hB h dX5_narrow_27
  · replace h := (if_pos c_2).symm.trans h
    refine lv_fconst0 C.hx C.hb dX5_narrow_8 ?_
    exact g_fret C hB h dX5_narrow_9
set_option maxHeartbeats 4000000 in
set_option maxRecDepth 100000 in
theorem cnX5_narrow (l : Launch) (D : va_G) (cI cJ cZ : ClassId) (ad : Nat → Nat) (sz : Nat) {v1 : Int32} {I : TI} {J : TJ} {z : UInt32 × SS}  (h : fX5_narrow v1 I J = some z) : Met l yX5_narrow (wsm yX5_narrow cX5_narrow 2 (some .float)) (rmd 3) (va_Pc [.ref (ad 0), .int v1] (gPre D (mw cI cJ cZ ad) (mt cI cJ cZ) sz I J)) (gQf D (mw cI cJ cZ ad) (mt cI cJ cZ) (mL ad) sz z) 0 0 (gA (mL ad) sz) :=
  g_met (by decide) mw_WL (fun p e s m below meth c hsz C hB ls hl => by subst hsz; exact tX5_narrow C hB  hl h) (Nat.le_of_ble_eq_true rfl)
theorem hdX5_rows : yX5_rows.cls = "BitTunerModel" ∧ yX5_rows.cls ≠ "java/lang/invoke/MethodHandle" ∧ yX5_rows.cls ≠ "java/lang/invoke/VarHandle" ∧ (parseMethodDescriptor yX5_rows.desc).map (fun d => d.parameters.length) = some 0 := by decide +kernel
def fX5_rows_4  : Nat → Int64 → Int32 → TI → TJ → Option (Int32 × SS)
  | 0, _, _, _, _ => none
  | n + 1, v1, v3, I, J =>
    if (I 13 0) ≤ v3 then
    some (v1.toInt32, I, J)
    else
    if okx v3 then
    if (I 0 v3.toNatClampNeg) = 0 then
    bnd (fX5_min (1000000 : Int64) (v1 * ((((J 1 v3.toNatClampNeg) - (J 0 v3.toNatClampNeg)) / (4096 : Int64)) + (1 : Int64))) I J) (fun q_4 I_4 J_4 =>
    fX5_rows_4 n q_4 (v3 + (1 : Int32)) I_4 J_4)
    else
    fX5_rows_4 n v1 (v3 + (1 : Int32)) I J
    else none
theorem eX5_rows_4  (n : Nat) (v1 : Int64) (v3 : Int32) (I : TI) (J : TJ) : fX5_rows_4 (n + 1) v1 v3 I J = (
    if (I 13 0) ≤ v3 then
    some (v1.toInt32, I, J)
    else
    if okx v3 then
    if (I 0 v3.toNatClampNeg) = 0 then
    bnd (fX5_min (1000000 : Int64) (v1 * ((((J 1 v3.toNatClampNeg) - (J 0 v3.toNatClampNeg)) / (4096 : Int64)) + (1 : Int64))) I J) (fun q_4 I_4 J_4 =>
    fX5_rows_4 n q_4 (v3 + (1 : Int32)) I_4 J_4)
    else
    fX5_rows_4 n v1 (v3 + (1 : Int32)) I J
    else none) := rfl
set_option maxHeartbeats 4000000 in
set_option maxRecDepth 100000 in
theorem tX5_rows_4 {p : Program} {l : Launch} {e : Env} {s : State} {m : MethodId} {args : Array Value} {below : List Frame} {meth : Method} {c : Code} (C : KX p s m args meth c "BitTunerModel" cX5_rows 4 (some .int)) {D : va_G} {cI cJ cZ : ClassId} {ad : Nat → Nat} {z : Int32 × SS}   : ∀ (n : Nat), ∀ {H : Heap} {locs : List Loc} {ls : Array Slot} {I : TI} {J : TJ} {v1 : Int64} {v3 : Int32}, MB D cI cJ cZ ad s H locs I J → lv_has ls 4 [(0, .ref (ad 0)), (1, .long v1), (3, .int v3)] → fX5_rows_4 n v1 v3 I J = some z → W p l e (rmd 1) s m args below meth c H locs 0 0 (MQ below (gQi D (mw cI cJ cZ ad) (mt cI cJ cZ) (mL ad) s.heap.size z) args s 0 0 (gA (mL ad) s.heap.size)) (F0 m 4 ls []) := by
  intro n
  induction n with
  | zero =>
    intro H locs ls I J v1 v3 hB  hl h
    have h : (none : Option (Int32 × SS)) = some z := h
    cases h
  | succ n ih =>
    intro H locs ls I J v1 v3 hB  hl h
    replace h := (eX5_rows_4 n v1 v3 I J).symm.trans h
    refine lv_iload_n C.hx C.hb dX5_rows_4 rfl (lv_at hl 2 rfl) ?_
    refine lv_aload_n C.hx C.hb dX5_rows_5 rfl (lv_at hl 0 rfl) ?_
    refine mg_values C hB tw_557 dX5_rows_6 ?_
    refine lv_icmp_ge (tgt := 59) C.hx C.hb dX5_rows_9 (by decide) (fun c_1 => ?_) (fun c_1 => ?_)
    · replace h := (if_pos c_1).symm.trans h
      refine lv_lload_n C.hx C.hb dX5_rows_59 rfl (lv_at hl 1 rfl) ?_
      refine lv_l2i C.hx C.hb dX5_rows_60 rfl ?_
      exact g_iret C hB h dX5_rows_61
    · replace h := (if_neg c_1).symm.trans h
      refine lv_aload_n C.hx C.hb dX5_rows_12 rfl (lv_at hl 0 rfl) ?_
      refine mg_kinds C hB tw_558 dX5_rows_13 ?_
      refine lv_iload_n C.hx C.hb dX5_rows_16 rfl (lv_at hl 2 rfl) ?_
      obtain ⟨c_2, h⟩ := ite_ck h
      refine ma_kinds_ld C hB c_2 dX5_rows_17 ?_
      refine lv_if_ne (tgt := 51) C.hx C.hb dX5_rows_18 (by decide) (fun c_3 => ?_) (fun c_3 => ?_)
      · replace h := (if_neg c_3).symm.trans h
        refine lv_lload_n C.hx C.hb dX5_rows_51 rfl (lv_at hl 1 rfl) ?_
        refine lv_lstore_n (lv' := [(1, .long v1), (0, .ref (ad 0)), (3, .int v3)]) C.hx C.hb dX5_rows_52 rfl hl (by decide) rfl (fun ls hl => ?_)
        refine lv_iinc (v := v3 + (1 : Int32)) (lv' := [(3, .int (v3 + (1 : Int32))), (1, .long v1), (0, .ref (ad 0))]) C.hx C.hb dX5_rows_53 hl (k := 2) rfl rfl (by decide) rfl (fun ls hl => ?_)
        refine lv_goto (tgt := 4) C.hx C.hb dX5_rows_56 (by decide) ?_
        exact ih hB (lv_sub hl [2, 1, 0] rfl) h
      · replace h := (if_pos c_3).symm.trans h
        refine lv_ldc2 C.hx C.hb C.hown (C.hts _ tw_768) dX5_rows_21 ?_
        refine lv_lload_n C.hx C.hb dX5_rows_24 rfl (lv_at hl 1 rfl) ?_
        refine lv_aload_n C.hx C.hb dX5_rows_25 rfl (lv_at hl 0 rfl) ?_
        refine mg_mosts C hB tw_563 dX5_rows_26 ?_
        refine lv_iload_n C.hx C.hb dX5_rows_29 rfl (lv_at hl 2 rfl) ?_
        refine ma_mosts_ld C hB c_2 dX5_rows_30 ?_
        refine lv_aload_n C.hx C.hb dX5_rows_31 rfl (lv_at hl 0 rfl) ?_
        refine mg_leasts C hB tw_562 dX5_rows_32 ?_
        refine lv_iload_n C.hx C.hb dX5_rows_35 rfl (lv_at hl 2 rfl) ?_
        refine ma_leasts_ld C hB c_2 dX5_rows_36 ?_
        refine lv_lsub C.hx C.hb dX5_rows_37 ?_
        refine lv_ldc2 C.hx C.hb C.hown (C.hts _ tw_717) dX5_rows_38 ?_
        refine lv_ldiv C.hx C.hb dX5_rows_41 (by decide) ?_
        refine lv_lconst (v := (1 : Int64)) C.hx C.hb dX5_rows_42 (by decide) ?_
        refine lv_ladd C.hx C.hb dX5_rows_43 ?_
        refine lv_lmul C.hx C.hb dX5_rows_44 ?_
        obtain ⟨q_4, I_4, J_4, hc_4, h⟩ := bnd_some h
        refine g_gol hB (g_runS C hB [.long (1000000 : Int64), .long (v1 * ((((J 1 v3.toNatClampNeg) - (J 0 v3.toNatClampNeg)) / (4096 : Int64)) + (1 : Int64)))] [] (cnX5_min l D cI cJ cZ ad H.size  hc_4) tw_649 tw_650 tw_38 tw_651 ⟨rfl, rfl⟩ hdX5_min ⟨Nat.le_of_ble_eq_true rfl, Nat.le_of_ble_eq_true rfl⟩ hl.1 rfl (Nat.le_of_ble_eq_true rfl) dX5_rows_45) (fun H locs hB => ?_)
        refine lv_goto (tgt := 52) C.hx C.hb dX5_rows_48 (by decide) ?_
        refine lv_lstore_n (lv' := [(1, .long q_4), (0, .ref (ad 0)), (3, .int v3)]) C.hx C.hb dX5_rows_52 rfl hl (by decide) rfl (fun ls hl => ?_)
        refine lv_iinc (v := v3 + (1 : Int32)) (lv' := [(3, .int (v3 + (1 : Int32))), (1, .long q_4), (0, .ref (ad 0))]) C.hx C.hb dX5_rows_53 hl (k := 2) rfl rfl (by decide) rfl (fun ls hl => ?_)
        refine lv_goto (tgt := 4) C.hx C.hb dX5_rows_56 (by decide) ?_
        exact ih hB (lv_sub hl [2, 1, 0] rfl) h
def fX5_rows   (I : TI) (J : TJ) : Option (Int32 × SS) :=
  fX5_rows_4 fuel (1 : Int64) (0 : Int32) I J
set_option maxHeartbeats 4000000 in
set_option maxRecDepth 100000 in
theorem tX5_rows {p : Program} {l : Launch} {e : Env} {s : State} {m : MethodId} {args : Array Value} {below : List Frame} {meth : Method} {c : Code} (C : KX p s m args meth c "BitTunerModel" cX5_rows 4 (some .int)) {D : va_G} {cI cJ cZ : ClassId} {ad : Nat → Nat} {z : Int32 × SS}   {H : Heap} {locs : List Loc} {ls : Array Slot} {I : TI} {J : TJ}  (hB : MB D cI cJ cZ ad s H locs I J)  (hl : lv_has ls 4 [(0, .ref (ad 0))]) (h : fX5_rows I J = some z) : W p l e (rmd 1) s m args below meth c H locs 0 0 (MQ below (gQi D (mw cI cJ cZ ad) (mt cI cJ cZ) (mL ad) s.heap.size z) args s 0 0 (gA (mL ad) s.heap.size)) (F0 m 0 ls []) := by
  unfold fX5_rows at h
  refine lv_lconst (v := (1 : Int64)) C.hx C.hb dX5_rows_0 (by decide) ?_
  refine lv_lstore_n (lv' := [(1, .long (1 : Int64)), (0, .ref (ad 0))]) C.hx C.hb dX5_rows_1 rfl hl (by decide) rfl (fun ls hl => ?_)
  refine lv_iconst (v := (0 : Int32)) C.hx C.hb dX5_rows_2 (by decide) ?_
  refine lv_istore_n (lv' := [(3, .int (0 : Int32)), (1, .long (1 : Int64)), (0, .ref (ad 0))]) C.hx C.hb dX5_rows_3 rfl hl (by decide) rfl (fun ls hl => ?_)
  exact tX5_rows_4 C  fuel hB (lv_sub hl [2, 1, 0] rfl) h
set_option maxHeartbeats 4000000 in
set_option maxRecDepth 100000 in
theorem cnX5_rows (l : Launch) (D : va_G) (cI cJ cZ : ClassId) (ad : Nat → Nat) (sz : Nat)  {I : TI} {J : TJ} {z : Int32 × SS}  (h : fX5_rows I J = some z) : Met l yX5_rows (wsm yX5_rows cX5_rows 4 (some .int)) (rmd 1) (va_Pc [.ref (ad 0)] (gPre D (mw cI cJ cZ ad) (mt cI cJ cZ) sz I J)) (gQi D (mw cI cJ cZ ad) (mt cI cJ cZ) (mL ad) sz z) 0 0 (gA (mL ad) sz) :=
  g_met (by decide) mw_WL (fun p e s m below meth c hsz C hB ls hl => by subst hsz; exact tX5_rows C hB  hl h) (Nat.le_of_ble_eq_true rfl)
