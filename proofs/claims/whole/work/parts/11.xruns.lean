/-! Runs: pure functions out of the bytecode, and the rows that tie them to the machine (by wip/gen/decomp.py) -/
theorem hdX1_exactly : yX1_exactly.cls = "BitTuner$Runs" ∧ yX1_exactly.cls ≠ "java/lang/invoke/MethodHandle" ∧ yX1_exactly.cls ≠ "java/lang/invoke/VarHandle" ∧ (parseMethodDescriptor yX1_exactly.desc).map (fun d => d.parameters.length) = some 3 := by decide +kernel
def fX1_exactly  (v0 : Int32) (v1 : Int64) (v3 : Int64) (I : TI) (J : TJ) : Option (Int64 × SS) :=
  bnd (fX4_result v0 v1 v3 I J) (fun q_1 I_1 J_1 =>
  if v0 = (4 : Int32) then
  some (q_1 >>> ((16 : Int32).toInt64 &&& 63), I_1, J_1)
  else
  some (q_1, I_1, J_1))
set_option maxHeartbeats 4000000 in
set_option maxRecDepth 100000 in
theorem tX1_exactly {p : Program} {l : Launch} {e : Env} {s : State} {m : MethodId} {args : Array Value} {below : List Frame} {meth : Method} {c : Code} (C : KX p s m args meth c "BitTuner$Runs" cX1_exactly 7 (some .long)) {D : va_G} {cI cJ cV : ClassId} {ad : Nat → Nat} {z : Int64 × SS}   {H : Heap} {locs : List Loc} {ls : Array Slot} {I : TI} {J : TJ} {v0 : Int32} {v1 : Int64} {v3 : Int64} (hB : XB D cI cJ cV ad s H locs I J)  (hl : lv_has ls 7 [(0, .int v0), (1, .long v1), (3, .long v3)]) (h : fX1_exactly v0 v1 v3 I J = some z) : W p l e (rmd 2) s m args below meth c H locs 0 0 (MQ below (gQl D (xw cI cJ cV ad) (xt cI cJ cV) (xL ad) s.heap.size z) args s 0 0 (gA (xL ad) s.heap.size)) (F0 m 0 ls []) := by
  unfold fX1_exactly at h
  refine lv_iload_n C.hx C.hb dX1_exactly_0 rfl (lv_at hl 0 rfl) ?_
  refine lv_lload_n C.hx C.hb dX1_exactly_1 rfl (lv_at hl 1 rfl) ?_
  refine lv_lload_n C.hx C.hb dX1_exactly_2 rfl (lv_at hl 2 rfl) ?_
  obtain ⟨q_1, I_1, J_1, hc_1, h⟩ := bnd_some h
  refine g_gol hB (g_runSN C hB [.int v0, .long v1, .long v3] [] (host := "BitTuner") (cnX4_result l D cI cJ cV ad H.size  hc_1) hB.N.2.2.2.2 tw_265 tw_33 tw_266 ⟨rfl, rfl⟩ hdX4_result.2 ⟨Nat.le_of_ble_eq_true rfl, Nat.le_of_ble_eq_true rfl⟩ hl.1 rfl (Nat.le_of_ble_eq_true rfl) dX1_exactly_3) (fun H locs hB => ?_)
  refine lv_lstore (lv' := [(5, .long q_1), (0, .int v0), (1, .long v1), (3, .long v3)]) C.hx C.hb dX1_exactly_6 hl (by decide) rfl (fun ls hl => ?_)
  refine lv_iload_n C.hx C.hb dX1_exactly_8 rfl (lv_at hl 1 rfl) ?_
  refine lv_iconst (v := (4 : Int32)) C.hx C.hb dX1_exactly_9 (by decide) ?_
  refine lv_icmp_ne (tgt := 21) C.hx C.hb dX1_exactly_10 (by decide) (fun c_2 => ?_) (fun c_2 => ?_)
  · replace h := (if_neg c_2).symm.trans h
    refine lv_lload C.hx C.hb dX1_exactly_21 (lv_at hl 0 rfl) ?_
    exact g_lret C hB h dX1_exactly_23
  · replace h := (if_pos c_2).symm.trans h
    refine lv_lload C.hx C.hb dX1_exactly_13 (lv_at hl 0 rfl) ?_
    refine lv_bipush (v := (16 : Int32)) C.hx C.hb dX1_exactly_15 (by decide) ?_
    refine lv_lshr C.hx C.hb dX1_exactly_17 rfl ?_
    refine lv_goto (tgt := 23) C.hx C.hb dX1_exactly_18 (by decide) ?_
    exact g_lret C hB h dX1_exactly_23
set_option maxHeartbeats 4000000 in
set_option maxRecDepth 100000 in
theorem cnX1_exactly (l : Launch) (D : va_G) (cI cJ cV : ClassId) (ad : Nat → Nat) (sz : Nat) {v0 : Int32} {v1 : Int64} {v3 : Int64} {I : TI} {J : TJ} {z : Int64 × SS}  (h : fX1_exactly v0 v1 v3 I J = some z) : Met l yX1_exactly (wsm yX1_exactly cX1_exactly 7 (some .long)) (rmd 2) (va_Pc [.int v0, .long v1, .long v3] (gPre D (xw cI cJ cV ad) (xt cI cJ cV) sz I J)) (gQl D (xw cI cJ cV ad) (xt cI cJ cV) (xL ad) sz z) 0 0 (gA (xL ad) sz) :=
  g_met (by decide) xw_WL (fun p e s m below meth c hsz C hB ls hl => by subst hsz; exact tX1_exactly C hB  hl h) (Nat.le_of_ble_eq_true rfl)
theorem hdX1_rounded : yX1_rounded.cls = "BitTuner$Runs" ∧ yX1_rounded.cls ≠ "java/lang/invoke/MethodHandle" ∧ yX1_rounded.cls ≠ "java/lang/invoke/VarHandle" ∧ (parseMethodDescriptor yX1_rounded.desc).map (fun d => d.parameters.length) = some 3 := by decide +kernel
def fX1_rounded_36  (v0 : Int64) (v2 : Int32) (I : TI) (J : TJ) : Option (Int64 × SS) :=
  some (((v0 + (0 : Int64)) >>> (v2.toInt64 &&& 63)) <<< (v2.toInt64 &&& 63), I, J)
set_option maxHeartbeats 4000000 in
set_option maxRecDepth 100000 in
theorem tX1_rounded_36 {p : Program} {l : Launch} {e : Env} {s : State} {m : MethodId} {args : Array Value} {below : List Frame} {meth : Method} {c : Code} (C : KX p s m args meth c "BitTuner$Runs" cX1_rounded 6 (some .long)) {D : va_G} {cI cJ cV : ClassId} {ad : Nat → Nat} {z : Int64 × SS}   {H : Heap} {locs : List Loc} {ls : Array Slot} {I : TI} {J : TJ} {v0 : Int64} {v2 : Int32} (hB : XB D cI cJ cV ad s H locs I J)  (hl : lv_has ls 6 [(0, .long v0), (2, .int v2)]) (h : fX1_rounded_36 v0 v2 I J = some z) : W p l e (rmd 0) s m args below meth c H locs 0 0 (MQ below (gQl D (xw cI cJ cV ad) (xt cI cJ cV) (xL ad) s.heap.size z) args s 0 0 (gA (xL ad) s.heap.size)) (F0 m 36 ls []) := by
  unfold fX1_rounded_36 at h
  refine lv_lconst (v := (0 : Int64)) C.hx C.hb dX1_rounded_36 (by decide) ?_
  refine lv_lstore (lv' := [(4, .long (0 : Int64)), (0, .long v0), (2, .int v2)]) C.hx C.hb dX1_rounded_37 hl (by decide) rfl (fun ls hl => ?_)
  refine lv_lload_n C.hx C.hb dX1_rounded_39 rfl (lv_at hl 1 rfl) ?_
  refine lv_lload C.hx C.hb dX1_rounded_40 (lv_at hl 0 rfl) ?_
  refine lv_ladd C.hx C.hb dX1_rounded_42 ?_
  refine lv_iload_n C.hx C.hb dX1_rounded_43 rfl (lv_at hl 2 rfl) ?_
  refine lv_lshr C.hx C.hb dX1_rounded_44 rfl ?_
  refine lv_iload_n C.hx C.hb dX1_rounded_45 rfl (lv_at hl 2 rfl) ?_
  refine lv_lshl C.hx C.hb dX1_rounded_46 rfl ?_
  exact g_lret C hB h dX1_rounded_47
def fX1_rounded_19  (v0 : Int64) (v2 : Int32) (v3 : Int32) (I : TI) (J : TJ) : Option (Int64 × SS) :=
  if v3 = (1 : Int32) then
  if v2 ≤ 0 then
  fX1_rounded_36 v0 v2 I J
  else
  some (((v0 + ((1 : Int64) <<< ((v2 - (1 : Int32)).toInt64 &&& 63))) >>> (v2.toInt64 &&& 63)) <<< (v2.toInt64 &&& 63), I, J)
  else
  fX1_rounded_36 v0 v2 I J
set_option maxHeartbeats 4000000 in
set_option maxRecDepth 100000 in
theorem tX1_rounded_19 {p : Program} {l : Launch} {e : Env} {s : State} {m : MethodId} {args : Array Value} {below : List Frame} {meth : Method} {c : Code} (C : KX p s m args meth c "BitTuner$Runs" cX1_rounded 6 (some .long)) {D : va_G} {cI cJ cV : ClassId} {ad : Nat → Nat} {z : Int64 × SS}   {H : Heap} {locs : List Loc} {ls : Array Slot} {I : TI} {J : TJ} {v0 : Int64} {v2 : Int32} {v3 : Int32} (hB : XB D cI cJ cV ad s H locs I J)  (hl : lv_has ls 6 [(0, .long v0), (2, .int v2), (3, .int v3)]) (h : fX1_rounded_19 v0 v2 v3 I J = some z) : W p l e (rmd 0) s m args below meth c H locs 0 0 (MQ below (gQl D (xw cI cJ cV ad) (xt cI cJ cV) (xL ad) s.heap.size z) args s 0 0 (gA (xL ad) s.heap.size)) (F0 m 19 ls []) := by
  unfold fX1_rounded_19 at h
  refine lv_iload_n C.hx C.hb dX1_rounded_19 rfl (lv_at hl 2 rfl) ?_
  refine lv_iconst (v := (1 : Int32)) C.hx C.hb dX1_rounded_20 (by decide) ?_
  refine lv_icmp_ne (tgt := 36) C.hx C.hb dX1_rounded_21 (by decide) (fun c_2 => ?_) (fun c_2 => ?_)
  · replace h := (if_neg c_2).symm.trans h
    exact tX1_rounded_36 C  hB (lv_sub hl [0, 1] rfl) h
  · replace h := (if_pos c_2).symm.trans h
    refine lv_iload_n C.hx C.hb dX1_rounded_24 rfl (lv_at hl 1 rfl) ?_
    refine lv_if_le (tgt := 36) C.hx C.hb dX1_rounded_25 (by decide) (fun c_3 => ?_) (fun c_3 => ?_)
    · replace h := (if_pos c_3).symm.trans h
      exact tX1_rounded_36 C  hB (lv_sub hl [0, 1] rfl) h
    · replace h := (if_neg c_3).symm.trans h
      refine lv_lconst (v := (1 : Int64)) C.hx C.hb dX1_rounded_28 (by decide) ?_
      refine lv_iload_n C.hx C.hb dX1_rounded_29 rfl (lv_at hl 1 rfl) ?_
      refine lv_iconst (v := (1 : Int32)) C.hx C.hb dX1_rounded_30 (by decide) ?_
      refine lv_isub C.hx C.hb dX1_rounded_31 ?_
      refine lv_lshl C.hx C.hb dX1_rounded_32 rfl ?_
      refine lv_goto (tgt := 37) C.hx C.hb dX1_rounded_33 (by decide) ?_
      refine lv_lstore (lv' := [(4, .long ((1 : Int64) <<< ((v2 - (1 : Int32)).toInt64 &&& 63))), (0, .long v0), (2, .int v2), (3, .int v3)]) C.hx C.hb dX1_rounded_37 hl (by decide) rfl (fun ls hl => ?_)
      refine lv_lload_n C.hx C.hb dX1_rounded_39 rfl (lv_at hl 1 rfl) ?_
      refine lv_lload C.hx C.hb dX1_rounded_40 (lv_at hl 0 rfl) ?_
      refine lv_ladd C.hx C.hb dX1_rounded_42 ?_
      refine lv_iload_n C.hx C.hb dX1_rounded_43 rfl (lv_at hl 2 rfl) ?_
      refine lv_lshr C.hx C.hb dX1_rounded_44 rfl ?_
      refine lv_iload_n C.hx C.hb dX1_rounded_45 rfl (lv_at hl 2 rfl) ?_
      refine lv_lshl C.hx C.hb dX1_rounded_46 rfl ?_
      exact g_lret C hB h dX1_rounded_47
def fX1_rounded  (v0 : Int64) (v2 : Int32) (v3 : Int32) (I : TI) (J : TJ) : Option (Int64 × SS) :=
  if v3 = (2 : Int32) then
  if (0 : Int64) ≤ v0 then
  fX1_rounded_19 v0 v2 v3 I J
  else
  some (-(((-v0) >>> (v2.toInt64 &&& 63)) <<< (v2.toInt64 &&& 63)), I, J)
  else
  fX1_rounded_19 v0 v2 v3 I J
set_option maxHeartbeats 4000000 in
set_option maxRecDepth 100000 in
theorem tX1_rounded {p : Program} {l : Launch} {e : Env} {s : State} {m : MethodId} {args : Array Value} {below : List Frame} {meth : Method} {c : Code} (C : KX p s m args meth c "BitTuner$Runs" cX1_rounded 6 (some .long)) {D : va_G} {cI cJ cV : ClassId} {ad : Nat → Nat} {z : Int64 × SS}   {H : Heap} {locs : List Loc} {ls : Array Slot} {I : TI} {J : TJ} {v0 : Int64} {v2 : Int32} {v3 : Int32} (hB : XB D cI cJ cV ad s H locs I J)  (hl : lv_has ls 6 [(0, .long v0), (2, .int v2), (3, .int v3)]) (h : fX1_rounded v0 v2 v3 I J = some z) : W p l e (rmd 0) s m args below meth c H locs 0 0 (MQ below (gQl D (xw cI cJ cV ad) (xt cI cJ cV) (xL ad) s.heap.size z) args s 0 0 (gA (xL ad) s.heap.size)) (F0 m 0 ls []) := by
  unfold fX1_rounded at h
  refine lv_iload_n C.hx C.hb dX1_rounded_0 rfl (lv_at hl 2 rfl) ?_
  refine lv_iconst (v := (2 : Int32)) C.hx C.hb dX1_rounded_1 (by decide) ?_
  refine lv_icmp_ne (tgt := 19) C.hx C.hb dX1_rounded_2 (by decide) (fun c_1 => ?_) (fun c_1 => ?_)
  · replace h := (if_neg c_1).symm.trans h
    exact tX1_rounded_19 C  hB (lv_sub hl [0, 1, 2] rfl) h
  · replace h := (if_pos c_1).symm.trans h
    refine lv_lload_n C.hx C.hb dX1_rounded_5 rfl (lv_at hl 0 rfl) ?_
    refine lv_lconst (v := (0 : Int64)) C.hx C.hb dX1_rounded_6 (by decide) ?_
    refine g_lcmp_ge C (tgt := 19) dX1_rounded_7 dX1_rounded_8 (by decide) (fun c_4 => ?_) (fun c_4 => ?_)
    · replace h := (if_pos c_4).symm.trans h
      exact tX1_rounded_19 C  hB (lv_sub hl [0, 1, 2] rfl) h
    · replace h := (if_neg c_4).symm.trans h
      refine lv_lload_n C.hx C.hb dX1_rounded_11 rfl (lv_at hl 0 rfl) ?_
      refine lv_lneg C.hx C.hb dX1_rounded_12 ?_
      refine lv_iload_n C.hx C.hb dX1_rounded_13 rfl (lv_at hl 1 rfl) ?_
      refine lv_lshr C.hx C.hb dX1_rounded_14 rfl ?_
      refine lv_iload_n C.hx C.hb dX1_rounded_15 rfl (lv_at hl 1 rfl) ?_
      refine lv_lshl C.hx C.hb dX1_rounded_16 rfl ?_
      refine lv_lneg C.hx C.hb dX1_rounded_17 ?_
      exact g_lret C hB h dX1_rounded_18
set_option maxHeartbeats 4000000 in
set_option maxRecDepth 100000 in
theorem cnX1_rounded (l : Launch) (D : va_G) (cI cJ cV : ClassId) (ad : Nat → Nat) (sz : Nat) {v0 : Int64} {v2 : Int32} {v3 : Int32} {I : TI} {J : TJ} {z : Int64 × SS}  (h : fX1_rounded v0 v2 v3 I J = some z) : Met l yX1_rounded (wsm yX1_rounded cX1_rounded 6 (some .long)) (rmd 0) (va_Pc [.long v0, .int v2, .int v3] (gPre D (xw cI cJ cV ad) (xt cI cJ cV) sz I J)) (gQl D (xw cI cJ cV ad) (xt cI cJ cV) (xL ad) sz z) 0 0 (gA (xL ad) sz) :=
  g_met (by decide) xw_WL (fun p e s m below meth c hsz C hB ls hl => by subst hsz; exact tX1_rounded C hB  hl h) (Nat.le_of_ble_eq_true rfl)
theorem hdX1_tunedTo : yX1_tunedTo.cls = "BitTuner$Runs" ∧ yX1_tunedTo.cls ≠ "java/lang/invoke/MethodHandle" ∧ yX1_tunedTo.cls ≠ "java/lang/invoke/VarHandle" ∧ (parseMethodDescriptor yX1_tunedTo.desc).map (fun d => d.parameters.length) = some 3 := by decide +kernel
def fX1_tunedTo_14  (k0 : Nat) (v1 : Int64) (v3 : Int64) (w0 : Int32) (I : TI) (J : TJ) : Option (Int64 × SS) :=
  bnd (fX4_result (I 0 k0) v1 v3 I J) (fun q_2 I_2 J_2 =>
  bnd (fX1_rounded q_2 ((w0 + (16 : Int32)) - (I 4 k0)) (I_2 5 k0) I_2 J_2) (fun q_3 I_3 J_3 =>
  some (if (if (q_3 >>> (w0.toInt64 &&& 63)) < (2147483648 : Int64) then (q_3 >>> (w0.toInt64 &&& 63)) else (2147483648 : Int64)) < (-2147483648 : Int64) then (-2147483648 : Int64) else (if (q_3 >>> (w0.toInt64 &&& 63)) < (2147483648 : Int64) then (q_3 >>> (w0.toInt64 &&& 63)) else (2147483648 : Int64)), I_3, J_3)))
set_option maxHeartbeats 4000000 in
set_option maxRecDepth 100000 in
theorem tX1_tunedTo_14 {p : Program} {l : Launch} {e : Env} {s : State} {m : MethodId} {args : Array Value} {below : List Frame} {meth : Method} {c : Code} (C : KX p s m args meth c "BitTuner$Runs" cX1_tunedTo 9 (some .long)) {D : va_G} {cI cJ cV : ClassId} {ad : Nat → Nat} {z : Int64 × SS}   {H : Heap} {locs : List Loc} {ls : Array Slot} {I : TI} {J : TJ} {k0 : Nat} {v1 : Int64} {v3 : Int64} {w0 : Int32} (hB : XB D cI cJ cV ad s H locs I J) (hk0 : k0 < 16) (hl : lv_has ls 9 [(0, .ref (ad (12 + k0))), (1, .long v1), (3, .long v3)]) (h : fX1_tunedTo_14 k0 v1 v3 w0 I J = some z) : W p l e (rmd 2) s m args below meth c H locs 0 0 (MQ below (gQl D (xw cI cJ cV ad) (xt cI cJ cV) (xL ad) s.heap.size z) args s 0 0 (gA (xL ad) s.heap.size)) (F0 m 14 ls [.int w0]) := by
  unfold fX1_tunedTo_14 at h
  refine lv_istore (lv' := [(5, .int w0), (0, .ref (ad (12 + k0))), (1, .long v1), (3, .long v3)]) C.hx C.hb dX1_tunedTo_14 hl (by decide) rfl (fun ls hl => ?_)
  refine lv_iload C.hx C.hb dX1_tunedTo_16 (lv_at hl 0 rfl) ?_
  refine lv_bipush (v := (16 : Int32)) C.hx C.hb dX1_tunedTo_18 (by decide) ?_
  refine lv_iadd C.hx C.hb dX1_tunedTo_20 ?_
  refine lv_aload_n C.hx C.hb dX1_tunedTo_21 rfl (lv_at hl 1 rfl) ?_
  refine xg_v_bits C hB hk0 tw_78 dX1_tunedTo_22 ?_
  refine lv_isub C.hx C.hb dX1_tunedTo_25 ?_
  refine lv_istore (lv' := [(6, .int ((w0 + (16 : Int32)) - (I 4 k0))), (5, .int w0), (0, .ref (ad (12 + k0))), (1, .long v1), (3, .long v3)]) C.hx C.hb dX1_tunedTo_26 hl (by decide) rfl (fun ls hl => ?_)
  refine lv_aload_n C.hx C.hb dX1_tunedTo_28 rfl (lv_at hl 2 rfl) ?_
  refine xg_v_kind C hB hk0 tw_64 dX1_tunedTo_29 ?_
  refine lv_lload_n C.hx C.hb dX1_tunedTo_32 rfl (lv_at hl 3 rfl) ?_
  refine lv_lload_n C.hx C.hb dX1_tunedTo_33 rfl (lv_at hl 4 rfl) ?_
  obtain ⟨q_2, I_2, J_2, hc_2, h⟩ := bnd_some h
  refine g_gol hB (g_runSN C hB [.int (I 0 k0), .long v1, .long v3] [] (host := "BitTuner") (cnX4_result l D cI cJ cV ad H.size  hc_2) hB.N.2.2.2.2 tw_265 tw_33 tw_266 ⟨rfl, rfl⟩ hdX4_result.2 ⟨Nat.le_of_ble_eq_true rfl, Nat.le_of_ble_eq_true rfl⟩ hl.1 rfl (Nat.le_of_ble_eq_true rfl) dX1_tunedTo_34) (fun H locs hB => ?_)
  refine lv_iload C.hx C.hb dX1_tunedTo_37 (lv_at hl 0 rfl) ?_
  refine lv_aload_n C.hx C.hb dX1_tunedTo_39 rfl (lv_at hl 2 rfl) ?_
  refine xg_v_rounding C hB hk0 tw_83 dX1_tunedTo_40 ?_
  obtain ⟨q_3, I_3, J_3, hc_3, h⟩ := bnd_some h
  refine g_gol hB (g_runS C hB [.long q_2, .int ((w0 + (16 : Int32)) - (I 4 k0)), .int (I_2 5 k0)] [] (cnX1_rounded l D cI cJ cV ad H.size  hc_3) tw_383 tw_384 tw_36 tw_385 ⟨rfl, rfl⟩ hdX1_rounded ⟨Nat.le_of_ble_eq_true rfl, Nat.le_of_ble_eq_true rfl⟩ hl.1 rfl (Nat.le_of_ble_eq_true rfl) dX1_tunedTo_43) (fun H locs hB => ?_)
  refine lv_iload C.hx C.hb dX1_tunedTo_46 (lv_at hl 1 rfl) ?_
  refine lv_lshr C.hx C.hb dX1_tunedTo_48 rfl ?_
  refine lv_lstore (lv' := [(7, .long (q_3 >>> (w0.toInt64 &&& 63))), (6, .int ((w0 + (16 : Int32)) - (I 4 k0))), (5, .int w0), (0, .ref (ad (12 + k0))), (1, .long v1), (3, .long v3)]) C.hx C.hb dX1_tunedTo_49 hl (by decide) rfl (fun ls hl => ?_)
  refine lv_ldc2 C.hx C.hb C.hown (C.hts _ tw_386) dX1_tunedTo_51 ?_
  refine lv_ldc2 C.hx C.hb C.hown (C.hts _ tw_387) dX1_tunedTo_54 ?_
  refine lv_lload C.hx C.hb dX1_tunedTo_57 (lv_at hl 0 rfl) ?_
  refine va_mmin_long C.hx C.hb (C.hml.trans hl.1.symm) C.hown (C.hts _ tw_388) (C.hts _ tw_258) (C.hts _ tw_39) (C.hts _ tw_259) (Nat.le_of_ble_eq_true rfl) (Nat.le_of_ble_eq_true rfl) (Nat.zero_le _) (Nat.zero_le _) dX1_tunedTo_59 ?_
  refine va_mmax_long C.hx C.hb (C.hml.trans hl.1.symm) C.hown (C.hts _ tw_389) (C.hts _ tw_224) (C.hts _ tw_39) (C.hts _ tw_225) (Nat.le_of_ble_eq_true rfl) (Nat.le_of_ble_eq_true rfl) (Nat.zero_le _) (Nat.zero_le _) dX1_tunedTo_62 ?_
  exact g_lret C hB h dX1_tunedTo_65
def fX1_tunedTo  (k0 : Nat) (v1 : Int64) (v3 : Int64) (I : TI) (J : TJ) : Option (Int64 × SS) :=
  if (I 0 k0) = (4 : Int32) then
  fX1_tunedTo_14 k0 v1 v3 (16 : Int32) I J
  else
  fX1_tunedTo_14 k0 v1 v3 (0 : Int32) I J
set_option maxHeartbeats 4000000 in
set_option maxRecDepth 100000 in
theorem tX1_tunedTo {p : Program} {l : Launch} {e : Env} {s : State} {m : MethodId} {args : Array Value} {below : List Frame} {meth : Method} {c : Code} (C : KX p s m args meth c "BitTuner$Runs" cX1_tunedTo 9 (some .long)) {D : va_G} {cI cJ cV : ClassId} {ad : Nat → Nat} {z : Int64 × SS}   {H : Heap} {locs : List Loc} {ls : Array Slot} {I : TI} {J : TJ} {k0 : Nat} {v1 : Int64} {v3 : Int64} (hB : XB D cI cJ cV ad s H locs I J) (hk0 : k0 < 16) (hl : lv_has ls 9 [(0, .ref (ad (12 + k0))), (1, .long v1), (3, .long v3)]) (h : fX1_tunedTo k0 v1 v3 I J = some z) : W p l e (rmd 2) s m args below meth c H locs 0 0 (MQ below (gQl D (xw cI cJ cV ad) (xt cI cJ cV) (xL ad) s.heap.size z) args s 0 0 (gA (xL ad) s.heap.size)) (F0 m 0 ls []) := by
  unfold fX1_tunedTo at h
  refine lv_aload_n C.hx C.hb dX1_tunedTo_0 rfl (lv_at hl 0 rfl) ?_
  refine xg_v_kind C hB hk0 tw_64 dX1_tunedTo_1 ?_
  refine lv_iconst (v := (4 : Int32)) C.hx C.hb dX1_tunedTo_4 (by decide) ?_
  refine lv_icmp_ne (tgt := 13) C.hx C.hb dX1_tunedTo_5 (by decide) (fun c_1 => ?_) (fun c_1 => ?_)
  · replace h := (if_neg c_1).symm.trans h
    refine lv_iconst (v := (0 : Int32)) C.hx C.hb dX1_tunedTo_13 (by decide) ?_
    exact tX1_tunedTo_14 C  hB hk0 (lv_sub hl [0, 1, 2] rfl) h
  · replace h := (if_pos c_1).symm.trans h
    refine lv_bipush (v := (16 : Int32)) C.hx C.hb dX1_tunedTo_8 (by decide) ?_
    refine lv_goto (tgt := 14) C.hx C.hb dX1_tunedTo_10 (by decide) ?_
    exact tX1_tunedTo_14 C  hB hk0 (lv_sub hl [0, 1, 2] rfl) h
set_option maxHeartbeats 4000000 in
set_option maxRecDepth 100000 in
theorem cnX1_tunedTo (l : Launch) (D : va_G) (cI cJ cV : ClassId) (ad : Nat → Nat) (sz : Nat) {k0 : Nat} {v1 : Int64} {v3 : Int64} {I : TI} {J : TJ} {z : Int64 × SS} (hk0 : k0 < 16) (h : fX1_tunedTo k0 v1 v3 I J = some z) : Met l yX1_tunedTo (wsm yX1_tunedTo cX1_tunedTo 9 (some .long)) (rmd 2) (va_Pc [.ref (ad (12 + k0)), .long v1, .long v3] (gPre D (xw cI cJ cV ad) (xt cI cJ cV) sz I J)) (gQl D (xw cI cJ cV ad) (xt cI cJ cV) (xL ad) sz z) 0 0 (gA (xL ad) sz) :=
  g_met (by decide) xw_WL (fun p e s m below meth c hsz C hB ls hl => by subst hsz; exact tX1_tunedTo C hB hk0 hl h) (Nat.le_of_ble_eq_true rfl)
theorem hdX1_workOut : yX1_workOut.cls = "BitTuner$Runs" ∧ yX1_workOut.cls ≠ "java/lang/invoke/MethodHandle" ∧ yX1_workOut.cls ≠ "java/lang/invoke/VarHandle" ∧ (parseMethodDescriptor yX1_workOut.desc).map (fun d => d.parameters.length) = some 1 := by decide +kernel
def fX1_workOut_74 (kf_2 : Int32 → Int32 → TI → TJ → Option (Unit × SS)) (v1 : Int32) (v2 : Int32) (k3 : Nat) (w0 : Int32) (I : TI) (J : TJ) : Option (Unit × SS) :=
  if okx (I 1 k3) then
  if okx w0 then
  bnd (fX1_exactly (I 0 k3) (J 3 ((I 1 k3).toNatClampNeg)) (J 3 w0.toNatClampNeg) I J) (fun q_9 I_9 J_9 =>
  if okx v2 then
  if okx (I_9 1 k3) then
  bnd (fX1_tunedTo k3 (J_9 4 ((I_9 1 k3).toNatClampNeg)) (J_9 4 w0.toNatClampNeg) I_9 (uJ J_9 3 (v2.toNatClampNeg) q_9)) (fun q_12 I_12 J_12 =>
  kf_2 v1 (v2 + (1 : Int32)) I_12 (uJ J_12 4 (v2.toNatClampNeg) q_12))
  else none
  else none)
  else none
  else none
set_option maxHeartbeats 4000000 in
set_option maxRecDepth 100000 in
theorem tX1_workOut_74 {p : Program} {l : Launch} {e : Env} {s : State} {m : MethodId} {args : Array Value} {below : List Frame} {meth : Method} {c : Code} (C : KX p s m args meth c "BitTuner$Runs" cX1_workOut 5 none) {D : va_G} {cI cJ cV : ClassId} {ad : Nat → Nat} {z : Unit × SS} {kf_2 : Int32 → Int32 → TI → TJ → Option (Unit × SS)} (kt_2 : ∀ {H : Heap} {locs : List Loc} {ls : Array Slot} {I : TI} {J : TJ} {v1 : Int32} {v2 : Int32}, XB D cI cJ cV ad s H locs I J → lv_has ls 5 [(0, .ref (ad 3)), (1, .int v1), (2, .int v2)] → kf_2 v1 v2 I J = some z → W p l e (rmd 3) s m args below meth c H locs 0 0 (MQ below (gQv D (xw cI cJ cV ad) (xt cI cJ cV) (xL ad) s.heap.size z) args s 0 0 (gA (xL ad) s.heap.size)) (F0 m 2 ls [])) {H : Heap} {locs : List Loc} {ls : Array Slot} {I : TI} {J : TJ} {v1 : Int32} {v2 : Int32} {k3 : Nat} {w0 : Int32} (hB : XB D cI cJ cV ad s H locs I J) (hk3 : k3 < 16) (hl : lv_has ls 5 [(0, .ref (ad 3)), (1, .int v1), (2, .int v2), (3, .ref (ad (12 + k3)))]) (h : fX1_workOut_74 kf_2 v1 v2 k3 w0 I J = some z) : W p l e (rmd 3) s m args below meth c H locs 0 0 (MQ below (gQv D (xw cI cJ cV ad) (xt cI cJ cV) (xL ad) s.heap.size z) args s 0 0 (gA (xL ad) s.heap.size)) (F0 m 74 ls [.int w0]) := by
  unfold fX1_workOut_74 at h
  refine lv_istore (lv' := [(4, .int w0), (0, .ref (ad 3)), (1, .int v1), (2, .int v2), (3, .ref (ad (12 + k3)))]) C.hx C.hb dX1_workOut_74 hl (by decide) rfl (fun ls hl => ?_)
  refine lv_aload_n C.hx C.hb dX1_workOut_76 rfl (lv_at hl 1 rfl) ?_
  refine xg_r_exacts C hB tw_145 dX1_workOut_77 ?_
  refine lv_iload_n C.hx C.hb dX1_workOut_80 rfl (lv_at hl 3 rfl) ?_
  refine lv_aload_n C.hx C.hb dX1_workOut_81 rfl (lv_at hl 4 rfl) ?_
  refine xg_v_kind C hB hk3 tw_64 dX1_workOut_82 ?_
  refine lv_aload_n C.hx C.hb dX1_workOut_85 rfl (lv_at hl 1 rfl) ?_
  refine xg_r_exacts C hB tw_145 dX1_workOut_86 ?_
  refine lv_aload_n C.hx C.hb dX1_workOut_89 rfl (lv_at hl 4 rfl) ?_
  refine xg_v_a C hB hk3 tw_68 dX1_workOut_90 ?_
  obtain ⟨c_7, h⟩ := ite_ck h
  refine xa_exacts_ld C hB c_7 dX1_workOut_93 ?_
  refine lv_aload_n C.hx C.hb dX1_workOut_94 rfl (lv_at hl 1 rfl) ?_
  refine xg_r_exacts C hB tw_145 dX1_workOut_95 ?_
  refine lv_iload C.hx C.hb dX1_workOut_98 (lv_at hl 0 rfl) ?_
  obtain ⟨c_8, h⟩ := ite_ck h
  refine xa_exacts_ld C hB c_8 dX1_workOut_100 ?_
  obtain ⟨q_9, I_9, J_9, hc_9, h⟩ := bnd_some h
  refine g_gol hB (g_runS C hB [.int (I 0 k3), .long (J 3 ((I 1 k3).toNatClampNeg)), .long (J 3 w0.toNatClampNeg)] [.int v2, .ref (ad 6)] (cnX1_exactly l D cI cJ cV ad H.size  hc_9) tw_376 tw_377 tw_36 tw_378 ⟨rfl, rfl⟩ hdX1_exactly ⟨Nat.le_of_ble_eq_true rfl, Nat.le_of_ble_eq_true rfl⟩ hl.1 rfl (Nat.le_of_ble_eq_true rfl) dX1_workOut_101) (fun H locs hB => ?_)
  obtain ⟨c_10, h⟩ := ite_ck h
  refine xa_exacts_st C hB c_10 dX1_workOut_104 (fun H locs hB => ?_)
  refine lv_aload_n C.hx C.hb dX1_workOut_105 rfl (lv_at hl 1 rfl) ?_
  refine xg_r_tuneds C hB tw_147 dX1_workOut_106 ?_
  refine lv_iload_n C.hx C.hb dX1_workOut_109 rfl (lv_at hl 3 rfl) ?_
  refine lv_aload_n C.hx C.hb dX1_workOut_110 rfl (lv_at hl 4 rfl) ?_
  refine lv_aload_n C.hx C.hb dX1_workOut_111 rfl (lv_at hl 1 rfl) ?_
  refine xg_r_tuneds C hB tw_147 dX1_workOut_112 ?_
  refine lv_aload_n C.hx C.hb dX1_workOut_115 rfl (lv_at hl 4 rfl) ?_
  refine xg_v_a C hB hk3 tw_68 dX1_workOut_116 ?_
  obtain ⟨c_11, h⟩ := ite_ck h
  refine xa_tuneds_ld C hB c_11 dX1_workOut_119 ?_
  refine lv_aload_n C.hx C.hb dX1_workOut_120 rfl (lv_at hl 1 rfl) ?_
  refine xg_r_tuneds C hB tw_147 dX1_workOut_121 ?_
  refine lv_iload C.hx C.hb dX1_workOut_124 (lv_at hl 0 rfl) ?_
  refine xa_tuneds_ld C hB c_8 dX1_workOut_126 ?_
  obtain ⟨q_12, I_12, J_12, hc_12, h⟩ := bnd_some h
  refine g_gol hB (g_runS C hB [.ref (ad (12 + k3)), .long (J_9 4 ((I_9 1 k3).toNatClampNeg)), .long (J_9 4 w0.toNatClampNeg)] [.int v2, .ref (ad 7)] (cnX1_tunedTo l D cI cJ cV ad H.size hk3  hc_12) tw_380 tw_381 tw_36 tw_382 ⟨rfl, rfl⟩ hdX1_tunedTo ⟨Nat.le_of_ble_eq_true rfl, Nat.le_of_ble_eq_true rfl⟩ hl.1 rfl (Nat.le_of_ble_eq_true rfl) dX1_workOut_127) (fun H locs hB => ?_)
  refine xa_tuneds_st C hB c_10 dX1_workOut_130 (fun H locs hB => ?_)
  refine lv_iinc (v := v2 + (1 : Int32)) (lv' := [(2, .int (v2 + (1 : Int32))), (4, .int w0), (0, .ref (ad 3)), (1, .int v1), (3, .ref (ad (12 + k3)))]) C.hx C.hb dX1_workOut_131 hl (k := 3) rfl rfl (by decide) rfl (fun ls hl => ?_)
  refine lv_goto (tgt := 2) C.hx C.hb dX1_workOut_134 (by decide) ?_
  exact kt_2 hB (lv_sub hl [2, 3, 0] rfl) h
def fX1_workOut_2  : Nat → Int32 → Int32 → TI → TJ → Option (Unit × SS)
  | 0, _, _, _, _ => none
  | n + 1, v1, v2, I, J =>
    if v1 < v2 then
    some ((), I, J)
    else
    if okx v2 then
    bnd (fX2_isGiven v2.toNatClampNeg I J) (fun q_3 I_3 J_3 =>
    if q_3 = 0 then
    bnd (fX4_hasTwoParts (I_3 0 v2.toNatClampNeg) I_3 J_3) (fun q_5 I_5 J_5 =>
    if q_5 = 0 then
    fX1_workOut_74 (fX1_workOut_2 n) v1 v2 v2.toNatClampNeg (I_5 1 v2.toNatClampNeg) I_5 J_5
    else
    fX1_workOut_74 (fX1_workOut_2 n) v1 v2 v2.toNatClampNeg (I_5 2 v2.toNatClampNeg) I_5 J_5)
    else
    fX1_workOut_2 n v1 (v2 + (1 : Int32)) I_3 (uJ (uJ J_3 3 (v2.toNatClampNeg) ((I_3 8 v2.toNatClampNeg).toInt64)) 4 (v2.toNatClampNeg) ((I_3 8 v2.toNatClampNeg).toInt64)))
    else none
theorem eX1_workOut_2  (n : Nat) (v1 : Int32) (v2 : Int32) (I : TI) (J : TJ) : fX1_workOut_2 (n + 1) v1 v2 I J = (
    if v1 < v2 then
    some ((), I, J)
    else
    if okx v2 then
    bnd (fX2_isGiven v2.toNatClampNeg I J) (fun q_3 I_3 J_3 =>
    if q_3 = 0 then
    bnd (fX4_hasTwoParts (I_3 0 v2.toNatClampNeg) I_3 J_3) (fun q_5 I_5 J_5 =>
    if q_5 = 0 then
    fX1_workOut_74 (fX1_workOut_2 n) v1 v2 v2.toNatClampNeg (I_5 1 v2.toNatClampNeg) I_5 J_5
    else
    fX1_workOut_74 (fX1_workOut_2 n) v1 v2 v2.toNatClampNeg (I_5 2 v2.toNatClampNeg) I_5 J_5)
    else
    fX1_workOut_2 n v1 (v2 + (1 : Int32)) I_3 (uJ (uJ J_3 3 (v2.toNatClampNeg) ((I_3 8 v2.toNatClampNeg).toInt64)) 4 (v2.toNatClampNeg) ((I_3 8 v2.toNatClampNeg).toInt64)))
    else none) := rfl
set_option maxHeartbeats 4000000 in
set_option maxRecDepth 100000 in
theorem tX1_workOut_2 {p : Program} {l : Launch} {e : Env} {s : State} {m : MethodId} {args : Array Value} {below : List Frame} {meth : Method} {c : Code} (C : KX p s m args meth c "BitTuner$Runs" cX1_workOut 5 none) {D : va_G} {cI cJ cV : ClassId} {ad : Nat → Nat} {z : Unit × SS}   : ∀ (n : Nat), ∀ {H : Heap} {locs : List Loc} {ls : Array Slot} {I : TI} {J : TJ} {v1 : Int32} {v2 : Int32}, XB D cI cJ cV ad s H locs I J → lv_has ls 5 [(0, .ref (ad 3)), (1, .int v1), (2, .int v2)] → fX1_workOut_2 n v1 v2 I J = some z → W p l e (rmd 3) s m args below meth c H locs 0 0 (MQ below (gQv D (xw cI cJ cV ad) (xt cI cJ cV) (xL ad) s.heap.size z) args s 0 0 (gA (xL ad) s.heap.size)) (F0 m 2 ls []) := by
  intro n
  induction n with
  | zero =>
    intro H locs ls I J v1 v2 hB  hl h
    have h : (none : Option (Unit × SS)) = some z := h
    cases h
  | succ n ih =>
    intro H locs ls I J v1 v2 hB  hl h
    replace h := (eX1_workOut_2 n v1 v2 I J).symm.trans h
    refine lv_iload_n C.hx C.hb dX1_workOut_2 rfl (lv_at hl 2 rfl) ?_
    refine lv_iload_n C.hx C.hb dX1_workOut_3 rfl (lv_at hl 1 rfl) ?_
    refine lv_icmp_gt (tgt := 137) C.hx C.hb dX1_workOut_4 (by decide) (fun c_1 => ?_) (fun c_1 => ?_)
    · replace h := (if_pos c_1).symm.trans h
      exact g_vret C hB h dX1_workOut_137
    · replace h := (if_neg c_1).symm.trans h
      refine lv_aload_n C.hx C.hb dX1_workOut_7 rfl (lv_at hl 0 rfl) ?_
      refine xg_r_program C hB tw_143 dX1_workOut_8 ?_
      refine xg_p_values C hB tw_125 dX1_workOut_11 ?_
      refine lv_iload_n C.hx C.hb dX1_workOut_14 rfl (lv_at hl 2 rfl) ?_
      obtain ⟨c_2, h⟩ := ite_ck h
      refine xa_values_ld C hB c_2 dX1_workOut_15 ?_
      refine lv_astore_n (lv' := [(3, .ref (ad (12 + v2.toNatClampNeg))), (0, .ref (ad 3)), (1, .int v1), (2, .int v2)]) C.hx C.hb dX1_workOut_16 rfl hl (by decide) rfl (fun ls hl => ?_)
      refine lv_aload_n C.hx C.hb dX1_workOut_17 rfl (lv_at hl 0 rfl) ?_
      obtain ⟨q_3, I_3, J_3, hc_3, h⟩ := bnd_some h
      refine g_goi hB (g_runV C hB [] [] (cnX2_isGiven l D cI cJ cV ad H.size c_2.2  hc_3) (12 + v2.toNatClampNeg) (xw_val c_2.2) rfl tw_374 tw_288 tw_289 tw_35 tw_290 ⟨rfl, rfl⟩ hdX2_isGiven ⟨Nat.le_of_ble_eq_true rfl, Nat.le_of_ble_eq_true rfl⟩ hl.1 rfl (Nat.le_of_ble_eq_true rfl) dX1_workOut_18) (fun H locs hB => ?_)
      refine lv_if_eq (tgt := 53) C.hx C.hb dX1_workOut_21 (by decide) (fun c_4 => ?_) (fun c_4 => ?_)
      · replace h := (if_pos c_4).symm.trans h
        refine lv_aload_n C.hx C.hb dX1_workOut_53 rfl (lv_at hl 0 rfl) ?_
        refine xg_v_kind C hB c_2.2 tw_64 dX1_workOut_54 ?_
        obtain ⟨q_5, I_5, J_5, hc_5, h⟩ := bnd_some h
        refine g_goi hB (g_runSN C hB [.int (I_3 0 v2.toNatClampNeg)] [] (host := "BitTuner") (cnX4_hasTwoParts l D cI cJ cV ad H.size  hc_5) hB.N.2.2.2.1 tw_239 tw_33 tw_240 ⟨rfl, rfl⟩ hdX4_hasTwoParts.2 ⟨Nat.le_of_ble_eq_true rfl, Nat.le_of_ble_eq_true rfl⟩ hl.1 rfl (Nat.le_of_ble_eq_true rfl) dX1_workOut_57) (fun H locs hB => ?_)
        refine lv_if_eq (tgt := 70) C.hx C.hb dX1_workOut_60 (by decide) (fun c_6 => ?_) (fun c_6 => ?_)
        · replace h := (if_pos c_6).symm.trans h
          refine lv_aload_n C.hx C.hb dX1_workOut_70 rfl (lv_at hl 0 rfl) ?_
          refine xg_v_a C hB c_2.2 tw_68 dX1_workOut_71 ?_
          exact tX1_workOut_74 C (ih) hB c_2.2 (lv_sub hl [1, 2, 3, 0] rfl) h
        · replace h := (if_neg c_6).symm.trans h
          refine lv_aload_n C.hx C.hb dX1_workOut_63 rfl (lv_at hl 0 rfl) ?_
          refine xg_v_b C hB c_2.2 tw_72 dX1_workOut_64 ?_
          refine lv_goto (tgt := 74) C.hx C.hb dX1_workOut_67 (by decide) ?_
          exact tX1_workOut_74 C (ih) hB c_2.2 (lv_sub hl [1, 2, 3, 0] rfl) h
      · replace h := (if_neg c_4).symm.trans h
        refine lv_aload_n C.hx C.hb dX1_workOut_24 rfl (lv_at hl 1 rfl) ?_
        refine xg_r_exacts C hB tw_145 dX1_workOut_25 ?_
        refine lv_iload_n C.hx C.hb dX1_workOut_28 rfl (lv_at hl 3 rfl) ?_
        refine lv_aload_n C.hx C.hb dX1_workOut_29 rfl (lv_at hl 1 rfl) ?_
        refine xg_r_row C hB tw_144 dX1_workOut_30 ?_
        refine lv_iload_n C.hx C.hb dX1_workOut_33 rfl (lv_at hl 3 rfl) ?_
        refine xa_row_ld C hB c_2 dX1_workOut_34 ?_
        refine lv_i2l C.hx C.hb dX1_workOut_35 rfl ?_
        refine xa_exacts_st C hB c_2 dX1_workOut_36 (fun H locs hB => ?_)
        refine lv_aload_n C.hx C.hb dX1_workOut_37 rfl (lv_at hl 1 rfl) ?_
        refine xg_r_tuneds C hB tw_147 dX1_workOut_38 ?_
        refine lv_iload_n C.hx C.hb dX1_workOut_41 rfl (lv_at hl 3 rfl) ?_
        refine lv_aload_n C.hx C.hb dX1_workOut_42 rfl (lv_at hl 1 rfl) ?_
        refine xg_r_row C hB tw_144 dX1_workOut_43 ?_
        refine lv_iload_n C.hx C.hb dX1_workOut_46 rfl (lv_at hl 3 rfl) ?_
        refine xa_row_ld C hB c_2 dX1_workOut_47 ?_
        refine lv_i2l C.hx C.hb dX1_workOut_48 rfl ?_
        refine xa_tuneds_st C hB c_2 dX1_workOut_49 (fun H locs hB => ?_)
        refine lv_goto (tgt := 131) C.hx C.hb dX1_workOut_50 (by decide) ?_
        refine lv_iinc (v := v2 + (1 : Int32)) (lv' := [(2, .int (v2 + (1 : Int32))), (3, .ref (ad (12 + v2.toNatClampNeg))), (0, .ref (ad 3)), (1, .int v1)]) C.hx C.hb dX1_workOut_131 hl (k := 3) rfl rfl (by decide) rfl (fun ls hl => ?_)
        refine lv_goto (tgt := 2) C.hx C.hb dX1_workOut_134 (by decide) ?_
        exact ih hB (lv_sub hl [2, 3, 0] rfl) h
def fX1_workOut  (v1 : Int32) (I : TI) (J : TJ) : Option (Unit × SS) :=
  fX1_workOut_2 fuel v1 (0 : Int32) I J
set_option maxHeartbeats 4000000 in
set_option maxRecDepth 100000 in
theorem tX1_workOut {p : Program} {l : Launch} {e : Env} {s : State} {m : MethodId} {args : Array Value} {below : List Frame} {meth : Method} {c : Code} (C : KX p s m args meth c "BitTuner$Runs" cX1_workOut 5 none) {D : va_G} {cI cJ cV : ClassId} {ad : Nat → Nat} {z : Unit × SS}   {H : Heap} {locs : List Loc} {ls : Array Slot} {I : TI} {J : TJ} {v1 : Int32} (hB : XB D cI cJ cV ad s H locs I J)  (hl : lv_has ls 5 [(0, .ref (ad 3)), (1, .int v1)]) (h : fX1_workOut v1 I J = some z) : W p l e (rmd 3) s m args below meth c H locs 0 0 (MQ below (gQv D (xw cI cJ cV ad) (xt cI cJ cV) (xL ad) s.heap.size z) args s 0 0 (gA (xL ad) s.heap.size)) (F0 m 0 ls []) := by
  unfold fX1_workOut at h
  refine lv_iconst (v := (0 : Int32)) C.hx C.hb dX1_workOut_0 (by decide) ?_
  refine lv_istore_n (lv' := [(2, .int (0 : Int32)), (0, .ref (ad 3)), (1, .int v1)]) C.hx C.hb dX1_workOut_1 rfl hl (by decide) rfl (fun ls hl => ?_)
  exact tX1_workOut_2 C  fuel hB (lv_sub hl [1, 2, 0] rfl) h
set_option maxHeartbeats 4000000 in
set_option maxRecDepth 100000 in
theorem cnX1_workOut (l : Launch) (D : va_G) (cI cJ cV : ClassId) (ad : Nat → Nat) (sz : Nat) {v1 : Int32} {I : TI} {J : TJ} {z : Unit × SS}  (h : fX1_workOut v1 I J = some z) : Met l yX1_workOut (wsm yX1_workOut cX1_workOut 5 none) (rmd 3) (va_Pc [.ref (ad 3), .int v1] (gPre D (xw cI cJ cV ad) (xt cI cJ cV) sz I J)) (gQv D (xw cI cJ cV ad) (xt cI cJ cV) (xL ad) sz z) 0 0 (gA (xL ad) sz) :=
  g_met (by decide) xw_WL (fun p e s m below meth c hsz C hB ls hl => by subst hsz; exact tX1_workOut C hB  hl h) (Nat.le_of_ble_eq_true rfl)
theorem hdX1_workOutAsSet : yX1_workOutAsSet.cls = "BitTuner$Runs" ∧ yX1_workOutAsSet.cls ≠ "java/lang/invoke/MethodHandle" ∧ yX1_workOutAsSet.cls ≠ "java/lang/invoke/VarHandle" ∧ (parseMethodDescriptor yX1_workOutAsSet.desc).map (fun d => d.parameters.length) = some 1 := by decide +kernel
def fX1_workOutAsSet_2  : Nat → Int32 → Int32 → TI → TJ → Option (Unit × SS)
  | 0, _, _, _, _ => none
  | n + 1, v1, v2, I, J =>
    if v1 < v2 then
    bnd (fX1_workOut v1 I J) (fun q_2 I_2 J_2 =>
    some ((), I_2, J_2))
    else
    if okx v2 then
    fX1_workOutAsSet_2 n v1 (v2 + (1 : Int32)) (uI I 8 (v2.toNatClampNeg) (I 7 v2.toNatClampNeg)) J
    else none
theorem eX1_workOutAsSet_2  (n : Nat) (v1 : Int32) (v2 : Int32) (I : TI) (J : TJ) : fX1_workOutAsSet_2 (n + 1) v1 v2 I J = (
    if v1 < v2 then
    bnd (fX1_workOut v1 I J) (fun q_2 I_2 J_2 =>
    some ((), I_2, J_2))
    else
    if okx v2 then
    fX1_workOutAsSet_2 n v1 (v2 + (1 : Int32)) (uI I 8 (v2.toNatClampNeg) (I 7 v2.toNatClampNeg)) J
    else none) := rfl
set_option maxHeartbeats 4000000 in
set_option maxRecDepth 100000 in
theorem tX1_workOutAsSet_2 {p : Program} {l : Launch} {e : Env} {s : State} {m : MethodId} {args : Array Value} {below : List Frame} {meth : Method} {c : Code} (C : KX p s m args meth c "BitTuner$Runs" cX1_workOutAsSet 3 none) {D : va_G} {cI cJ cV : ClassId} {ad : Nat → Nat} {z : Unit × SS}   : ∀ (n : Nat), ∀ {H : Heap} {locs : List Loc} {ls : Array Slot} {I : TI} {J : TJ} {v1 : Int32} {v2 : Int32}, XB D cI cJ cV ad s H locs I J → lv_has ls 3 [(0, .ref (ad 3)), (1, .int v1), (2, .int v2)] → fX1_workOutAsSet_2 n v1 v2 I J = some z → W p l e (rmd 4) s m args below meth c H locs 0 0 (MQ below (gQv D (xw cI cJ cV ad) (xt cI cJ cV) (xL ad) s.heap.size z) args s 0 0 (gA (xL ad) s.heap.size)) (F0 m 2 ls []) := by
  intro n
  induction n with
  | zero =>
    intro H locs ls I J v1 v2 hB  hl h
    have h : (none : Option (Unit × SS)) = some z := h
    cases h
  | succ n ih =>
    intro H locs ls I J v1 v2 hB  hl h
    replace h := (eX1_workOutAsSet_2 n v1 v2 I J).symm.trans h
    refine lv_iload_n C.hx C.hb dX1_workOutAsSet_2 rfl (lv_at hl 2 rfl) ?_
    refine lv_iload_n C.hx C.hb dX1_workOutAsSet_3 rfl (lv_at hl 1 rfl) ?_
    refine lv_icmp_gt (tgt := 31) C.hx C.hb dX1_workOutAsSet_4 (by decide) (fun c_1 => ?_) (fun c_1 => ?_)
    · replace h := (if_pos c_1).symm.trans h
      refine lv_aload_n C.hx C.hb dX1_workOutAsSet_31 rfl (lv_at hl 0 rfl) ?_
      refine lv_iload_n C.hx C.hb dX1_workOutAsSet_32 rfl (lv_at hl 1 rfl) ?_
      obtain ⟨q_2, I_2, J_2, hc_2, h⟩ := bnd_some h
      refine g_gov hB (g_runV C hB [.int v1] [] (cnX1_workOut l D cI cJ cV ad H.size  hc_2) 3 rfl rfl tw_370 tw_372 tw_6 tw_36 tw_373 ⟨rfl, rfl⟩ hdX1_workOut ⟨Nat.le_of_ble_eq_true rfl, Nat.le_of_ble_eq_true rfl⟩ hl.1 rfl (Nat.le_of_ble_eq_true rfl) dX1_workOutAsSet_33) (fun H locs hB => ?_)
      exact g_vret C hB h dX1_workOutAsSet_36
    · replace h := (if_neg c_1).symm.trans h
      refine lv_aload_n C.hx C.hb dX1_workOutAsSet_7 rfl (lv_at hl 0 rfl) ?_
      refine xg_r_row C hB tw_144 dX1_workOutAsSet_8 ?_
      refine lv_iload_n C.hx C.hb dX1_workOutAsSet_11 rfl (lv_at hl 2 rfl) ?_
      refine lv_aload_n C.hx C.hb dX1_workOutAsSet_12 rfl (lv_at hl 0 rfl) ?_
      refine xg_r_program C hB tw_143 dX1_workOutAsSet_13 ?_
      refine xg_p_values C hB tw_125 dX1_workOutAsSet_16 ?_
      refine lv_iload_n C.hx C.hb dX1_workOutAsSet_19 rfl (lv_at hl 2 rfl) ?_
      obtain ⟨c_3, h⟩ := ite_ck h
      refine xa_values_ld C hB c_3 dX1_workOutAsSet_20 ?_
      refine xg_v_units C hB c_3.2 tw_98 dX1_workOutAsSet_21 ?_
      refine xa_row_st C hB c_3 dX1_workOutAsSet_24 (fun H locs hB => ?_)
      refine lv_iinc (v := v2 + (1 : Int32)) (lv' := [(2, .int (v2 + (1 : Int32))), (0, .ref (ad 3)), (1, .int v1)]) C.hx C.hb dX1_workOutAsSet_25 hl (k := 2) rfl rfl (by decide) rfl (fun ls hl => ?_)
      refine lv_goto (tgt := 2) C.hx C.hb dX1_workOutAsSet_28 (by decide) ?_
      exact ih hB (lv_sub hl [1, 2, 0] rfl) h
def fX1_workOutAsSet  (v1 : Int32) (I : TI) (J : TJ) : Option (Unit × SS) :=
  fX1_workOutAsSet_2 fuel v1 (0 : Int32) I J
set_option maxHeartbeats 4000000 in
set_option maxRecDepth 100000 in
theorem tX1_workOutAsSet {p : Program} {l : Launch} {e : Env} {s : State} {m : MethodId} {args : Array Value} {below : List Frame} {meth : Method} {c : Code} (C : KX p s m args meth c "BitTuner$Runs" cX1_workOutAsSet 3 none) {D : va_G} {cI cJ cV : ClassId} {ad : Nat → Nat} {z : Unit × SS}   {H : Heap} {locs : List Loc} {ls : Array Slot} {I : TI} {J : TJ} {v1 : Int32} (hB : XB D cI cJ cV ad s H locs I J)  (hl : lv_has ls 3 [(0, .ref (ad 3)), (1, .int v1)]) (h : fX1_workOutAsSet v1 I J = some z) : W p l e (rmd 4) s m args below meth c H locs 0 0 (MQ below (gQv D (xw cI cJ cV ad) (xt cI cJ cV) (xL ad) s.heap.size z) args s 0 0 (gA (xL ad) s.heap.size)) (F0 m 0 ls []) := by
  unfold fX1_workOutAsSet at h
  refine lv_iconst (v := (0 : Int32)) C.hx C.hb dX1_workOutAsSet_0 (by decide) ?_
  refine lv_istore_n (lv' := [(2, .int (0 : Int32)), (0, .ref (ad 3)), (1, .int v1)]) C.hx C.hb dX1_workOutAsSet_1 rfl hl (by decide) rfl (fun ls hl => ?_)
  exact tX1_workOutAsSet_2 C  fuel hB (lv_sub hl [1, 2, 0] rfl) h
set_option maxHeartbeats 4000000 in
set_option maxRecDepth 100000 in
theorem cnX1_workOutAsSet (l : Launch) (D : va_G) (cI cJ cV : ClassId) (ad : Nat → Nat) (sz : Nat) {v1 : Int32} {I : TI} {J : TJ} {z : Unit × SS}  (h : fX1_workOutAsSet v1 I J = some z) : Met l yX1_workOutAsSet (wsm yX1_workOutAsSet cX1_workOutAsSet 3 none) (rmd 4) (va_Pc [.ref (ad 3), .int v1] (gPre D (xw cI cJ cV ad) (xt cI cJ cV) sz I J)) (gQv D (xw cI cJ cV ad) (xt cI cJ cV) (xL ad) sz z) 0 0 (gA (xL ad) sz) :=
  g_met (by decide) xw_WL (fun p e s m below meth c hsz C hB ls hl => by subst hsz; exact tX1_workOutAsSet C hB  hl h) (Nat.le_of_ble_eq_true rfl)
theorem hdX1_missOf : yX1_missOf.cls = "BitTuner$Runs" ∧ yX1_missOf.cls ≠ "java/lang/invoke/MethodHandle" ∧ yX1_missOf.cls ≠ "java/lang/invoke/VarHandle" ∧ (parseMethodDescriptor yX1_missOf.desc).map (fun d => d.parameters.length) = some 1 := by decide +kernel
def fX1_missOf  (v1 : Int32) (I : TI) (J : TJ) : Option (Int64 × SS) :=
  if okx v1 then
  some (if 0 < ((J 4 v1.toNatClampNeg) - (J 3 v1.toNatClampNeg)) then ((J 4 v1.toNatClampNeg) - (J 3 v1.toNatClampNeg)) else -((J 4 v1.toNatClampNeg) - (J 3 v1.toNatClampNeg)), I, J)
  else none
set_option maxHeartbeats 4000000 in
set_option maxRecDepth 100000 in
theorem tX1_missOf {p : Program} {l : Launch} {e : Env} {s : State} {m : MethodId} {args : Array Value} {below : List Frame} {meth : Method} {c : Code} (C : KX p s m args meth c "BitTuner$Runs" cX1_missOf 2 (some .long)) {D : va_G} {cI cJ cV : ClassId} {ad : Nat → Nat} {z : Int64 × SS}   {H : Heap} {locs : List Loc} {ls : Array Slot} {I : TI} {J : TJ} {v1 : Int32} (hB : XB D cI cJ cV ad s H locs I J)  (hl : lv_has ls 2 [(0, .ref (ad 3)), (1, .int v1)]) (h : fX1_missOf v1 I J = some z) : W p l e (rmd 1) s m args below meth c H locs 0 0 (MQ below (gQl D (xw cI cJ cV ad) (xt cI cJ cV) (xL ad) s.heap.size z) args s 0 0 (gA (xL ad) s.heap.size)) (F0 m 0 ls []) := by
  unfold fX1_missOf at h
  refine lv_aload_n C.hx C.hb dX1_missOf_0 rfl (lv_at hl 0 rfl) ?_
  refine xg_r_tuneds C hB tw_147 dX1_missOf_1 ?_
  refine lv_iload_n C.hx C.hb dX1_missOf_4 rfl (lv_at hl 1 rfl) ?_
  obtain ⟨c_1, h⟩ := ite_ck h
  refine xa_tuneds_ld C hB c_1 dX1_missOf_5 ?_
  refine lv_aload_n C.hx C.hb dX1_missOf_6 rfl (lv_at hl 0 rfl) ?_
  refine xg_r_exacts C hB tw_145 dX1_missOf_7 ?_
  refine lv_iload_n C.hx C.hb dX1_missOf_10 rfl (lv_at hl 1 rfl) ?_
  refine xa_exacts_ld C hB c_1 dX1_missOf_11 ?_
  refine lv_lsub C.hx C.hb dX1_missOf_12 ?_
  refine va_mabs_long C.hx C.hb (C.hml.trans hl.1.symm) C.hown (C.hts _ tw_402) (C.hts _ tw_221) (C.hts _ tw_39) (C.hts _ tw_222) (Nat.le_of_ble_eq_true rfl) (Nat.le_of_ble_eq_true rfl) (Nat.zero_le _) (Nat.zero_le _) dX1_missOf_13 ?_
  exact g_lret C hB h dX1_missOf_16
set_option maxHeartbeats 4000000 in
set_option maxRecDepth 100000 in
theorem cnX1_missOf (l : Launch) (D : va_G) (cI cJ cV : ClassId) (ad : Nat → Nat) (sz : Nat) {v1 : Int32} {I : TI} {J : TJ} {z : Int64 × SS}  (h : fX1_missOf v1 I J = some z) : Met l yX1_missOf (wsm yX1_missOf cX1_missOf 2 (some .long)) (rmd 1) (va_Pc [.ref (ad 3), .int v1] (gPre D (xw cI cJ cV ad) (xt cI cJ cV) sz I J)) (gQl D (xw cI cJ cV ad) (xt cI cJ cV) (xL ad) sz z) 0 0 (gA (xL ad) sz) :=
  g_met (by decide) xw_WL (fun p e s m below meth c hsz C hB ls hl => by subst hsz; exact tX1_missOf C hB  hl h) (Nat.le_of_ble_eq_true rfl)
theorem hdX1_rowsInAll : yX1_rowsInAll.cls = "BitTuner$Runs" ∧ yX1_rowsInAll.cls ≠ "java/lang/invoke/MethodHandle" ∧ yX1_rowsInAll.cls ≠ "java/lang/invoke/VarHandle" ∧ (parseMethodDescriptor yX1_rowsInAll.desc).map (fun d => d.parameters.length) = some 0 := by decide +kernel
def fX1_rowsInAll_68  (v1 : Int64) (I : TI) (J : TJ) : Option (Int32 × SS) :=
  some ((if (1000000 : Int64) < v1 then (1000000 : Int64) else v1).toInt32, I, J)
set_option maxHeartbeats 4000000 in
set_option maxRecDepth 100000 in
theorem tX1_rowsInAll_68 {p : Program} {l : Launch} {e : Env} {s : State} {m : MethodId} {args : Array Value} {below : List Frame} {meth : Method} {c : Code} (C : KX p s m args meth c "BitTuner$Runs" cX1_rowsInAll 5 (some .int)) {D : va_G} {cI cJ cV : ClassId} {ad : Nat → Nat} {z : Int32 × SS}   {H : Heap} {locs : List Loc} {ls : Array Slot} {I : TI} {J : TJ} {v1 : Int64} (hB : XB D cI cJ cV ad s H locs I J)  (hl : lv_has ls 5 [(1, .long v1)]) (h : fX1_rowsInAll_68 v1 I J = some z) : W p l e (rmd 1) s m args below meth c H locs 0 0 (MQ below (gQi D (xw cI cJ cV ad) (xt cI cJ cV) (xL ad) s.heap.size z) args s 0 0 (gA (xL ad) s.heap.size)) (F0 m 68 ls []) := by
  unfold fX1_rowsInAll_68 at h
  refine lv_lload_n C.hx C.hb dX1_rowsInAll_68 rfl (lv_at hl 0 rfl) ?_
  refine lv_ldc2 C.hx C.hb C.hown (C.hts _ tw_421) dX1_rowsInAll_69 ?_
  refine va_mmin_long C.hx C.hb (C.hml.trans hl.1.symm) C.hown (C.hts _ tw_388) (C.hts _ tw_258) (C.hts _ tw_39) (C.hts _ tw_259) (Nat.le_of_ble_eq_true rfl) (Nat.le_of_ble_eq_true rfl) (Nat.zero_le _) (Nat.zero_le _) dX1_rowsInAll_72 ?_
  refine lv_l2i C.hx C.hb dX1_rowsInAll_75 rfl ?_
  exact g_iret C hB h dX1_rowsInAll_76
def fX1_rowsInAll_4  : Nat → Int64 → Int32 → TI → TJ → Option (Int32 × SS)
  | 0, _, _, _, _ => none
  | n + 1, v1, v3, I, J =>
    if (I 12 0) ≤ v3 then
    fX1_rowsInAll_68 v1 I J
    else
    if (1000000 : Int64) ≤ v1 then
    fX1_rowsInAll_68 v1 I J
    else
    if okx v3 then
    if (I 0 v3.toNatClampNeg) = 0 then
    fX1_rowsInAll_4 n (v1 * ((((J 1 v3.toNatClampNeg) - (J 0 v3.toNatClampNeg)) / (4096 : Int64)) + (1 : Int64))) (v3 + (1 : Int32)) I J
    else
    fX1_rowsInAll_4 n v1 (v3 + (1 : Int32)) I J
    else none
theorem eX1_rowsInAll_4  (n : Nat) (v1 : Int64) (v3 : Int32) (I : TI) (J : TJ) : fX1_rowsInAll_4 (n + 1) v1 v3 I J = (
    if (I 12 0) ≤ v3 then
    fX1_rowsInAll_68 v1 I J
    else
    if (1000000 : Int64) ≤ v1 then
    fX1_rowsInAll_68 v1 I J
    else
    if okx v3 then
    if (I 0 v3.toNatClampNeg) = 0 then
    fX1_rowsInAll_4 n (v1 * ((((J 1 v3.toNatClampNeg) - (J 0 v3.toNatClampNeg)) / (4096 : Int64)) + (1 : Int64))) (v3 + (1 : Int32)) I J
    else
    fX1_rowsInAll_4 n v1 (v3 + (1 : Int32)) I J
    else none) := rfl
set_option maxHeartbeats 4000000 in
set_option maxRecDepth 100000 in
theorem tX1_rowsInAll_4 {p : Program} {l : Launch} {e : Env} {s : State} {m : MethodId} {args : Array Value} {below : List Frame} {meth : Method} {c : Code} (C : KX p s m args meth c "BitTuner$Runs" cX1_rowsInAll 5 (some .int)) {D : va_G} {cI cJ cV : ClassId} {ad : Nat → Nat} {z : Int32 × SS}   : ∀ (n : Nat), ∀ {H : Heap} {locs : List Loc} {ls : Array Slot} {I : TI} {J : TJ} {v1 : Int64} {v3 : Int32}, XB D cI cJ cV ad s H locs I J → lv_has ls 5 [(0, .ref (ad 3)), (1, .long v1), (3, .int v3)] → fX1_rowsInAll_4 n v1 v3 I J = some z → W p l e (rmd 1) s m args below meth c H locs 0 0 (MQ below (gQi D (xw cI cJ cV ad) (xt cI cJ cV) (xL ad) s.heap.size z) args s 0 0 (gA (xL ad) s.heap.size)) (F0 m 4 ls []) := by
  intro n
  induction n with
  | zero =>
    intro H locs ls I J v1 v3 hB  hl h
    have h : (none : Option (Int32 × SS)) = some z := h
    cases h
  | succ n ih =>
    intro H locs ls I J v1 v3 hB  hl h
    replace h := (eX1_rowsInAll_4 n v1 v3 I J).symm.trans h
    refine lv_iload_n C.hx C.hb dX1_rowsInAll_4 rfl (lv_at hl 2 rfl) ?_
    refine lv_aload_n C.hx C.hb dX1_rowsInAll_5 rfl (lv_at hl 0 rfl) ?_
    refine xg_r_program C hB tw_143 dX1_rowsInAll_6 ?_
    refine xg_p_many C hB tw_131 dX1_rowsInAll_9 ?_
    refine lv_icmp_ge (tgt := 68) C.hx C.hb dX1_rowsInAll_12 (by decide) (fun c_1 => ?_) (fun c_1 => ?_)
    · replace h := (if_pos c_1).symm.trans h
      exact tX1_rowsInAll_68 C  hB (lv_sub hl [1] rfl) h
    · replace h := (if_neg c_1).symm.trans h
      refine lv_lload_n C.hx C.hb dX1_rowsInAll_15 rfl (lv_at hl 1 rfl) ?_
      refine lv_ldc2 C.hx C.hb C.hown (C.hts _ tw_421) dX1_rowsInAll_16 ?_
      refine g_lcmp_ge C (tgt := 68) dX1_rowsInAll_19 dX1_rowsInAll_20 (by decide) (fun c_2 => ?_) (fun c_2 => ?_)
      · replace h := (if_pos c_2).symm.trans h
        exact tX1_rowsInAll_68 C  hB (lv_sub hl [1] rfl) h
      · replace h := (if_neg c_2).symm.trans h
        refine lv_aload_n C.hx C.hb dX1_rowsInAll_23 rfl (lv_at hl 0 rfl) ?_
        refine xg_r_program C hB tw_143 dX1_rowsInAll_24 ?_
        refine xg_p_values C hB tw_125 dX1_rowsInAll_27 ?_
        refine lv_iload_n C.hx C.hb dX1_rowsInAll_30 rfl (lv_at hl 2 rfl) ?_
        obtain ⟨c_3, h⟩ := ite_ck h
        refine xa_values_ld C hB c_3 dX1_rowsInAll_31 ?_
        refine lv_astore (lv' := [(4, .ref (ad (12 + v3.toNatClampNeg))), (0, .ref (ad 3)), (1, .long v1), (3, .int v3)]) C.hx C.hb dX1_rowsInAll_32 hl (by decide) rfl (fun ls hl => ?_)
        refine lv_aload C.hx C.hb dX1_rowsInAll_34 (lv_at hl 0 rfl) ?_
        refine xg_v_kind C hB c_3.2 tw_64 dX1_rowsInAll_36 ?_
        refine lv_if_ne (tgt := 62) C.hx C.hb dX1_rowsInAll_39 (by decide) (fun c_4 => ?_) (fun c_4 => ?_)
        · replace h := (if_neg c_4).symm.trans h
          refine lv_iinc (v := v3 + (1 : Int32)) (lv' := [(3, .int (v3 + (1 : Int32))), (4, .ref (ad (12 + v3.toNatClampNeg))), (0, .ref (ad 3)), (1, .long v1)]) C.hx C.hb dX1_rowsInAll_62 hl (k := 3) rfl rfl (by decide) rfl (fun ls hl => ?_)
          refine lv_goto (tgt := 4) C.hx C.hb dX1_rowsInAll_65 (by decide) ?_
          exact ih hB (lv_sub hl [2, 3, 0] rfl) h
        · replace h := (if_pos c_4).symm.trans h
          refine lv_lload_n C.hx C.hb dX1_rowsInAll_42 rfl (lv_at hl 2 rfl) ?_
          refine lv_aload C.hx C.hb dX1_rowsInAll_43 (lv_at hl 0 rfl) ?_
          refine xg_v_high C hB c_3.2 tw_94 dX1_rowsInAll_45 ?_
          refine lv_aload C.hx C.hb dX1_rowsInAll_48 (lv_at hl 0 rfl) ?_
          refine xg_v_low C hB c_3.2 tw_91 dX1_rowsInAll_50 ?_
          refine lv_lsub C.hx C.hb dX1_rowsInAll_53 ?_
          refine lv_ldc2 C.hx C.hb C.hown (C.hts _ tw_422) dX1_rowsInAll_54 ?_
          refine lv_ldiv C.hx C.hb dX1_rowsInAll_57 (by decide) ?_
          refine lv_lconst (v := (1 : Int64)) C.hx C.hb dX1_rowsInAll_58 (by decide) ?_
          refine lv_ladd C.hx C.hb dX1_rowsInAll_59 ?_
          refine lv_lmul C.hx C.hb dX1_rowsInAll_60 ?_
          refine lv_lstore_n (lv' := [(1, .long (v1 * ((((J 1 v3.toNatClampNeg) - (J 0 v3.toNatClampNeg)) / (4096 : Int64)) + (1 : Int64)))), (4, .ref (ad (12 + v3.toNatClampNeg))), (0, .ref (ad 3)), (3, .int v3)]) C.hx C.hb dX1_rowsInAll_61 rfl hl (by decide) rfl (fun ls hl => ?_)
          refine lv_iinc (v := v3 + (1 : Int32)) (lv' := [(3, .int (v3 + (1 : Int32))), (1, .long (v1 * ((((J 1 v3.toNatClampNeg) - (J 0 v3.toNatClampNeg)) / (4096 : Int64)) + (1 : Int64)))), (4, .ref (ad (12 + v3.toNatClampNeg))), (0, .ref (ad 3))]) C.hx C.hb dX1_rowsInAll_62 hl (k := 3) rfl rfl (by decide) rfl (fun ls hl => ?_)
          refine lv_goto (tgt := 4) C.hx C.hb dX1_rowsInAll_65 (by decide) ?_
          exact ih hB (lv_sub hl [3, 1, 0] rfl) h
def fX1_rowsInAll   (I : TI) (J : TJ) : Option (Int32 × SS) :=
  fX1_rowsInAll_4 fuel (1 : Int64) (0 : Int32) I J
set_option maxHeartbeats 4000000 in
set_option maxRecDepth 100000 in
theorem tX1_rowsInAll {p : Program} {l : Launch} {e : Env} {s : State} {m : MethodId} {args : Array Value} {below : List Frame} {meth : Method} {c : Code} (C : KX p s m args meth c "BitTuner$Runs" cX1_rowsInAll 5 (some .int)) {D : va_G} {cI cJ cV : ClassId} {ad : Nat → Nat} {z : Int32 × SS}   {H : Heap} {locs : List Loc} {ls : Array Slot} {I : TI} {J : TJ}  (hB : XB D cI cJ cV ad s H locs I J)  (hl : lv_has ls 5 [(0, .ref (ad 3))]) (h : fX1_rowsInAll I J = some z) : W p l e (rmd 1) s m args below meth c H locs 0 0 (MQ below (gQi D (xw cI cJ cV ad) (xt cI cJ cV) (xL ad) s.heap.size z) args s 0 0 (gA (xL ad) s.heap.size)) (F0 m 0 ls []) := by
  unfold fX1_rowsInAll at h
  refine lv_lconst (v := (1 : Int64)) C.hx C.hb dX1_rowsInAll_0 (by decide) ?_
  refine lv_lstore_n (lv' := [(1, .long (1 : Int64)), (0, .ref (ad 3))]) C.hx C.hb dX1_rowsInAll_1 rfl hl (by decide) rfl (fun ls hl => ?_)
  refine lv_iconst (v := (0 : Int32)) C.hx C.hb dX1_rowsInAll_2 (by decide) ?_
  refine lv_istore_n (lv' := [(3, .int (0 : Int32)), (1, .long (1 : Int64)), (0, .ref (ad 3))]) C.hx C.hb dX1_rowsInAll_3 rfl hl (by decide) rfl (fun ls hl => ?_)
  exact tX1_rowsInAll_4 C  fuel hB (lv_sub hl [2, 1, 0] rfl) h
set_option maxHeartbeats 4000000 in
set_option maxRecDepth 100000 in
theorem cnX1_rowsInAll (l : Launch) (D : va_G) (cI cJ cV : ClassId) (ad : Nat → Nat) (sz : Nat)  {I : TI} {J : TJ} {z : Int32 × SS}  (h : fX1_rowsInAll I J = some z) : Met l yX1_rowsInAll (wsm yX1_rowsInAll cX1_rowsInAll 5 (some .int)) (rmd 1) (va_Pc [.ref (ad 3)] (gPre D (xw cI cJ cV ad) (xt cI cJ cV) sz I J)) (gQi D (xw cI cJ cV ad) (xt cI cJ cV) (xL ad) sz z) 0 0 (gA (xL ad) sz) :=
  g_met (by decide) xw_WL (fun p e s m below meth c hsz C hB ls hl => by subst hsz; exact tX1_rowsInAll C hB  hl h) (Nat.le_of_ble_eq_true rfl)
theorem hdX1_areFew : yX1_areFew.cls = "BitTuner$Runs" ∧ yX1_areFew.cls ≠ "java/lang/invoke/MethodHandle" ∧ yX1_areFew.cls ≠ "java/lang/invoke/VarHandle" ∧ (parseMethodDescriptor yX1_areFew.desc).map (fun d => d.parameters.length) = some 0 := by decide +kernel
def fX1_areFew   (I : TI) (J : TJ) : Option (Int32 × SS) :=
  bnd (fX1_rowsInAll I J) (fun q_1 I_1 J_1 =>
  if (4000 : Int32) < q_1 then
  some ((0 : Int32), I_1, J_1)
  else
  some ((1 : Int32), I_1, J_1))
set_option maxHeartbeats 4000000 in
set_option maxRecDepth 100000 in
theorem tX1_areFew {p : Program} {l : Launch} {e : Env} {s : State} {m : MethodId} {args : Array Value} {below : List Frame} {meth : Method} {c : Code} (C : KX p s m args meth c "BitTuner$Runs" cX1_areFew 1 (some .boolean)) {D : va_G} {cI cJ cV : ClassId} {ad : Nat → Nat} {z : Int32 × SS}   {H : Heap} {locs : List Loc} {ls : Array Slot} {I : TI} {J : TJ}  (hB : XB D cI cJ cV ad s H locs I J)  (hl : lv_has ls 1 [(0, .ref (ad 3))]) (h : fX1_areFew I J = some z) : W p l e (rmd 2) s m args below meth c H locs 0 0 (MQ below (gQi D (xw cI cJ cV ad) (xt cI cJ cV) (xL ad) s.heap.size z) args s 0 0 (gA (xL ad) s.heap.size)) (F0 m 0 ls []) := by
  unfold fX1_areFew at h
  refine lv_aload_n C.hx C.hb dX1_areFew_0 rfl (lv_at hl 0 rfl) ?_
  obtain ⟨q_1, I_1, J_1, hc_1, h⟩ := bnd_some h
  refine g_goi hB (g_runV C hB [] [] (cnX1_rowsInAll l D cI cJ cV ad H.size  hc_1) 3 rfl rfl tw_431 tw_418 tw_419 tw_36 tw_420 ⟨rfl, rfl⟩ hdX1_rowsInAll ⟨Nat.le_of_ble_eq_true rfl, Nat.le_of_ble_eq_true rfl⟩ hl.1 rfl (Nat.le_of_ble_eq_true rfl) dX1_areFew_1) (fun H locs hB => ?_)
  refine lv_sipush (v := (4000 : Int32)) C.hx C.hb dX1_areFew_4 (by decide) ?_
  refine lv_icmp_gt (tgt := 14) C.hx C.hb dX1_areFew_7 (by decide) (fun c_2 => ?_) (fun c_2 => ?_)
  · replace h := (if_pos c_2).symm.trans h
    refine lv_iconst (v := (0 : Int32)) C.hx C.hb dX1_areFew_14 (by decide) ?_
    exact g_zret C hB h (by decide) dX1_areFew_15
  · replace h := (if_neg c_2).symm.trans h
    refine lv_iconst (v := (1 : Int32)) C.hx C.hb dX1_areFew_10 (by decide) ?_
    refine lv_goto (tgt := 15) C.hx C.hb dX1_areFew_11 (by decide) ?_
    exact g_zret C hB h (by decide) dX1_areFew_15
set_option maxHeartbeats 4000000 in
set_option maxRecDepth 100000 in
theorem cnX1_areFew (l : Launch) (D : va_G) (cI cJ cV : ClassId) (ad : Nat → Nat) (sz : Nat)  {I : TI} {J : TJ} {z : Int32 × SS}  (h : fX1_areFew I J = some z) : Met l yX1_areFew (wsm yX1_areFew cX1_areFew 1 (some .boolean)) (rmd 2) (va_Pc [.ref (ad 3)] (gPre D (xw cI cJ cV ad) (xt cI cJ cV) sz I J)) (gQi D (xw cI cJ cV ad) (xt cI cJ cV) (xL ad) sz z) 0 0 (gA (xL ad) sz) :=
  g_met (by decide) xw_WL (fun p e s m below meth c hsz C hB ls hl => by subst hsz; exact tX1_areFew C hB  hl h) (Nat.le_of_ble_eq_true rfl)
theorem hdX1_toFirstRow : yX1_toFirstRow.cls = "BitTuner$Runs" ∧ yX1_toFirstRow.cls ≠ "java/lang/invoke/MethodHandle" ∧ yX1_toFirstRow.cls ≠ "java/lang/invoke/VarHandle" ∧ (parseMethodDescriptor yX1_toFirstRow.desc).map (fun d => d.parameters.length) = some 0 := by decide +kernel
def fX1_toFirstRow_2  : Nat → Int32 → TI → TJ → Option (Unit × SS)
  | 0, _, _, _ => none
  | n + 1, v1, I, J =>
    if (I 12 0) ≤ v1 then
    some ((), I, J)
    else
    if okx v1 then
    fX1_toFirstRow_2 n (v1 + (1 : Int32)) (uI I 8 (v1.toNatClampNeg) (I 1 v1.toNatClampNeg)) J
    else none
theorem eX1_toFirstRow_2  (n : Nat) (v1 : Int32) (I : TI) (J : TJ) : fX1_toFirstRow_2 (n + 1) v1 I J = (
    if (I 12 0) ≤ v1 then
    some ((), I, J)
    else
    if okx v1 then
    fX1_toFirstRow_2 n (v1 + (1 : Int32)) (uI I 8 (v1.toNatClampNeg) (I 1 v1.toNatClampNeg)) J
    else none) := rfl
set_option maxHeartbeats 4000000 in
set_option maxRecDepth 100000 in
theorem tX1_toFirstRow_2 {p : Program} {l : Launch} {e : Env} {s : State} {m : MethodId} {args : Array Value} {below : List Frame} {meth : Method} {c : Code} (C : KX p s m args meth c "BitTuner$Runs" cX1_toFirstRow 2 none) {D : va_G} {cI cJ cV : ClassId} {ad : Nat → Nat} {z : Unit × SS}   : ∀ (n : Nat), ∀ {H : Heap} {locs : List Loc} {ls : Array Slot} {I : TI} {J : TJ} {v1 : Int32}, XB D cI cJ cV ad s H locs I J → lv_has ls 2 [(0, .ref (ad 3)), (1, .int v1)] → fX1_toFirstRow_2 n v1 I J = some z → W p l e (rmd 0) s m args below meth c H locs 0 0 (MQ below (gQv D (xw cI cJ cV ad) (xt cI cJ cV) (xL ad) s.heap.size z) args s 0 0 (gA (xL ad) s.heap.size)) (F0 m 2 ls []) := by
  intro n
  induction n with
  | zero =>
    intro H locs ls I J v1 hB  hl h
    have h : (none : Option (Unit × SS)) = some z := h
    cases h
  | succ n ih =>
    intro H locs ls I J v1 hB  hl h
    replace h := (eX1_toFirstRow_2 n v1 I J).symm.trans h
    refine lv_iload_n C.hx C.hb dX1_toFirstRow_2 rfl (lv_at hl 1 rfl) ?_
    refine lv_aload_n C.hx C.hb dX1_toFirstRow_3 rfl (lv_at hl 0 rfl) ?_
    refine xg_r_program C hB tw_143 dX1_toFirstRow_4 ?_
    refine xg_p_many C hB tw_131 dX1_toFirstRow_7 ?_
    refine lv_icmp_ge (tgt := 37) C.hx C.hb dX1_toFirstRow_10 (by decide) (fun c_1 => ?_) (fun c_1 => ?_)
    · replace h := (if_pos c_1).symm.trans h
      exact g_vret C hB h dX1_toFirstRow_37
    · replace h := (if_neg c_1).symm.trans h
      refine lv_aload_n C.hx C.hb dX1_toFirstRow_13 rfl (lv_at hl 0 rfl) ?_
      refine xg_r_row C hB tw_144 dX1_toFirstRow_14 ?_
      refine lv_iload_n C.hx C.hb dX1_toFirstRow_17 rfl (lv_at hl 1 rfl) ?_
      refine lv_aload_n C.hx C.hb dX1_toFirstRow_18 rfl (lv_at hl 0 rfl) ?_
      refine xg_r_program C hB tw_143 dX1_toFirstRow_19 ?_
      refine xg_p_values C hB tw_125 dX1_toFirstRow_22 ?_
      refine lv_iload_n C.hx C.hb dX1_toFirstRow_25 rfl (lv_at hl 1 rfl) ?_
      obtain ⟨c_2, h⟩ := ite_ck h
      refine xa_values_ld C hB c_2 dX1_toFirstRow_26 ?_
      refine xg_v_a C hB c_2.2 tw_68 dX1_toFirstRow_27 ?_
      refine xa_row_st C hB c_2 dX1_toFirstRow_30 (fun H locs hB => ?_)
      refine lv_iinc (v := v1 + (1 : Int32)) (lv' := [(1, .int (v1 + (1 : Int32))), (0, .ref (ad 3))]) C.hx C.hb dX1_toFirstRow_31 hl (k := 1) rfl rfl (by decide) rfl (fun ls hl => ?_)
      refine lv_goto (tgt := 2) C.hx C.hb dX1_toFirstRow_34 (by decide) ?_
      exact ih hB (lv_sub hl [1, 0] rfl) h
def fX1_toFirstRow   (I : TI) (J : TJ) : Option (Unit × SS) :=
  fX1_toFirstRow_2 fuel (0 : Int32) I J
set_option maxHeartbeats 4000000 in
set_option maxRecDepth 100000 in
theorem tX1_toFirstRow {p : Program} {l : Launch} {e : Env} {s : State} {m : MethodId} {args : Array Value} {below : List Frame} {meth : Method} {c : Code} (C : KX p s m args meth c "BitTuner$Runs" cX1_toFirstRow 2 none) {D : va_G} {cI cJ cV : ClassId} {ad : Nat → Nat} {z : Unit × SS}   {H : Heap} {locs : List Loc} {ls : Array Slot} {I : TI} {J : TJ}  (hB : XB D cI cJ cV ad s H locs I J)  (hl : lv_has ls 2 [(0, .ref (ad 3))]) (h : fX1_toFirstRow I J = some z) : W p l e (rmd 0) s m args below meth c H locs 0 0 (MQ below (gQv D (xw cI cJ cV ad) (xt cI cJ cV) (xL ad) s.heap.size z) args s 0 0 (gA (xL ad) s.heap.size)) (F0 m 0 ls []) := by
  unfold fX1_toFirstRow at h
  refine lv_iconst (v := (0 : Int32)) C.hx C.hb dX1_toFirstRow_0 (by decide) ?_
  refine lv_istore_n (lv' := [(1, .int (0 : Int32)), (0, .ref (ad 3))]) C.hx C.hb dX1_toFirstRow_1 rfl hl (by decide) rfl (fun ls hl => ?_)
  exact tX1_toFirstRow_2 C  fuel hB (lv_sub hl [1, 0] rfl) h
set_option maxHeartbeats 4000000 in
set_option maxRecDepth 100000 in
theorem cnX1_toFirstRow (l : Launch) (D : va_G) (cI cJ cV : ClassId) (ad : Nat → Nat) (sz : Nat)  {I : TI} {J : TJ} {z : Unit × SS}  (h : fX1_toFirstRow I J = some z) : Met l yX1_toFirstRow (wsm yX1_toFirstRow cX1_toFirstRow 2 none) (rmd 0) (va_Pc [.ref (ad 3)] (gPre D (xw cI cJ cV ad) (xt cI cJ cV) sz I J)) (gQv D (xw cI cJ cV ad) (xt cI cJ cV) (xL ad) sz z) 0 0 (gA (xL ad) sz) :=
  g_met (by decide) xw_WL (fun p e s m below meth c hsz C hB ls hl => by subst hsz; exact tX1_toFirstRow C hB  hl h) (Nat.le_of_ble_eq_true rfl)
theorem hdX1_toNextRow : yX1_toNextRow.cls = "BitTuner$Runs" ∧ yX1_toNextRow.cls ≠ "java/lang/invoke/MethodHandle" ∧ yX1_toNextRow.cls ≠ "java/lang/invoke/VarHandle" ∧ (parseMethodDescriptor yX1_toNextRow.desc).map (fun d => d.parameters.length) = some 0 := by decide +kernel
def fX1_toNextRow_10  : Nat → Int32 → TI → TJ → Option (Unit × SS)
  | 0, _, _, _ => none
  | n + 1, v1, I, J =>
    if v1 < 0 then
    some ((), I, J)
    else
    if okx v1 then
    if (I 0 v1.toNatClampNeg) = 0 then
    if (J 1 v1.toNatClampNeg) ≤ ((I 8 v1.toNatClampNeg).toInt64) then
    fX1_toNextRow_10 n (v1 + (-1 : Int32)) (uI I 8 (v1.toNatClampNeg) (I 1 v1.toNatClampNeg)) J
    else
    some ((), (uI I 8 (v1.toNatClampNeg) ((I 8 v1.toNatClampNeg) + (4096 : Int32))), J)
    else
    fX1_toNextRow_10 n (v1 + (-1 : Int32)) I J
    else none
theorem eX1_toNextRow_10  (n : Nat) (v1 : Int32) (I : TI) (J : TJ) : fX1_toNextRow_10 (n + 1) v1 I J = (
    if v1 < 0 then
    some ((), I, J)
    else
    if okx v1 then
    if (I 0 v1.toNatClampNeg) = 0 then
    if (J 1 v1.toNatClampNeg) ≤ ((I 8 v1.toNatClampNeg).toInt64) then
    fX1_toNextRow_10 n (v1 + (-1 : Int32)) (uI I 8 (v1.toNatClampNeg) (I 1 v1.toNatClampNeg)) J
    else
    some ((), (uI I 8 (v1.toNatClampNeg) ((I 8 v1.toNatClampNeg) + (4096 : Int32))), J)
    else
    fX1_toNextRow_10 n (v1 + (-1 : Int32)) I J
    else none) := rfl
set_option maxHeartbeats 4000000 in
set_option maxRecDepth 100000 in
theorem tX1_toNextRow_10 {p : Program} {l : Launch} {e : Env} {s : State} {m : MethodId} {args : Array Value} {below : List Frame} {meth : Method} {c : Code} (C : KX p s m args meth c "BitTuner$Runs" cX1_toNextRow 3 none) {D : va_G} {cI cJ cV : ClassId} {ad : Nat → Nat} {z : Unit × SS}   : ∀ (n : Nat), ∀ {H : Heap} {locs : List Loc} {ls : Array Slot} {I : TI} {J : TJ} {v1 : Int32}, XB D cI cJ cV ad s H locs I J → lv_has ls 3 [(0, .ref (ad 3)), (1, .int v1)] → fX1_toNextRow_10 n v1 I J = some z → W p l e (rmd 0) s m args below meth c H locs 0 0 (MQ below (gQv D (xw cI cJ cV ad) (xt cI cJ cV) (xL ad) s.heap.size z) args s 0 0 (gA (xL ad) s.heap.size)) (F0 m 10 ls []) := by
  intro n
  induction n with
  | zero =>
    intro H locs ls I J v1 hB  hl h
    have h : (none : Option (Unit × SS)) = some z := h
    cases h
  | succ n ih =>
    intro H locs ls I J v1 hB  hl h
    replace h := (eX1_toNextRow_10 n v1 I J).symm.trans h
    refine lv_iload_n C.hx C.hb dX1_toNextRow_10 rfl (lv_at hl 1 rfl) ?_
    refine lv_if_lt (tgt := 75) C.hx C.hb dX1_toNextRow_11 (by decide) (fun c_1 => ?_) (fun c_1 => ?_)
    · replace h := (if_pos c_1).symm.trans h
      exact g_vret C hB h dX1_toNextRow_75
    · replace h := (if_neg c_1).symm.trans h
      refine lv_aload_n C.hx C.hb dX1_toNextRow_14 rfl (lv_at hl 0 rfl) ?_
      refine xg_r_program C hB tw_143 dX1_toNextRow_15 ?_
      refine xg_p_values C hB tw_125 dX1_toNextRow_18 ?_
      refine lv_iload_n C.hx C.hb dX1_toNextRow_21 rfl (lv_at hl 1 rfl) ?_
      obtain ⟨c_2, h⟩ := ite_ck h
      refine xa_values_ld C hB c_2 dX1_toNextRow_22 ?_
      refine lv_astore_n (lv' := [(2, .ref (ad (12 + v1.toNatClampNeg))), (0, .ref (ad 3)), (1, .int v1)]) C.hx C.hb dX1_toNextRow_23 rfl hl (by decide) rfl (fun ls hl => ?_)
      refine lv_aload_n C.hx C.hb dX1_toNextRow_24 rfl (lv_at hl 0 rfl) ?_
      refine xg_v_kind C hB c_2.2 tw_64 dX1_toNextRow_25 ?_
      refine lv_if_ne (tgt := 69) C.hx C.hb dX1_toNextRow_28 (by decide) (fun c_3 => ?_) (fun c_3 => ?_)
      · replace h := (if_neg c_3).symm.trans h
        refine lv_iinc (v := v1 + (-1 : Int32)) (lv' := [(1, .int (v1 + (-1 : Int32))), (2, .ref (ad (12 + v1.toNatClampNeg))), (0, .ref (ad 3))]) C.hx C.hb dX1_toNextRow_69 hl (k := 2) rfl rfl (by decide) rfl (fun ls hl => ?_)
        refine lv_goto (tgt := 10) C.hx C.hb dX1_toNextRow_72 (by decide) ?_
        exact ih hB (lv_sub hl [2, 0] rfl) h
      · replace h := (if_pos c_3).symm.trans h
        refine lv_aload_n C.hx C.hb dX1_toNextRow_31 rfl (lv_at hl 1 rfl) ?_
        refine xg_r_row C hB tw_144 dX1_toNextRow_32 ?_
        refine lv_iload_n C.hx C.hb dX1_toNextRow_35 rfl (lv_at hl 2 rfl) ?_
        refine xa_row_ld C hB c_2 dX1_toNextRow_36 ?_
        refine lv_i2l C.hx C.hb dX1_toNextRow_37 rfl ?_
        refine lv_aload_n C.hx C.hb dX1_toNextRow_38 rfl (lv_at hl 0 rfl) ?_
        refine xg_v_high C hB c_2.2 tw_94 dX1_toNextRow_39 ?_
        refine g_lcmp_ge C (tgt := 59) dX1_toNextRow_42 dX1_toNextRow_43 (by decide) (fun c_4 => ?_) (fun c_4 => ?_)
        · replace h := (if_pos c_4).symm.trans h
          refine lv_aload_n C.hx C.hb dX1_toNextRow_59 rfl (lv_at hl 1 rfl) ?_
          refine xg_r_row C hB tw_144 dX1_toNextRow_60 ?_
          refine lv_iload_n C.hx C.hb dX1_toNextRow_63 rfl (lv_at hl 2 rfl) ?_
          refine lv_aload_n C.hx C.hb dX1_toNextRow_64 rfl (lv_at hl 0 rfl) ?_
          refine xg_v_a C hB c_2.2 tw_68 dX1_toNextRow_65 ?_
          refine xa_row_st C hB c_2 dX1_toNextRow_68 (fun H locs hB => ?_)
          refine lv_iinc (v := v1 + (-1 : Int32)) (lv' := [(1, .int (v1 + (-1 : Int32))), (2, .ref (ad (12 + v1.toNatClampNeg))), (0, .ref (ad 3))]) C.hx C.hb dX1_toNextRow_69 hl (k := 2) rfl rfl (by decide) rfl (fun ls hl => ?_)
          refine lv_goto (tgt := 10) C.hx C.hb dX1_toNextRow_72 (by decide) ?_
          exact ih hB (lv_sub hl [2, 0] rfl) h
        · replace h := (if_neg c_4).symm.trans h
          refine lv_aload_n C.hx C.hb dX1_toNextRow_46 rfl (lv_at hl 1 rfl) ?_
          refine xg_r_row C hB tw_144 dX1_toNextRow_47 ?_
          refine lv_iload_n C.hx C.hb dX1_toNextRow_50 rfl (lv_at hl 2 rfl) ?_
          refine lv_dup2_11 C.hx C.hb dX1_toNextRow_51 rfl rfl ?_
          refine xa_row_ld C hB c_2 dX1_toNextRow_52 ?_
          refine lv_sipush (v := (4096 : Int32)) C.hx C.hb dX1_toNextRow_53 (by decide) ?_
          refine lv_iadd C.hx C.hb dX1_toNextRow_56 ?_
          refine xa_row_st C hB c_2 dX1_toNextRow_57 (fun H locs hB => ?_)
          exact g_vret C hB h dX1_toNextRow_58
def fX1_toNextRow   (I : TI) (J : TJ) : Option (Unit × SS) :=
  fX1_toNextRow_10 fuel ((I 12 0) - (1 : Int32)) I J
set_option maxHeartbeats 4000000 in
set_option maxRecDepth 100000 in
theorem tX1_toNextRow {p : Program} {l : Launch} {e : Env} {s : State} {m : MethodId} {args : Array Value} {below : List Frame} {meth : Method} {c : Code} (C : KX p s m args meth c "BitTuner$Runs" cX1_toNextRow 3 none) {D : va_G} {cI cJ cV : ClassId} {ad : Nat → Nat} {z : Unit × SS}   {H : Heap} {locs : List Loc} {ls : Array Slot} {I : TI} {J : TJ}  (hB : XB D cI cJ cV ad s H locs I J)  (hl : lv_has ls 3 [(0, .ref (ad 3))]) (h : fX1_toNextRow I J = some z) : W p l e (rmd 0) s m args below meth c H locs 0 0 (MQ below (gQv D (xw cI cJ cV ad) (xt cI cJ cV) (xL ad) s.heap.size z) args s 0 0 (gA (xL ad) s.heap.size)) (F0 m 0 ls []) := by
  unfold fX1_toNextRow at h
  refine lv_aload_n C.hx C.hb dX1_toNextRow_0 rfl (lv_at hl 0 rfl) ?_
  refine xg_r_program C hB tw_143 dX1_toNextRow_1 ?_
  refine xg_p_many C hB tw_131 dX1_toNextRow_4 ?_
  refine lv_iconst (v := (1 : Int32)) C.hx C.hb dX1_toNextRow_7 (by decide) ?_
  refine lv_isub C.hx C.hb dX1_toNextRow_8 ?_
  refine lv_istore_n (lv' := [(1, .int ((I 12 0) - (1 : Int32))), (0, .ref (ad 3))]) C.hx C.hb dX1_toNextRow_9 rfl hl (by decide) rfl (fun ls hl => ?_)
  exact tX1_toNextRow_10 C  fuel hB (lv_sub hl [1, 0] rfl) h
set_option maxHeartbeats 4000000 in
set_option maxRecDepth 100000 in
theorem cnX1_toNextRow (l : Launch) (D : va_G) (cI cJ cV : ClassId) (ad : Nat → Nat) (sz : Nat)  {I : TI} {J : TJ} {z : Unit × SS}  (h : fX1_toNextRow I J = some z) : Met l yX1_toNextRow (wsm yX1_toNextRow cX1_toNextRow 3 none) (rmd 0) (va_Pc [.ref (ad 3)] (gPre D (xw cI cJ cV ad) (xt cI cJ cV) sz I J)) (gQv D (xw cI cJ cV ad) (xt cI cJ cV) (xL ad) sz z) 0 0 (gA (xL ad) sz) :=
  g_met (by decide) xw_WL (fun p e s m below meth c hsz C hB ls hl => by subst hsz; exact tX1_toNextRow C hB  hl h) (Nat.le_of_ble_eq_true rfl)
theorem hdX1_keepRow : yX1_keepRow.cls = "BitTuner$Runs" ∧ yX1_keepRow.cls ≠ "java/lang/invoke/MethodHandle" ∧ yX1_keepRow.cls ≠ "java/lang/invoke/VarHandle" ∧ (parseMethodDescriptor yX1_keepRow.desc).map (fun d => d.parameters.length) = some 0 := by decide +kernel
def fX1_keepRow_2  : Nat → Int32 → TI → TJ → Option (Unit × SS)
  | 0, _, _, _ => none
  | n + 1, v1, I, J =>
    if (16 : Int32) ≤ v1 then
    some ((), I, J)
    else
    bnd (fX0_isInput v1 I J) (fun q_2 I_2 J_2 =>
    if q_2 = 0 then
    if okx v1 then
    fX1_keepRow_2 n (v1 + (1 : Int32)) (uI I_2 9 (v1.toNatClampNeg) (-2 : Int32)) J_2
    else none
    else
    if okx v1 then
    fX1_keepRow_2 n (v1 + (1 : Int32)) (uI I_2 9 (v1.toNatClampNeg) (I_2 8 v1.toNatClampNeg)) J_2
    else none)
theorem eX1_keepRow_2  (n : Nat) (v1 : Int32) (I : TI) (J : TJ) : fX1_keepRow_2 (n + 1) v1 I J = (
    if (16 : Int32) ≤ v1 then
    some ((), I, J)
    else
    bnd (fX0_isInput v1 I J) (fun q_2 I_2 J_2 =>
    if q_2 = 0 then
    if okx v1 then
    fX1_keepRow_2 n (v1 + (1 : Int32)) (uI I_2 9 (v1.toNatClampNeg) (-2 : Int32)) J_2
    else none
    else
    if okx v1 then
    fX1_keepRow_2 n (v1 + (1 : Int32)) (uI I_2 9 (v1.toNatClampNeg) (I_2 8 v1.toNatClampNeg)) J_2
    else none)) := rfl
set_option maxHeartbeats 4000000 in
set_option maxRecDepth 100000 in
theorem tX1_keepRow_2 {p : Program} {l : Launch} {e : Env} {s : State} {m : MethodId} {args : Array Value} {below : List Frame} {meth : Method} {c : Code} (C : KX p s m args meth c "BitTuner$Runs" cX1_keepRow 2 none) {D : va_G} {cI cJ cV : ClassId} {ad : Nat → Nat} {z : Unit × SS}   : ∀ (n : Nat), ∀ {H : Heap} {locs : List Loc} {ls : Array Slot} {I : TI} {J : TJ} {v1 : Int32}, XB D cI cJ cV ad s H locs I J → lv_has ls 2 [(0, .ref (ad 3)), (1, .int v1)] → fX1_keepRow_2 n v1 I J = some z → W p l e (rmd 2) s m args below meth c H locs 0 0 (MQ below (gQv D (xw cI cJ cV ad) (xt cI cJ cV) (xL ad) s.heap.size z) args s 0 0 (gA (xL ad) s.heap.size)) (F0 m 2 ls []) := by
  intro n
  induction n with
  | zero =>
    intro H locs ls I J v1 hB  hl h
    have h : (none : Option (Unit × SS)) = some z := h
    cases h
  | succ n ih =>
    intro H locs ls I J v1 hB  hl h
    replace h := (eX1_keepRow_2 n v1 I J).symm.trans h
    refine lv_iload_n C.hx C.hb dX1_keepRow_2 rfl (lv_at hl 1 rfl) ?_
    refine lv_bipush (v := (16 : Int32)) C.hx C.hb dX1_keepRow_3 (by decide) ?_
    refine lv_icmp_ge (tgt := 42) C.hx C.hb dX1_keepRow_5 (by decide) (fun c_1 => ?_) (fun c_1 => ?_)
    · replace h := (if_pos c_1).symm.trans h
      exact g_vret C hB h dX1_keepRow_42
    · replace h := (if_neg c_1).symm.trans h
      refine lv_aload_n C.hx C.hb dX1_keepRow_8 rfl (lv_at hl 0 rfl) ?_
      refine xg_r_worstRow C hB tw_149 dX1_keepRow_9 ?_
      refine lv_iload_n C.hx C.hb dX1_keepRow_12 rfl (lv_at hl 1 rfl) ?_
      refine lv_aload_n C.hx C.hb dX1_keepRow_13 rfl (lv_at hl 0 rfl) ?_
      refine xg_r_program C hB tw_143 dX1_keepRow_14 ?_
      refine lv_iload_n C.hx C.hb dX1_keepRow_17 rfl (lv_at hl 1 rfl) ?_
      obtain ⟨q_2, I_2, J_2, hc_2, h⟩ := bnd_some h
      refine g_goi hB (g_runV C hB [.int v1] [.int v1, .ref (ad 8)] (cnX0_isInput l D cI cJ cV ad H.size  hc_2) 1 rfl rfl tw_446 tw_351 tw_352 tw_34 tw_353 ⟨rfl, rfl⟩ hdX0_isInput ⟨Nat.le_of_ble_eq_true rfl, Nat.le_of_ble_eq_true rfl⟩ hl.1 rfl (Nat.le_of_ble_eq_true rfl) dX1_keepRow_18) (fun H locs hB => ?_)
      refine lv_if_eq (tgt := 33) C.hx C.hb dX1_keepRow_21 (by decide) (fun c_3 => ?_) (fun c_3 => ?_)
      · replace h := (if_pos c_3).symm.trans h
        refine lv_bipush (v := (-2 : Int32)) C.hx C.hb dX1_keepRow_33 (by decide) ?_
        obtain ⟨c_4, h⟩ := ite_ck h
        refine xa_worstRow_st C hB c_4 dX1_keepRow_35 (fun H locs hB => ?_)
        refine lv_iinc (v := v1 + (1 : Int32)) (lv' := [(1, .int (v1 + (1 : Int32))), (0, .ref (ad 3))]) C.hx C.hb dX1_keepRow_36 hl (k := 1) rfl rfl (by decide) rfl (fun ls hl => ?_)
        refine lv_goto (tgt := 2) C.hx C.hb dX1_keepRow_39 (by decide) ?_
        exact ih hB (lv_sub hl [1, 0] rfl) h
      · replace h := (if_neg c_3).symm.trans h
        refine lv_aload_n C.hx C.hb dX1_keepRow_24 rfl (lv_at hl 0 rfl) ?_
        refine xg_r_row C hB tw_144 dX1_keepRow_25 ?_
        refine lv_iload_n C.hx C.hb dX1_keepRow_28 rfl (lv_at hl 1 rfl) ?_
        obtain ⟨c_5, h⟩ := ite_ck h
        refine xa_row_ld C hB c_5 dX1_keepRow_29 ?_
        refine lv_goto (tgt := 35) C.hx C.hb dX1_keepRow_30 (by decide) ?_
        refine xa_worstRow_st C hB c_5 dX1_keepRow_35 (fun H locs hB => ?_)
        refine lv_iinc (v := v1 + (1 : Int32)) (lv' := [(1, .int (v1 + (1 : Int32))), (0, .ref (ad 3))]) C.hx C.hb dX1_keepRow_36 hl (k := 1) rfl rfl (by decide) rfl (fun ls hl => ?_)
        refine lv_goto (tgt := 2) C.hx C.hb dX1_keepRow_39 (by decide) ?_
        exact ih hB (lv_sub hl [1, 0] rfl) h
def fX1_keepRow   (I : TI) (J : TJ) : Option (Unit × SS) :=
  fX1_keepRow_2 fuel (0 : Int32) I J
set_option maxHeartbeats 4000000 in
set_option maxRecDepth 100000 in
theorem tX1_keepRow {p : Program} {l : Launch} {e : Env} {s : State} {m : MethodId} {args : Array Value} {below : List Frame} {meth : Method} {c : Code} (C : KX p s m args meth c "BitTuner$Runs" cX1_keepRow 2 none) {D : va_G} {cI cJ cV : ClassId} {ad : Nat → Nat} {z : Unit × SS}   {H : Heap} {locs : List Loc} {ls : Array Slot} {I : TI} {J : TJ}  (hB : XB D cI cJ cV ad s H locs I J)  (hl : lv_has ls 2 [(0, .ref (ad 3))]) (h : fX1_keepRow I J = some z) : W p l e (rmd 2) s m args below meth c H locs 0 0 (MQ below (gQv D (xw cI cJ cV ad) (xt cI cJ cV) (xL ad) s.heap.size z) args s 0 0 (gA (xL ad) s.heap.size)) (F0 m 0 ls []) := by
  unfold fX1_keepRow at h
  refine lv_iconst (v := (0 : Int32)) C.hx C.hb dX1_keepRow_0 (by decide) ?_
  refine lv_istore_n (lv' := [(1, .int (0 : Int32)), (0, .ref (ad 3))]) C.hx C.hb dX1_keepRow_1 rfl hl (by decide) rfl (fun ls hl => ?_)
  exact tX1_keepRow_2 C  fuel hB (lv_sub hl [1, 0] rfl) h
set_option maxHeartbeats 4000000 in
set_option maxRecDepth 100000 in
theorem cnX1_keepRow (l : Launch) (D : va_G) (cI cJ cV : ClassId) (ad : Nat → Nat) (sz : Nat)  {I : TI} {J : TJ} {z : Unit × SS}  (h : fX1_keepRow I J = some z) : Met l yX1_keepRow (wsm yX1_keepRow cX1_keepRow 2 none) (rmd 2) (va_Pc [.ref (ad 3)] (gPre D (xw cI cJ cV ad) (xt cI cJ cV) sz I J)) (gQv D (xw cI cJ cV ad) (xt cI cJ cV) (xL ad) sz z) 0 0 (gA (xL ad) sz) :=
  g_met (by decide) xw_WL (fun p e s m below meth c hsz C hB ls hl => by subst hsz; exact tX1_keepRow C hB  hl h) (Nat.le_of_ble_eq_true rfl)
theorem hdX1_greatestMiss : yX1_greatestMiss.cls = "BitTuner$Runs" ∧ yX1_greatestMiss.cls ≠ "java/lang/invoke/MethodHandle" ∧ yX1_greatestMiss.cls ≠ "java/lang/invoke/VarHandle" ∧ (parseMethodDescriptor yX1_greatestMiss.desc).map (fun d => d.parameters.length) = some 1 := by decide +kernel
def fX1_greatestMiss_43 (kf_13 : Int32 → Int32 → Int64 → TI → TJ → Option (Int64 × SS)) (v1 : Int32) (v2 : Int32) (v3 : Int64) (I : TI) (J : TJ) : Option (Int64 × SS) :=
  bnd (fX1_toNextRow I J) (fun q_7 I_7 J_7 =>
  kf_13 v1 (v2 + (-1 : Int32)) v3 I_7 J_7)
set_option maxHeartbeats 4000000 in
set_option maxRecDepth 100000 in
theorem tX1_greatestMiss_43 {p : Program} {l : Launch} {e : Env} {s : State} {m : MethodId} {args : Array Value} {below : List Frame} {meth : Method} {c : Code} (C : KX p s m args meth c "BitTuner$Runs" cX1_greatestMiss 7 (some .long)) {D : va_G} {cI cJ cV : ClassId} {ad : Nat → Nat} {z : Int64 × SS} {kf_13 : Int32 → Int32 → Int64 → TI → TJ → Option (Int64 × SS)} (kt_13 : ∀ {H : Heap} {locs : List Loc} {ls : Array Slot} {I : TI} {J : TJ} {v1 : Int32} {v2 : Int32} {v3 : Int64}, XB D cI cJ cV ad s H locs I J → lv_has ls 7 [(0, .ref (ad 3)), (1, .int v1), (2, .int v2), (3, .long v3)] → kf_13 v1 v2 v3 I J = some z → W p l e (rmd 4) s m args below meth c H locs 0 0 (MQ below (gQl D (xw cI cJ cV ad) (xt cI cJ cV) (xL ad) s.heap.size z) args s 0 0 (gA (xL ad) s.heap.size)) (F0 m 13 ls [])) {H : Heap} {locs : List Loc} {ls : Array Slot} {I : TI} {J : TJ} {v1 : Int32} {v2 : Int32} {v3 : Int64} (hB : XB D cI cJ cV ad s H locs I J)  (hl : lv_has ls 7 [(0, .ref (ad 3)), (1, .int v1), (2, .int v2), (3, .long v3)]) (h : fX1_greatestMiss_43 kf_13 v1 v2 v3 I J = some z) : W p l e (rmd 4) s m args below meth c H locs 0 0 (MQ below (gQl D (xw cI cJ cV ad) (xt cI cJ cV) (xL ad) s.heap.size z) args s 0 0 (gA (xL ad) s.heap.size)) (F0 m 43 ls []) := by
  unfold fX1_greatestMiss_43 at h
  refine lv_aload_n C.hx C.hb dX1_greatestMiss_43 rfl (lv_at hl 0 rfl) ?_
  obtain ⟨q_7, I_7, J_7, hc_7, h⟩ := bnd_some h
  refine g_gov hB (g_runV C hB [] [] (cnX1_toNextRow l D cI cJ cV ad H.size  hc_7) 3 rfl rfl tw_447 tw_449 tw_9 tw_36 tw_450 ⟨rfl, rfl⟩ hdX1_toNextRow ⟨Nat.le_of_ble_eq_true rfl, Nat.le_of_ble_eq_true rfl⟩ hl.1 rfl (Nat.le_of_ble_eq_true rfl) dX1_greatestMiss_44) (fun H locs hB => ?_)
  refine lv_iinc (v := v2 + (-1 : Int32)) (lv' := [(2, .int (v2 + (-1 : Int32))), (0, .ref (ad 3)), (1, .int v1), (3, .long v3)]) C.hx C.hb dX1_greatestMiss_47 hl (k := 2) rfl rfl (by decide) rfl (fun ls hl => ?_)
  refine lv_goto (tgt := 13) C.hx C.hb dX1_greatestMiss_50 (by decide) ?_
  exact kt_13 hB (lv_sub hl [1, 2, 0, 3] rfl) h
def fX1_greatestMiss_13  : Nat → Int32 → Int32 → Int64 → TI → TJ → Option (Int64 × SS)
  | 0, _, _, _, _, _ => none
  | n + 1, v1, v2, v3, I, J =>
    if v2 ≤ 0 then
    some (v3, I, J)
    else
    bnd (fX1_workOut v1 I J) (fun q_4 I_4 J_4 =>
    bnd (fX1_missOf v1 I_4 J_4) (fun q_5 I_5 J_5 =>
    if q_5 ≤ v3 then
    fX1_greatestMiss_43 (fX1_greatestMiss_13 n) v1 v2 v3 I_5 J_5
    else
    bnd (fX1_keepRow I_5 J_5) (fun q_8 I_8 J_8 =>
    fX1_greatestMiss_43 (fX1_greatestMiss_13 n) v1 v2 q_5 I_8 J_8)))
theorem eX1_greatestMiss_13  (n : Nat) (v1 : Int32) (v2 : Int32) (v3 : Int64) (I : TI) (J : TJ) : fX1_greatestMiss_13 (n + 1) v1 v2 v3 I J = (
    if v2 ≤ 0 then
    some (v3, I, J)
    else
    bnd (fX1_workOut v1 I J) (fun q_4 I_4 J_4 =>
    bnd (fX1_missOf v1 I_4 J_4) (fun q_5 I_5 J_5 =>
    if q_5 ≤ v3 then
    fX1_greatestMiss_43 (fX1_greatestMiss_13 n) v1 v2 v3 I_5 J_5
    else
    bnd (fX1_keepRow I_5 J_5) (fun q_8 I_8 J_8 =>
    fX1_greatestMiss_43 (fX1_greatestMiss_13 n) v1 v2 q_5 I_8 J_8)))) := rfl
set_option maxHeartbeats 4000000 in
set_option maxRecDepth 100000 in
theorem tX1_greatestMiss_13 {p : Program} {l : Launch} {e : Env} {s : State} {m : MethodId} {args : Array Value} {below : List Frame} {meth : Method} {c : Code} (C : KX p s m args meth c "BitTuner$Runs" cX1_greatestMiss 7 (some .long)) {D : va_G} {cI cJ cV : ClassId} {ad : Nat → Nat} {z : Int64 × SS}   : ∀ (n : Nat), ∀ {H : Heap} {locs : List Loc} {ls : Array Slot} {I : TI} {J : TJ} {v1 : Int32} {v2 : Int32} {v3 : Int64}, XB D cI cJ cV ad s H locs I J → lv_has ls 7 [(0, .ref (ad 3)), (1, .int v1), (2, .int v2), (3, .long v3)] → fX1_greatestMiss_13 n v1 v2 v3 I J = some z → W p l e (rmd 4) s m args below meth c H locs 0 0 (MQ below (gQl D (xw cI cJ cV ad) (xt cI cJ cV) (xL ad) s.heap.size z) args s 0 0 (gA (xL ad) s.heap.size)) (F0 m 13 ls []) := by
  intro n
  induction n with
  | zero =>
    intro H locs ls I J v1 v2 v3 hB  hl h
    have h : (none : Option (Int64 × SS)) = some z := h
    cases h
  | succ n ih =>
    intro H locs ls I J v1 v2 v3 hB  hl h
    replace h := (eX1_greatestMiss_13 n v1 v2 v3 I J).symm.trans h
    refine lv_iload_n C.hx C.hb dX1_greatestMiss_13 rfl (lv_at hl 2 rfl) ?_
    refine lv_if_le (tgt := 53) C.hx C.hb dX1_greatestMiss_14 (by decide) (fun c_3 => ?_) (fun c_3 => ?_)
    · replace h := (if_pos c_3).symm.trans h
      refine lv_lload_n C.hx C.hb dX1_greatestMiss_53 rfl (lv_at hl 3 rfl) ?_
      exact g_lret C hB h dX1_greatestMiss_54
    · replace h := (if_neg c_3).symm.trans h
      refine lv_aload_n C.hx C.hb dX1_greatestMiss_17 rfl (lv_at hl 0 rfl) ?_
      refine lv_iload_n C.hx C.hb dX1_greatestMiss_18 rfl (lv_at hl 1 rfl) ?_
      obtain ⟨q_4, I_4, J_4, hc_4, h⟩ := bnd_some h
      refine g_gov hB (g_runV C hB [.int v1] [] (cnX1_workOut l D cI cJ cV ad H.size  hc_4) 3 rfl rfl tw_370 tw_372 tw_6 tw_36 tw_373 ⟨rfl, rfl⟩ hdX1_workOut ⟨Nat.le_of_ble_eq_true rfl, Nat.le_of_ble_eq_true rfl⟩ hl.1 rfl (Nat.le_of_ble_eq_true rfl) dX1_greatestMiss_19) (fun H locs hB => ?_)
      refine lv_aload_n C.hx C.hb dX1_greatestMiss_22 rfl (lv_at hl 0 rfl) ?_
      refine lv_iload_n C.hx C.hb dX1_greatestMiss_23 rfl (lv_at hl 1 rfl) ?_
      obtain ⟨q_5, I_5, J_5, hc_5, h⟩ := bnd_some h
      refine g_gol hB (g_runV C hB [.int v1] [] (cnX1_missOf l D cI cJ cV ad H.size  hc_5) 3 rfl rfl tw_441 tw_399 tw_400 tw_36 tw_401 ⟨rfl, rfl⟩ hdX1_missOf ⟨Nat.le_of_ble_eq_true rfl, Nat.le_of_ble_eq_true rfl⟩ hl.1 rfl (Nat.le_of_ble_eq_true rfl) dX1_greatestMiss_24) (fun H locs hB => ?_)
      refine lv_lstore (lv' := [(5, .long q_5), (0, .ref (ad 3)), (1, .int v1), (2, .int v2), (3, .long v3)]) C.hx C.hb dX1_greatestMiss_27 hl (by decide) rfl (fun ls hl => ?_)
      refine lv_lload C.hx C.hb dX1_greatestMiss_29 (lv_at hl 0 rfl) ?_
      refine lv_lload_n C.hx C.hb dX1_greatestMiss_31 rfl (lv_at hl 4 rfl) ?_
      refine g_lcmp_le C (tgt := 43) dX1_greatestMiss_32 dX1_greatestMiss_33 (by decide) (fun c_6 => ?_) (fun c_6 => ?_)
      · replace h := (if_pos c_6).symm.trans h
        exact tX1_greatestMiss_43 C (ih) hB (lv_sub hl [1, 2, 3, 4] rfl) h
      · replace h := (if_neg c_6).symm.trans h
        refine lv_lload C.hx C.hb dX1_greatestMiss_36 (lv_at hl 0 rfl) ?_
        refine lv_lstore_n (lv' := [(3, .long q_5), (5, .long q_5), (0, .ref (ad 3)), (1, .int v1), (2, .int v2)]) C.hx C.hb dX1_greatestMiss_38 rfl hl (by decide) rfl (fun ls hl => ?_)
        refine lv_aload_n C.hx C.hb dX1_greatestMiss_39 rfl (lv_at hl 2 rfl) ?_
        obtain ⟨q_8, I_8, J_8, hc_8, h⟩ := bnd_some h
        refine g_gov hB (g_runV C hB [] [] (cnX1_keepRow l D cI cJ cV ad H.size  hc_8) 3 rfl rfl tw_442 tw_444 tw_8 tw_36 tw_445 ⟨rfl, rfl⟩ hdX1_keepRow ⟨Nat.le_of_ble_eq_true rfl, Nat.le_of_ble_eq_true rfl⟩ hl.1 rfl (Nat.le_of_ble_eq_true rfl) dX1_greatestMiss_40) (fun H locs hB => ?_)
        exact tX1_greatestMiss_43 C (ih) hB (lv_sub hl [2, 3, 4, 0] rfl) h
def fX1_greatestMiss  (v1 : Int32) (I : TI) (J : TJ) : Option (Int64 × SS) :=
  bnd (fX1_rowsInAll I J) (fun q_1 I_1 J_1 =>
  bnd (fX1_toFirstRow I_1 J_1) (fun q_2 I_2 J_2 =>
  fX1_greatestMiss_13 fuel v1 q_1 (-1 : Int64) I_2 J_2))
set_option maxHeartbeats 4000000 in
set_option maxRecDepth 100000 in
theorem tX1_greatestMiss {p : Program} {l : Launch} {e : Env} {s : State} {m : MethodId} {args : Array Value} {below : List Frame} {meth : Method} {c : Code} (C : KX p s m args meth c "BitTuner$Runs" cX1_greatestMiss 7 (some .long)) {D : va_G} {cI cJ cV : ClassId} {ad : Nat → Nat} {z : Int64 × SS}   {H : Heap} {locs : List Loc} {ls : Array Slot} {I : TI} {J : TJ} {v1 : Int32} (hB : XB D cI cJ cV ad s H locs I J)  (hl : lv_has ls 7 [(0, .ref (ad 3)), (1, .int v1)]) (h : fX1_greatestMiss v1 I J = some z) : W p l e (rmd 4) s m args below meth c H locs 0 0 (MQ below (gQl D (xw cI cJ cV ad) (xt cI cJ cV) (xL ad) s.heap.size z) args s 0 0 (gA (xL ad) s.heap.size)) (F0 m 0 ls []) := by
  unfold fX1_greatestMiss at h
  refine lv_aload_n C.hx C.hb dX1_greatestMiss_0 rfl (lv_at hl 0 rfl) ?_
  obtain ⟨q_1, I_1, J_1, hc_1, h⟩ := bnd_some h
  refine g_goi hB (g_runV C hB [] [] (cnX1_rowsInAll l D cI cJ cV ad H.size  hc_1) 3 rfl rfl tw_431 tw_418 tw_419 tw_36 tw_420 ⟨rfl, rfl⟩ hdX1_rowsInAll ⟨Nat.le_of_ble_eq_true rfl, Nat.le_of_ble_eq_true rfl⟩ hl.1 rfl (Nat.le_of_ble_eq_true rfl) dX1_greatestMiss_1) (fun H locs hB => ?_)
  refine lv_istore_n (lv' := [(2, .int q_1), (0, .ref (ad 3)), (1, .int v1)]) C.hx C.hb dX1_greatestMiss_4 rfl hl (by decide) rfl (fun ls hl => ?_)
  refine lv_ldc2 C.hx C.hb C.hown (C.hts _ tw_436) dX1_greatestMiss_5 ?_
  refine lv_lstore_n (lv' := [(3, .long (-1 : Int64)), (2, .int q_1), (0, .ref (ad 3)), (1, .int v1)]) C.hx C.hb dX1_greatestMiss_8 rfl hl (by decide) rfl (fun ls hl => ?_)
  refine lv_aload_n C.hx C.hb dX1_greatestMiss_9 rfl (lv_at hl 2 rfl) ?_
  obtain ⟨q_2, I_2, J_2, hc_2, h⟩ := bnd_some h
  refine g_gov hB (g_runV C hB [] [] (cnX1_toFirstRow l D cI cJ cV ad H.size  hc_2) 3 rfl rfl tw_437 tw_439 tw_7 tw_36 tw_440 ⟨rfl, rfl⟩ hdX1_toFirstRow ⟨Nat.le_of_ble_eq_true rfl, Nat.le_of_ble_eq_true rfl⟩ hl.1 rfl (Nat.le_of_ble_eq_true rfl) dX1_greatestMiss_10) (fun H locs hB => ?_)
  exact tX1_greatestMiss_13 C  fuel hB (lv_sub hl [2, 3, 1, 0] rfl) h
set_option maxHeartbeats 4000000 in
set_option maxRecDepth 100000 in
theorem cnX1_greatestMiss (l : Launch) (D : va_G) (cI cJ cV : ClassId) (ad : Nat → Nat) (sz : Nat) {v1 : Int32} {I : TI} {J : TJ} {z : Int64 × SS}  (h : fX1_greatestMiss v1 I J = some z) : Met l yX1_greatestMiss (wsm yX1_greatestMiss cX1_greatestMiss 7 (some .long)) (rmd 4) (va_Pc [.ref (ad 3), .int v1] (gPre D (xw cI cJ cV ad) (xt cI cJ cV) sz I J)) (gQl D (xw cI cJ cV ad) (xt cI cJ cV) (xL ad) sz z) 0 0 (gA (xL ad) sz) :=
  g_met (by decide) xw_WL (fun p e s m below meth c hsz C hB ls hl => by subst hsz; exact tX1_greatestMiss C hB  hl h) (Nat.le_of_ble_eq_true rfl)
theorem hdX1_rowsAbove : yX1_rowsAbove.cls = "BitTuner$Runs" ∧ yX1_rowsAbove.cls ≠ "java/lang/invoke/MethodHandle" ∧ yX1_rowsAbove.cls ≠ "java/lang/invoke/VarHandle" ∧ (parseMethodDescriptor yX1_rowsAbove.desc).map (fun d => d.parameters.length) = some 2 := by decide +kernel
def fX1_rowsAbove_36 (kf_13 : Int32 → Int64 → Int32 → Int32 → TI → TJ → Option (Int32 × SS)) (v1 : Int32) (v2 : Int64) (v4 : Int32) (v5 : Int32) (I : TI) (J : TJ) : Option (Int32 × SS) :=
  bnd (fX1_toNextRow I J) (fun q_7 I_7 J_7 =>
  kf_13 v1 v2 (v4 + (-1 : Int32)) v5 I_7 J_7)
set_option maxHeartbeats 4000000 in
set_option maxRecDepth 100000 in
theorem tX1_rowsAbove_36 {p : Program} {l : Launch} {e : Env} {s : State} {m : MethodId} {args : Array Value} {below : List Frame} {meth : Method} {c : Code} (C : KX p s m args meth c "BitTuner$Runs" cX1_rowsAbove 6 (some .int)) {D : va_G} {cI cJ cV : ClassId} {ad : Nat → Nat} {z : Int32 × SS} {kf_13 : Int32 → Int64 → Int32 → Int32 → TI → TJ → Option (Int32 × SS)} (kt_13 : ∀ {H : Heap} {locs : List Loc} {ls : Array Slot} {I : TI} {J : TJ} {v1 : Int32} {v2 : Int64} {v4 : Int32} {v5 : Int32}, XB D cI cJ cV ad s H locs I J → lv_has ls 6 [(0, .ref (ad 3)), (1, .int v1), (2, .long v2), (4, .int v4), (5, .int v5)] → kf_13 v1 v2 v4 v5 I J = some z → W p l e (rmd 4) s m args below meth c H locs 0 0 (MQ below (gQi D (xw cI cJ cV ad) (xt cI cJ cV) (xL ad) s.heap.size z) args s 0 0 (gA (xL ad) s.heap.size)) (F0 m 13 ls [])) {H : Heap} {locs : List Loc} {ls : Array Slot} {I : TI} {J : TJ} {v1 : Int32} {v2 : Int64} {v4 : Int32} {v5 : Int32} (hB : XB D cI cJ cV ad s H locs I J)  (hl : lv_has ls 6 [(0, .ref (ad 3)), (1, .int v1), (2, .long v2), (4, .int v4), (5, .int v5)]) (h : fX1_rowsAbove_36 kf_13 v1 v2 v4 v5 I J = some z) : W p l e (rmd 4) s m args below meth c H locs 0 0 (MQ below (gQi D (xw cI cJ cV ad) (xt cI cJ cV) (xL ad) s.heap.size z) args s 0 0 (gA (xL ad) s.heap.size)) (F0 m 36 ls []) := by
  unfold fX1_rowsAbove_36 at h
  refine lv_aload_n C.hx C.hb dX1_rowsAbove_36 rfl (lv_at hl 0 rfl) ?_
  obtain ⟨q_7, I_7, J_7, hc_7, h⟩ := bnd_some h
  refine g_gov hB (g_runV C hB [] [] (cnX1_toNextRow l D cI cJ cV ad H.size  hc_7) 3 rfl rfl tw_447 tw_449 tw_9 tw_36 tw_450 ⟨rfl, rfl⟩ hdX1_toNextRow ⟨Nat.le_of_ble_eq_true rfl, Nat.le_of_ble_eq_true rfl⟩ hl.1 rfl (Nat.le_of_ble_eq_true rfl) dX1_rowsAbove_37) (fun H locs hB => ?_)
  refine lv_iinc (v := v4 + (-1 : Int32)) (lv' := [(4, .int (v4 + (-1 : Int32))), (0, .ref (ad 3)), (1, .int v1), (2, .long v2), (5, .int v5)]) C.hx C.hb dX1_rowsAbove_40 hl (k := 3) rfl rfl (by decide) rfl (fun ls hl => ?_)
  refine lv_goto (tgt := 13) C.hx C.hb dX1_rowsAbove_43 (by decide) ?_
  exact kt_13 hB (lv_sub hl [1, 2, 3, 0, 4] rfl) h
def fX1_rowsAbove_13  : Nat → Int32 → Int64 → Int32 → Int32 → TI → TJ → Option (Int32 × SS)
  | 0, _, _, _, _, _, _ => none
  | n + 1, v1, v2, v4, v5, I, J =>
    if v4 ≤ 0 then
    some (v5, I, J)
    else
    bnd (fX1_workOut v1 I J) (fun q_4 I_4 J_4 =>
    bnd (fX1_missOf v1 I_4 J_4) (fun q_5 I_5 J_5 =>
    if q_5 ≤ v2 then
    fX1_rowsAbove_36 (fX1_rowsAbove_13 n) v1 v2 v4 v5 I_5 J_5
    else
    fX1_rowsAbove_36 (fX1_rowsAbove_13 n) v1 v2 v4 (v5 + (1 : Int32)) I_5 J_5))
theorem eX1_rowsAbove_13  (n : Nat) (v1 : Int32) (v2 : Int64) (v4 : Int32) (v5 : Int32) (I : TI) (J : TJ) : fX1_rowsAbove_13 (n + 1) v1 v2 v4 v5 I J = (
    if v4 ≤ 0 then
    some (v5, I, J)
    else
    bnd (fX1_workOut v1 I J) (fun q_4 I_4 J_4 =>
    bnd (fX1_missOf v1 I_4 J_4) (fun q_5 I_5 J_5 =>
    if q_5 ≤ v2 then
    fX1_rowsAbove_36 (fX1_rowsAbove_13 n) v1 v2 v4 v5 I_5 J_5
    else
    fX1_rowsAbove_36 (fX1_rowsAbove_13 n) v1 v2 v4 (v5 + (1 : Int32)) I_5 J_5))) := rfl
set_option maxHeartbeats 4000000 in
set_option maxRecDepth 100000 in
theorem tX1_rowsAbove_13 {p : Program} {l : Launch} {e : Env} {s : State} {m : MethodId} {args : Array Value} {below : List Frame} {meth : Method} {c : Code} (C : KX p s m args meth c "BitTuner$Runs" cX1_rowsAbove 6 (some .int)) {D : va_G} {cI cJ cV : ClassId} {ad : Nat → Nat} {z : Int32 × SS}   : ∀ (n : Nat), ∀ {H : Heap} {locs : List Loc} {ls : Array Slot} {I : TI} {J : TJ} {v1 : Int32} {v2 : Int64} {v4 : Int32} {v5 : Int32}, XB D cI cJ cV ad s H locs I J → lv_has ls 6 [(0, .ref (ad 3)), (1, .int v1), (2, .long v2), (4, .int v4), (5, .int v5)] → fX1_rowsAbove_13 n v1 v2 v4 v5 I J = some z → W p l e (rmd 4) s m args below meth c H locs 0 0 (MQ below (gQi D (xw cI cJ cV ad) (xt cI cJ cV) (xL ad) s.heap.size z) args s 0 0 (gA (xL ad) s.heap.size)) (F0 m 13 ls []) := by
  intro n
  induction n with
  | zero =>
    intro H locs ls I J v1 v2 v4 v5 hB  hl h
    have h : (none : Option (Int32 × SS)) = some z := h
    cases h
  | succ n ih =>
    intro H locs ls I J v1 v2 v4 v5 hB  hl h
    replace h := (eX1_rowsAbove_13 n v1 v2 v4 v5 I J).symm.trans h
    refine lv_iload C.hx C.hb dX1_rowsAbove_13 (lv_at hl 3 rfl) ?_
    refine lv_if_le (tgt := 46) C.hx C.hb dX1_rowsAbove_15 (by decide) (fun c_3 => ?_) (fun c_3 => ?_)
    · replace h := (if_pos c_3).symm.trans h
      refine lv_iload C.hx C.hb dX1_rowsAbove_46 (lv_at hl 4 rfl) ?_
      exact g_iret C hB h dX1_rowsAbove_48
    · replace h := (if_neg c_3).symm.trans h
      refine lv_aload_n C.hx C.hb dX1_rowsAbove_18 rfl (lv_at hl 0 rfl) ?_
      refine lv_iload_n C.hx C.hb dX1_rowsAbove_19 rfl (lv_at hl 1 rfl) ?_
      obtain ⟨q_4, I_4, J_4, hc_4, h⟩ := bnd_some h
      refine g_gov hB (g_runV C hB [.int v1] [] (cnX1_workOut l D cI cJ cV ad H.size  hc_4) 3 rfl rfl tw_370 tw_372 tw_6 tw_36 tw_373 ⟨rfl, rfl⟩ hdX1_workOut ⟨Nat.le_of_ble_eq_true rfl, Nat.le_of_ble_eq_true rfl⟩ hl.1 rfl (Nat.le_of_ble_eq_true rfl) dX1_rowsAbove_20) (fun H locs hB => ?_)
      refine lv_aload_n C.hx C.hb dX1_rowsAbove_23 rfl (lv_at hl 0 rfl) ?_
      refine lv_iload_n C.hx C.hb dX1_rowsAbove_24 rfl (lv_at hl 1 rfl) ?_
      obtain ⟨q_5, I_5, J_5, hc_5, h⟩ := bnd_some h
      refine g_gol hB (g_runV C hB [.int v1] [] (cnX1_missOf l D cI cJ cV ad H.size  hc_5) 3 rfl rfl tw_441 tw_399 tw_400 tw_36 tw_401 ⟨rfl, rfl⟩ hdX1_missOf ⟨Nat.le_of_ble_eq_true rfl, Nat.le_of_ble_eq_true rfl⟩ hl.1 rfl (Nat.le_of_ble_eq_true rfl) dX1_rowsAbove_25) (fun H locs hB => ?_)
      refine lv_lload_n C.hx C.hb dX1_rowsAbove_28 rfl (lv_at hl 2 rfl) ?_
      refine g_lcmp_le C (tgt := 36) dX1_rowsAbove_29 dX1_rowsAbove_30 (by decide) (fun c_6 => ?_) (fun c_6 => ?_)
      · replace h := (if_pos c_6).symm.trans h
        exact tX1_rowsAbove_36 C (ih) hB (lv_sub hl [0, 1, 2, 3, 4] rfl) h
      · replace h := (if_neg c_6).symm.trans h
        refine lv_iinc (v := v5 + (1 : Int32)) (lv' := [(5, .int (v5 + (1 : Int32))), (0, .ref (ad 3)), (1, .int v1), (2, .long v2), (4, .int v4)]) C.hx C.hb dX1_rowsAbove_33 hl (k := 4) rfl rfl (by decide) rfl (fun ls hl => ?_)
        exact tX1_rowsAbove_36 C (ih) hB (lv_sub hl [1, 2, 3, 4, 0] rfl) h
def fX1_rowsAbove  (v1 : Int32) (v2 : Int64) (I : TI) (J : TJ) : Option (Int32 × SS) :=
  bnd (fX1_rowsInAll I J) (fun q_1 I_1 J_1 =>
  bnd (fX1_toFirstRow I_1 J_1) (fun q_2 I_2 J_2 =>
  fX1_rowsAbove_13 fuel v1 v2 q_1 (0 : Int32) I_2 J_2))
set_option maxHeartbeats 4000000 in
set_option maxRecDepth 100000 in
theorem tX1_rowsAbove {p : Program} {l : Launch} {e : Env} {s : State} {m : MethodId} {args : Array Value} {below : List Frame} {meth : Method} {c : Code} (C : KX p s m args meth c "BitTuner$Runs" cX1_rowsAbove 6 (some .int)) {D : va_G} {cI cJ cV : ClassId} {ad : Nat → Nat} {z : Int32 × SS}   {H : Heap} {locs : List Loc} {ls : Array Slot} {I : TI} {J : TJ} {v1 : Int32} {v2 : Int64} (hB : XB D cI cJ cV ad s H locs I J)  (hl : lv_has ls 6 [(0, .ref (ad 3)), (1, .int v1), (2, .long v2)]) (h : fX1_rowsAbove v1 v2 I J = some z) : W p l e (rmd 4) s m args below meth c H locs 0 0 (MQ below (gQi D (xw cI cJ cV ad) (xt cI cJ cV) (xL ad) s.heap.size z) args s 0 0 (gA (xL ad) s.heap.size)) (F0 m 0 ls []) := by
  unfold fX1_rowsAbove at h
  refine lv_aload_n C.hx C.hb dX1_rowsAbove_0 rfl (lv_at hl 0 rfl) ?_
  obtain ⟨q_1, I_1, J_1, hc_1, h⟩ := bnd_some h
  refine g_goi hB (g_runV C hB [] [] (cnX1_rowsInAll l D cI cJ cV ad H.size  hc_1) 3 rfl rfl tw_431 tw_418 tw_419 tw_36 tw_420 ⟨rfl, rfl⟩ hdX1_rowsInAll ⟨Nat.le_of_ble_eq_true rfl, Nat.le_of_ble_eq_true rfl⟩ hl.1 rfl (Nat.le_of_ble_eq_true rfl) dX1_rowsAbove_1) (fun H locs hB => ?_)
  refine lv_istore (lv' := [(4, .int q_1), (0, .ref (ad 3)), (1, .int v1), (2, .long v2)]) C.hx C.hb dX1_rowsAbove_4 hl (by decide) rfl (fun ls hl => ?_)
  refine lv_iconst (v := (0 : Int32)) C.hx C.hb dX1_rowsAbove_6 (by decide) ?_
  refine lv_istore (lv' := [(5, .int (0 : Int32)), (4, .int q_1), (0, .ref (ad 3)), (1, .int v1), (2, .long v2)]) C.hx C.hb dX1_rowsAbove_7 hl (by decide) rfl (fun ls hl => ?_)
  refine lv_aload_n C.hx C.hb dX1_rowsAbove_9 rfl (lv_at hl 2 rfl) ?_
  obtain ⟨q_2, I_2, J_2, hc_2, h⟩ := bnd_some h
  refine g_gov hB (g_runV C hB [] [] (cnX1_toFirstRow l D cI cJ cV ad H.size  hc_2) 3 rfl rfl tw_437 tw_439 tw_7 tw_36 tw_440 ⟨rfl, rfl⟩ hdX1_toFirstRow ⟨Nat.le_of_ble_eq_true rfl, Nat.le_of_ble_eq_true rfl⟩ hl.1 rfl (Nat.le_of_ble_eq_true rfl) dX1_rowsAbove_10) (fun H locs hB => ?_)
  exact tX1_rowsAbove_13 C  fuel hB (lv_sub hl [2, 3, 4, 1, 0] rfl) h
set_option maxHeartbeats 4000000 in
set_option maxRecDepth 100000 in
theorem cnX1_rowsAbove (l : Launch) (D : va_G) (cI cJ cV : ClassId) (ad : Nat → Nat) (sz : Nat) {v1 : Int32} {v2 : Int64} {I : TI} {J : TJ} {z : Int32 × SS}  (h : fX1_rowsAbove v1 v2 I J = some z) : Met l yX1_rowsAbove (wsm yX1_rowsAbove cX1_rowsAbove 6 (some .int)) (rmd 4) (va_Pc [.ref (ad 3), .int v1, .long v2] (gPre D (xw cI cJ cV ad) (xt cI cJ cV) sz I J)) (gQi D (xw cI cJ cV ad) (xt cI cJ cV) (xL ad) sz z) 0 0 (gA (xL ad) sz) :=
  g_met (by decide) xw_WL (fun p e s m below meth c hsz C hB ls hl => by subst hsz; exact tX1_rowsAbove C hB  hl h) (Nat.le_of_ble_eq_true rfl)
