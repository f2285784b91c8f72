/-! Widths: pure functions out of the bytecode, and the rows that tie them to the machine (by wip/gen/decomp.py) -/
theorem hdX3_roundingMiss : yX3_roundingMiss.cls = "BitTuner$Widths" ∧ yX3_roundingMiss.cls ≠ "java/lang/invoke/MethodHandle" ∧ yX3_roundingMiss.cls ≠ "java/lang/invoke/VarHandle" ∧ (parseMethodDescriptor yX3_roundingMiss.desc).map (fun d => d.parameters.length) = some 2 := by decide +kernel
def fX3_roundingMiss  (v0 : Int32) (v1 : Int32) (I : TI) (J : TJ) : Option (Int64 × SS) :=
  if v0 = (1 : Int32) then
  some (((65536 : Int64) >>> (v1.toInt64 &&& 63)) / (2 : Int64), I, J)
  else
  some (((65536 : Int64) >>> (v1.toInt64 &&& 63)) - (1 : Int64), I, J)
set_option maxHeartbeats 4000000 in
set_option maxRecDepth 100000 in
theorem tX3_roundingMiss {p : Program} {l : Launch} {e : Env} {s : State} {m : MethodId} {args : Array Value} {below : List Frame} {meth : Method} {c : Code} (C : KX p s m args meth c "BitTuner$Widths" cX3_roundingMiss 4 (some .long)) {D : va_G} {cI cJ cV : ClassId} {ad : Nat → Nat} {z : Int64 × SS}   {H : Heap} {locs : List Loc} {ls : Array Slot} {I : TI} {J : TJ} {v0 : Int32} {v1 : Int32} (hB : XB D cI cJ cV ad s H locs I J)  (hl : lv_has ls 4 [(0, .int v0), (1, .int v1)]) (h : fX3_roundingMiss v0 v1 I J = some z) : W p l e (rmd 0) s m args below meth c H locs 0 0 (MQ below (gQl D (xw cI cJ cV ad) (xt cI cJ cV) (xL ad) s.heap.size z) args s 0 0 (gA (xL ad) s.heap.size)) (F0 m 0 ls []) := by
  unfold fX3_roundingMiss at h
  refine lv_ldc2 C.hx C.hb C.hown (C.hts _ tw_335) dX3_roundingMiss_0 ?_
  refine lv_iload_n C.hx C.hb dX3_roundingMiss_3 rfl (lv_at hl 1 rfl) ?_
  refine lv_lshr C.hx C.hb dX3_roundingMiss_4 rfl ?_
  refine lv_lstore_n (lv' := [(2, .long ((65536 : Int64) >>> (v1.toInt64 &&& 63))), (0, .int v0), (1, .int v1)]) C.hx C.hb dX3_roundingMiss_5 rfl hl (by decide) rfl (fun ls hl => ?_)
  refine lv_iload_n C.hx C.hb dX3_roundingMiss_6 rfl (lv_at hl 1 rfl) ?_
  refine lv_iconst (v := (1 : Int32)) C.hx C.hb dX3_roundingMiss_7 (by decide) ?_
  refine lv_icmp_ne (tgt := 19) C.hx C.hb dX3_roundingMiss_8 (by decide) (fun c_1 => ?_) (fun c_1 => ?_)
  · replace h := (if_neg c_1).symm.trans h
    refine lv_lload_n C.hx C.hb dX3_roundingMiss_19 rfl (lv_at hl 0 rfl) ?_
    refine lv_lconst (v := (1 : Int64)) C.hx C.hb dX3_roundingMiss_20 (by decide) ?_
    refine lv_lsub C.hx C.hb dX3_roundingMiss_21 ?_
    exact g_lret C hB h dX3_roundingMiss_22
  · replace h := (if_pos c_1).symm.trans h
    refine lv_lload_n C.hx C.hb dX3_roundingMiss_11 rfl (lv_at hl 0 rfl) ?_
    refine lv_ldc2 C.hx C.hb C.hown (C.hts _ tw_336) dX3_roundingMiss_12 ?_
    refine lv_ldiv C.hx C.hb dX3_roundingMiss_15 (by decide) ?_
    refine lv_goto (tgt := 22) C.hx C.hb dX3_roundingMiss_16 (by decide) ?_
    exact g_lret C hB h dX3_roundingMiss_22
set_option maxHeartbeats 4000000 in
set_option maxRecDepth 100000 in
theorem cnX3_roundingMiss (l : Launch) (D : va_G) (cI cJ cV : ClassId) (ad : Nat → Nat) (sz : Nat) {v0 : Int32} {v1 : Int32} {I : TI} {J : TJ} {z : Int64 × SS}  (h : fX3_roundingMiss v0 v1 I J = some z) : Met l yX3_roundingMiss (wsm yX3_roundingMiss cX3_roundingMiss 4 (some .long)) (rmd 0) (va_Pc [.int v0, .int v1] (gPre D (xw cI cJ cV ad) (xt cI cJ cV) sz I J)) (gQl D (xw cI cJ cV ad) (xt cI cJ cV) (xL ad) sz z) 0 0 (gA (xL ad) sz) :=
  g_met (by decide) xw_WL (fun p e s m below meth c hsz C hB ls hl => by subst hsz; exact tX3_roundingMiss C hB  hl h) (Nat.le_of_ble_eq_true rfl)
theorem hdX3_boundOfProduct : yX3_boundOfProduct.cls = "BitTuner$Widths" ∧ yX3_boundOfProduct.cls ≠ "java/lang/invoke/MethodHandle" ∧ yX3_boundOfProduct.cls ≠ "java/lang/invoke/VarHandle" ∧ (parseMethodDescriptor yX3_boundOfProduct.desc).map (fun d => d.parameters.length) = some 3 := by decide +kernel
def fX3_boundOfProduct  (k1 : Nat) (v2 : Int64) (v4 : Int64) (I : TI) (J : TJ) : Option (Int64 × SS) :=
  if v2 = (1073741824 : Int64) then
  some ((1073741824 : Int64), I, J)
  else
  if v4 = (1073741824 : Int64) then
  some ((1073741824 : Int64), I, J)
  else
  if okx (I 1 k1) then
  if okx (I 2 k1) then
  some ((((((J 2 ((I 1 k1).toNatClampNeg)) * v4) + ((J 2 ((I 2 k1).toNatClampNeg)) * v2)) + (v2 * v4)) + (65535 : Int64)) >>> ((16 : Int32).toInt64 &&& 63), I, J)
  else none
  else none
set_option maxHeartbeats 4000000 in
set_option maxRecDepth 100000 in
theorem tX3_boundOfProduct {p : Program} {l : Launch} {e : Env} {s : State} {m : MethodId} {args : Array Value} {below : List Frame} {meth : Method} {c : Code} (C : KX p s m args meth c "BitTuner$Widths" cX3_boundOfProduct 12 (some .long)) {D : va_G} {cI cJ cV : ClassId} {ad : Nat → Nat} {z : Int64 × SS}   {H : Heap} {locs : List Loc} {ls : Array Slot} {I : TI} {J : TJ} {k1 : Nat} {v2 : Int64} {v4 : Int64} (hB : XB D cI cJ cV ad s H locs I J) (hk1 : k1 < 16) (hl : lv_has ls 12 [(0, .ref (ad 4)), (1, .ref (ad (12 + k1))), (2, .long v2), (4, .long v4)]) (h : fX3_boundOfProduct k1 v2 v4 I J = some z) : W p l e (rmd 0) s m args below meth c H locs 0 0 (MQ below (gQl D (xw cI cJ cV ad) (xt cI cJ cV) (xL ad) s.heap.size z) args s 0 0 (gA (xL ad) s.heap.size)) (F0 m 0 ls []) := by
  unfold fX3_boundOfProduct at h
  refine lv_lload_n C.hx C.hb dX3_boundOfProduct_0 rfl (lv_at hl 2 rfl) ?_
  refine lv_ldc2 C.hx C.hb C.hown (C.hts _ tw_329) dX3_boundOfProduct_1 ?_
  refine g_lcmp_eq C (tgt := 17) dX3_boundOfProduct_4 dX3_boundOfProduct_5 (by decide) (fun c_1 => ?_) (fun c_1 => ?_)
  · replace h := (if_pos c_1).symm.trans h
    refine lv_ldc2 C.hx C.hb C.hown (C.hts _ tw_329) dX3_boundOfProduct_17 ?_
    exact g_lret C hB h dX3_boundOfProduct_20
  · replace h := (if_neg c_1).symm.trans h
    refine lv_lload C.hx C.hb dX3_boundOfProduct_8 (lv_at hl 3 rfl) ?_
    refine lv_ldc2 C.hx C.hb C.hown (C.hts _ tw_329) dX3_boundOfProduct_10 ?_
    refine g_lcmp_ne C (tgt := 21) dX3_boundOfProduct_13 dX3_boundOfProduct_14 (by decide) (fun c_2 => ?_) (fun c_2 => ?_)
    · replace h := (if_neg c_2).symm.trans h
      refine lv_aload_n C.hx C.hb dX3_boundOfProduct_21 rfl (lv_at hl 0 rfl) ?_
      refine xg_w_program C hB tw_170 dX3_boundOfProduct_22 ?_
      refine xg_p_values C hB tw_127 dX3_boundOfProduct_25 ?_
      refine lv_aload_n C.hx C.hb dX3_boundOfProduct_28 rfl (lv_at hl 1 rfl) ?_
      refine xg_v_a C hB hk1 tw_70 dX3_boundOfProduct_29 ?_
      obtain ⟨c_3, h⟩ := ite_ck h
      refine xa_values_ld C hB c_3 dX3_boundOfProduct_32 ?_
      refine xg_v_reach C hB c_3.2 tw_97 dX3_boundOfProduct_33 ?_
      refine lv_lstore (lv' := [(6, .long (J 2 ((I 1 k1).toNatClampNeg))), (0, .ref (ad 4)), (1, .ref (ad (12 + k1))), (2, .long v2), (4, .long v4)]) C.hx C.hb dX3_boundOfProduct_36 hl (by decide) rfl (fun ls hl => ?_)
      refine lv_aload_n C.hx C.hb dX3_boundOfProduct_38 rfl (lv_at hl 1 rfl) ?_
      refine xg_w_program C hB tw_170 dX3_boundOfProduct_39 ?_
      refine xg_p_values C hB tw_127 dX3_boundOfProduct_42 ?_
      refine lv_aload_n C.hx C.hb dX3_boundOfProduct_45 rfl (lv_at hl 2 rfl) ?_
      refine xg_v_b C hB hk1 tw_74 dX3_boundOfProduct_46 ?_
      obtain ⟨c_4, h⟩ := ite_ck h
      refine xa_values_ld C hB c_4 dX3_boundOfProduct_49 ?_
      refine xg_v_reach C hB c_4.2 tw_97 dX3_boundOfProduct_50 ?_
      refine lv_lstore (lv' := [(8, .long (J 2 ((I 2 k1).toNatClampNeg))), (6, .long (J 2 ((I 1 k1).toNatClampNeg))), (0, .ref (ad 4)), (1, .ref (ad (12 + k1))), (2, .long v2), (4, .long v4)]) C.hx C.hb dX3_boundOfProduct_53 hl (by decide) rfl (fun ls hl => ?_)
      refine lv_lload C.hx C.hb dX3_boundOfProduct_55 (lv_at hl 1 rfl) ?_
      refine lv_lload C.hx C.hb dX3_boundOfProduct_57 (lv_at hl 5 rfl) ?_
      refine lv_lmul C.hx C.hb dX3_boundOfProduct_59 ?_
      refine lv_lload C.hx C.hb dX3_boundOfProduct_60 (lv_at hl 0 rfl) ?_
      refine lv_lload_n C.hx C.hb dX3_boundOfProduct_62 rfl (lv_at hl 4 rfl) ?_
      refine lv_lmul C.hx C.hb dX3_boundOfProduct_63 ?_
      refine lv_ladd C.hx C.hb dX3_boundOfProduct_64 ?_
      refine lv_lload_n C.hx C.hb dX3_boundOfProduct_65 rfl (lv_at hl 4 rfl) ?_
      refine lv_lload C.hx C.hb dX3_boundOfProduct_66 (lv_at hl 5 rfl) ?_
      refine lv_lmul C.hx C.hb dX3_boundOfProduct_68 ?_
      refine lv_ladd C.hx C.hb dX3_boundOfProduct_69 ?_
      refine lv_lstore (lv' := [(10, .long ((((J 2 ((I 1 k1).toNatClampNeg)) * v4) + ((J 2 ((I 2 k1).toNatClampNeg)) * v2)) + (v2 * v4))), (8, .long (J 2 ((I 2 k1).toNatClampNeg))), (6, .long (J 2 ((I 1 k1).toNatClampNeg))), (0, .ref (ad 4)), (1, .ref (ad (12 + k1))), (2, .long v2), (4, .long v4)]) C.hx C.hb dX3_boundOfProduct_70 hl (by decide) rfl (fun ls hl => ?_)
      refine lv_lload C.hx C.hb dX3_boundOfProduct_72 (lv_at hl 0 rfl) ?_
      refine lv_ldc2 C.hx C.hb C.hown (C.hts _ tw_330) dX3_boundOfProduct_74 ?_
      refine lv_ladd C.hx C.hb dX3_boundOfProduct_77 ?_
      refine lv_bipush (v := (16 : Int32)) C.hx C.hb dX3_boundOfProduct_78 (by decide) ?_
      refine lv_lshr C.hx C.hb dX3_boundOfProduct_80 rfl ?_
      exact g_lret C hB h dX3_boundOfProduct_81
    · replace h := (if_pos c_2).symm.trans h
      refine lv_ldc2 C.hx C.hb C.hown (C.hts _ tw_329) dX3_boundOfProduct_17 ?_
      exact g_lret C hB h dX3_boundOfProduct_20
set_option maxHeartbeats 4000000 in
set_option maxRecDepth 100000 in
theorem cnX3_boundOfProduct (l : Launch) (D : va_G) (cI cJ cV : ClassId) (ad : Nat → Nat) (sz : Nat) {k1 : Nat} {v2 : Int64} {v4 : Int64} {I : TI} {J : TJ} {z : Int64 × SS} (hk1 : k1 < 16) (h : fX3_boundOfProduct k1 v2 v4 I J = some z) : Met l yX3_boundOfProduct (wsm yX3_boundOfProduct cX3_boundOfProduct 12 (some .long)) (rmd 0) (va_Pc [.ref (ad 4), .ref (ad (12 + k1)), .long v2, .long v4] (gPre D (xw cI cJ cV ad) (xt cI cJ cV) sz I J)) (gQl D (xw cI cJ cV ad) (xt cI cJ cV) (xL ad) sz z) 0 0 (gA (xL ad) sz) :=
  g_met (by decide) xw_WL (fun p e s m below meth c hsz C hB ls hl => by subst hsz; exact tX3_boundOfProduct C hB hk1 hl h) (Nat.le_of_ble_eq_true rfl)
theorem hdX3_boundFromParts : yX3_boundFromParts.cls = "BitTuner$Widths" ∧ yX3_boundFromParts.cls ≠ "java/lang/invoke/MethodHandle" ∧ yX3_boundFromParts.cls ≠ "java/lang/invoke/VarHandle" ∧ (parseMethodDescriptor yX3_boundFromParts.desc).map (fun d => d.parameters.length) = some 1 := by decide +kernel
def fX3_boundFromParts_114  (v1 : Int32) (k2 : Nat) (v7 : Int64) (I : TI) (J : TJ) : Option (Int64 × SS) :=
  if okx v1 then
  bnd (fX3_roundingMiss (I 5 k2) (I 10 v1.toNatClampNeg) I J) (fun q_10 I_10 J_10 =>
  some (if (v7 + q_10) < (1073741824 : Int64) then (v7 + q_10) else (1073741824 : Int64), I_10, J_10))
  else none
set_option maxHeartbeats 4000000 in
set_option maxRecDepth 100000 in
theorem tX3_boundFromParts_114 {p : Program} {l : Launch} {e : Env} {s : State} {m : MethodId} {args : Array Value} {below : List Frame} {meth : Method} {c : Code} (C : KX p s m args meth c "BitTuner$Widths" cX3_boundFromParts 9 (some .long)) {D : va_G} {cI cJ cV : ClassId} {ad : Nat → Nat} {z : Int64 × SS}   {H : Heap} {locs : List Loc} {ls : Array Slot} {I : TI} {J : TJ} {v1 : Int32} {k2 : Nat} {v7 : Int64} (hB : XB D cI cJ cV ad s H locs I J) (hk2 : k2 < 16) (hl : lv_has ls 9 [(0, .ref (ad 4)), (1, .int v1), (2, .ref (ad (12 + k2))), (7, .long v7)]) (h : fX3_boundFromParts_114 v1 k2 v7 I J = some z) : W p l e (rmd 1) s m args below meth c H locs 0 0 (MQ below (gQl D (xw cI cJ cV ad) (xt cI cJ cV) (xL ad) s.heap.size z) args s 0 0 (gA (xL ad) s.heap.size)) (F0 m 114 ls []) := by
  unfold fX3_boundFromParts_114 at h
  refine lv_ldc2 C.hx C.hb C.hown (C.hts _ tw_329) dX3_boundFromParts_114 ?_
  refine lv_lload C.hx C.hb dX3_boundFromParts_117 (lv_at hl 3 rfl) ?_
  refine lv_aload_n C.hx C.hb dX3_boundFromParts_119 rfl (lv_at hl 2 rfl) ?_
  refine xg_v_rounding C hB hk2 tw_85 dX3_boundFromParts_120 ?_
  refine lv_aload_n C.hx C.hb dX3_boundFromParts_123 rfl (lv_at hl 0 rfl) ?_
  refine xg_w_trial C hB tw_171 dX3_boundFromParts_124 ?_
  refine lv_iload_n C.hx C.hb dX3_boundFromParts_127 rfl (lv_at hl 1 rfl) ?_
  obtain ⟨c_9, h⟩ := ite_ck h
  refine xa_trial_ld C hB c_9 dX3_boundFromParts_128 ?_
  obtain ⟨q_10, I_10, J_10, hc_10, h⟩ := bnd_some h
  refine g_gol hB (g_runS C hB [.int (I 5 k2), .int (I 10 v1.toNatClampNeg)] [.long v7, .long (1073741824 : Int64)] (cnX3_roundingMiss l D cI cJ cV ad H.size  hc_10) tw_332 tw_333 tw_37 tw_334 ⟨rfl, rfl⟩ hdX3_roundingMiss ⟨Nat.le_of_ble_eq_true rfl, Nat.le_of_ble_eq_true rfl⟩ hl.1 rfl (Nat.le_of_ble_eq_true rfl) dX3_boundFromParts_129) (fun H locs hB => ?_)
  refine lv_ladd C.hx C.hb dX3_boundFromParts_132 ?_
  refine va_mmin_long C.hx C.hb (C.hml.trans hl.1.symm) C.hown (C.hts _ tw_337) (C.hts _ tw_258) (C.hts _ tw_39) (C.hts _ tw_259) (Nat.le_of_ble_eq_true rfl) (Nat.le_of_ble_eq_true rfl) (Nat.zero_le _) (Nat.zero_le _) dX3_boundFromParts_133 ?_
  exact g_lret C hB h dX3_boundFromParts_136
def fX3_boundFromParts_52  (v1 : Int32) (k2 : Nat) (v3 : Int64) (w0 : Int64) (I : TI) (J : TJ) : Option (Int64 × SS) :=
  if (I 0 k2) = 4 then
  bnd (fX3_boundOfProduct k2 v3 w0 I J) (fun q_8 I_8 J_8 =>
  fX3_boundFromParts_114 v1 k2 q_8 I_8 J_8)
  else
  if (I 0 k2) = 5 then
  fX3_boundFromParts_114 v1 k2 (if w0 < v3 then v3 else w0) I J
  else
  fX3_boundFromParts_114 v1 k2 (v3 + w0) I J
set_option maxHeartbeats 4000000 in
set_option maxRecDepth 100000 in
theorem tX3_boundFromParts_52 {p : Program} {l : Launch} {e : Env} {s : State} {m : MethodId} {args : Array Value} {below : List Frame} {meth : Method} {c : Code} (C : KX p s m args meth c "BitTuner$Widths" cX3_boundFromParts 9 (some .long)) {D : va_G} {cI cJ cV : ClassId} {ad : Nat → Nat} {z : Int64 × SS}   {H : Heap} {locs : List Loc} {ls : Array Slot} {I : TI} {J : TJ} {v1 : Int32} {k2 : Nat} {v3 : Int64} {w0 : Int64} (hB : XB D cI cJ cV ad s H locs I J) (hk2 : k2 < 16) (hl : lv_has ls 9 [(0, .ref (ad 4)), (1, .int v1), (2, .ref (ad (12 + k2))), (3, .long v3)]) (h : fX3_boundFromParts_52 v1 k2 v3 w0 I J = some z) : W p l e (rmd 1) s m args below meth c H locs 0 0 (MQ below (gQl D (xw cI cJ cV ad) (xt cI cJ cV) (xL ad) s.heap.size z) args s 0 0 (gA (xL ad) s.heap.size)) (F0 m 52 ls [.long w0]) := by
  unfold fX3_boundFromParts_52 at h
  refine lv_lstore (lv' := [(5, .long w0), (0, .ref (ad 4)), (1, .int v1), (2, .ref (ad (12 + k2))), (3, .long v3)]) C.hx C.hb dX3_boundFromParts_52 hl (by decide) rfl (fun ls hl => ?_)
  refine lv_aload_n C.hx C.hb dX3_boundFromParts_54 rfl (lv_at hl 3 rfl) ?_
  refine xg_v_kind C hB hk2 tw_66 dX3_boundFromParts_55 ?_
  by_cases c_7 : (I 0 k2) = 4
  · replace h := (if_pos c_7).symm.trans h
    refine lv_lookup (x := (I 0 k2)) (tgt := 84) (off := 26) C.hx C.hb dX3_boundFromParts_58 (by decide) (by rw [c_7]; rfl) (by decide) ?_
    refine lv_aload_n C.hx C.hb dX3_boundFromParts_84 rfl (lv_at hl 1 rfl) ?_
    refine lv_aload_n C.hx C.hb dX3_boundFromParts_85 rfl (lv_at hl 3 rfl) ?_
    refine lv_lload_n C.hx C.hb dX3_boundFromParts_86 rfl (lv_at hl 4 rfl) ?_
    refine lv_lload C.hx C.hb dX3_boundFromParts_87 (lv_at hl 0 rfl) ?_
    obtain ⟨q_8, I_8, J_8, hc_8, h⟩ := bnd_some h
    refine g_gol hB (g_runV C hB [.ref (ad (12 + k2)), .long v3, .long w0] [] (cnX3_boundOfProduct l D cI cJ cV ad H.size hk2  hc_8) 4 rfl rfl tw_325 tw_327 tw_5 tw_37 tw_328 ⟨rfl, rfl⟩ hdX3_boundOfProduct ⟨Nat.le_of_ble_eq_true rfl, Nat.le_of_ble_eq_true rfl⟩ hl.1 rfl (Nat.le_of_ble_eq_true rfl) dX3_boundFromParts_89) (fun H locs hB => ?_)
    refine lv_lstore (lv' := [(7, .long q_8), (5, .long w0), (0, .ref (ad 4)), (1, .int v1), (2, .ref (ad (12 + k2))), (3, .long v3)]) C.hx C.hb dX3_boundFromParts_92 hl (by decide) rfl (fun ls hl => ?_)
    refine lv_goto (tgt := 114) C.hx C.hb dX3_boundFromParts_94 (by decide) ?_
    exact tX3_boundFromParts_114 C  hB hk2 (lv_sub hl [2, 3, 4, 0] rfl) h
  · replace h := (if_neg c_7).symm.trans h
    by_cases c_11 : (I 0 k2) = 5
    · replace h := (if_pos c_11).symm.trans h
      refine lv_lookup (x := (I 0 k2)) (tgt := 97) (off := 39) C.hx C.hb dX3_boundFromParts_58 (by decide) (by rw [c_11]; rfl) (by decide) ?_
      refine lv_lload_n C.hx C.hb dX3_boundFromParts_97 rfl (lv_at hl 4 rfl) ?_
      refine lv_lload C.hx C.hb dX3_boundFromParts_98 (lv_at hl 0 rfl) ?_
      refine va_mmax_long C.hx C.hb (C.hml.trans hl.1.symm) C.hown (C.hts _ tw_331) (C.hts _ tw_224) (C.hts _ tw_39) (C.hts _ tw_225) (Nat.le_of_ble_eq_true rfl) (Nat.le_of_ble_eq_true rfl) (Nat.zero_le _) (Nat.zero_le _) dX3_boundFromParts_100 ?_
      refine lv_lstore (lv' := [(7, .long (if w0 < v3 then v3 else w0)), (5, .long w0), (0, .ref (ad 4)), (1, .int v1), (2, .ref (ad (12 + k2))), (3, .long v3)]) C.hx C.hb dX3_boundFromParts_103 hl (by decide) rfl (fun ls hl => ?_)
      refine lv_goto (tgt := 114) C.hx C.hb dX3_boundFromParts_105 (by decide) ?_
      exact tX3_boundFromParts_114 C  hB hk2 (lv_sub hl [2, 3, 4, 0] rfl) h
    · replace h := (if_neg c_11).symm.trans h
      refine lv_lookup (x := (I 0 k2)) (tgt := 108) (off := 50) C.hx C.hb dX3_boundFromParts_58 (by decide) (by have z0 := ts_ne (k := 4) (4 : Int32) rfl c_7; have z1 := ts_ne (k := 5) (5 : Int32) rfl c_11; simp [Op.lookupswitch.offset, Ne.symm z0, Ne.symm z1]) (by decide) ?_
      refine lv_lload_n C.hx C.hb dX3_boundFromParts_108 rfl (lv_at hl 4 rfl) ?_
      refine lv_lload C.hx C.hb dX3_boundFromParts_109 (lv_at hl 0 rfl) ?_
      refine lv_ladd C.hx C.hb dX3_boundFromParts_111 ?_
      refine lv_lstore (lv' := [(7, .long (v3 + w0)), (5, .long w0), (0, .ref (ad 4)), (1, .int v1), (2, .ref (ad (12 + k2))), (3, .long v3)]) C.hx C.hb dX3_boundFromParts_112 hl (by decide) rfl (fun ls hl => ?_)
      exact tX3_boundFromParts_114 C  hB hk2 (lv_sub hl [2, 3, 4, 0] rfl) h
def fX3_boundFromParts  (v1 : Int32) (I : TI) (J : TJ) : Option (Int64 × SS) :=
  if okx v1 then
  bnd (fX2_isGiven v1.toNatClampNeg I J) (fun q_2 I_2 J_2 =>
  if q_2 = 0 then
  if okx (I_2 1 v1.toNatClampNeg) then
  bnd (fX4_hasTwoParts (I_2 0 v1.toNatClampNeg) I_2 J_2) (fun q_5 I_5 J_5 =>
  if q_5 = 0 then
  fX3_boundFromParts_52 v1 v1.toNatClampNeg (J_2 5 ((I_2 1 v1.toNatClampNeg).toNatClampNeg)) (0 : Int64) I_5 J_5
  else
  if okx (I_5 2 v1.toNatClampNeg) then
  fX3_boundFromParts_52 v1 v1.toNatClampNeg (J_2 5 ((I_2 1 v1.toNatClampNeg).toNatClampNeg)) (J_5 5 ((I_5 2 v1.toNatClampNeg).toNatClampNeg)) I_5 J_5
  else none)
  else none
  else
  some ((0 : Int64), I_2, J_2))
  else none
set_option maxHeartbeats 4000000 in
set_option maxRecDepth 100000 in
theorem tX3_boundFromParts {p : Program} {l : Launch} {e : Env} {s : State} {m : MethodId} {args : Array Value} {below : List Frame} {meth : Method} {c : Code} (C : KX p s m args meth c "BitTuner$Widths" cX3_boundFromParts 9 (some .long)) {D : va_G} {cI cJ cV : ClassId} {ad : Nat → Nat} {z : Int64 × SS}   {H : Heap} {locs : List Loc} {ls : Array Slot} {I : TI} {J : TJ} {v1 : Int32} (hB : XB D cI cJ cV ad s H locs I J)  (hl : lv_has ls 9 [(0, .ref (ad 4)), (1, .int v1)]) (h : fX3_boundFromParts v1 I J = some z) : W p l e (rmd 1) s m args below meth c H locs 0 0 (MQ below (gQl D (xw cI cJ cV ad) (xt cI cJ cV) (xL ad) s.heap.size z) args s 0 0 (gA (xL ad) s.heap.size)) (F0 m 0 ls []) := by
  unfold fX3_boundFromParts at h
  refine lv_aload_n C.hx C.hb dX3_boundFromParts_0 rfl (lv_at hl 0 rfl) ?_
  refine xg_w_program C hB tw_170 dX3_boundFromParts_1 ?_
  refine xg_p_values C hB tw_127 dX3_boundFromParts_4 ?_
  refine lv_iload_n C.hx C.hb dX3_boundFromParts_7 rfl (lv_at hl 1 rfl) ?_
  obtain ⟨c_1, h⟩ := ite_ck h
  refine xa_values_ld C hB c_1 dX3_boundFromParts_8 ?_
  refine lv_astore_n (lv' := [(2, .ref (ad (12 + v1.toNatClampNeg))), (0, .ref (ad 4)), (1, .int v1)]) C.hx C.hb dX3_boundFromParts_9 rfl hl (by decide) rfl (fun ls hl => ?_)
  refine lv_aload_n C.hx C.hb dX3_boundFromParts_10 rfl (lv_at hl 0 rfl) ?_
  obtain ⟨q_2, I_2, J_2, hc_2, h⟩ := bnd_some h
  refine g_goi hB (g_runV C hB [] [] (cnX2_isGiven l D cI cJ cV ad H.size c_1.2  hc_2) (12 + v1.toNatClampNeg) (xw_val c_1.2) rfl tw_323 tw_288 tw_289 tw_35 tw_290 ⟨rfl, rfl⟩ hdX2_isGiven ⟨Nat.le_of_ble_eq_true rfl, Nat.le_of_ble_eq_true rfl⟩ hl.1 rfl (Nat.le_of_ble_eq_true rfl) dX3_boundFromParts_11) (fun H locs hB => ?_)
  refine lv_if_eq (tgt := 19) C.hx C.hb dX3_boundFromParts_14 (by decide) (fun c_3 => ?_) (fun c_3 => ?_)
  · replace h := (if_pos c_3).symm.trans h
    refine lv_aload_n C.hx C.hb dX3_boundFromParts_19 rfl (lv_at hl 1 rfl) ?_
    refine xg_w_bounds C hB tw_172 dX3_boundFromParts_20 ?_
    refine lv_aload_n C.hx C.hb dX3_boundFromParts_23 rfl (lv_at hl 0 rfl) ?_
    refine xg_v_a C hB c_1.2 tw_70 dX3_boundFromParts_24 ?_
    obtain ⟨c_4, h⟩ := ite_ck h
    refine xa_bounds_ld C hB c_4 dX3_boundFromParts_27 ?_
    refine lv_lstore_n (lv' := [(3, .long (J_2 5 ((I_2 1 v1.toNatClampNeg).toNatClampNeg))), (2, .ref (ad (12 + v1.toNatClampNeg))), (0, .ref (ad 4)), (1, .int v1)]) C.hx C.hb dX3_boundFromParts_28 rfl hl (by decide) rfl (fun ls hl => ?_)
    refine lv_aload_n C.hx C.hb dX3_boundFromParts_29 rfl (lv_at hl 1 rfl) ?_
    refine xg_v_kind C hB c_1.2 tw_66 dX3_boundFromParts_30 ?_
    obtain ⟨q_5, I_5, J_5, hc_5, h⟩ := bnd_some h
    refine g_goi hB (g_runSN C hB [.int (I_2 0 v1.toNatClampNeg)] [] (host := "BitTuner") (cnX4_hasTwoParts l D cI cJ cV ad H.size  hc_5) hB.N.2.2.1 tw_239 tw_33 tw_240 ⟨rfl, rfl⟩ hdX4_hasTwoParts.2 ⟨Nat.le_of_ble_eq_true rfl, Nat.le_of_ble_eq_true rfl⟩ hl.1 rfl (Nat.le_of_ble_eq_true rfl) dX3_boundFromParts_33) (fun H locs hB => ?_)
    refine lv_if_eq (tgt := 51) C.hx C.hb dX3_boundFromParts_36 (by decide) (fun c_6 => ?_) (fun c_6 => ?_)
    · replace h := (if_pos c_6).symm.trans h
      refine lv_lconst (v := (0 : Int64)) C.hx C.hb dX3_boundFromParts_51 (by decide) ?_
      exact tX3_boundFromParts_52 C  hB c_1.2 (lv_sub hl [2, 3, 1, 0] rfl) h
    · replace h := (if_neg c_6).symm.trans h
      refine lv_aload_n C.hx C.hb dX3_boundFromParts_39 rfl (lv_at hl 2 rfl) ?_
      refine xg_w_bounds C hB tw_172 dX3_boundFromParts_40 ?_
      refine lv_aload_n C.hx C.hb dX3_boundFromParts_43 rfl (lv_at hl 1 rfl) ?_
      refine xg_v_b C hB c_1.2 tw_74 dX3_boundFromParts_44 ?_
      obtain ⟨c_12, h⟩ := ite_ck h
      refine xa_bounds_ld C hB c_12 dX3_boundFromParts_47 ?_
      refine lv_goto (tgt := 52) C.hx C.hb dX3_boundFromParts_48 (by decide) ?_
      exact tX3_boundFromParts_52 C  hB c_1.2 (lv_sub hl [2, 3, 1, 0] rfl) h
  · replace h := (if_neg c_3).symm.trans h
    refine lv_lconst (v := (0 : Int64)) C.hx C.hb dX3_boundFromParts_17 (by decide) ?_
    exact g_lret C hB h dX3_boundFromParts_18
set_option maxHeartbeats 4000000 in
set_option maxRecDepth 100000 in
theorem cnX3_boundFromParts (l : Launch) (D : va_G) (cI cJ cV : ClassId) (ad : Nat → Nat) (sz : Nat) {v1 : Int32} {I : TI} {J : TJ} {z : Int64 × SS}  (h : fX3_boundFromParts v1 I J = some z) : Met l yX3_boundFromParts (wsm yX3_boundFromParts cX3_boundFromParts 9 (some .long)) (rmd 1) (va_Pc [.ref (ad 4), .int v1] (gPre D (xw cI cJ cV ad) (xt cI cJ cV) sz I J)) (gQl D (xw cI cJ cV ad) (xt cI cJ cV) (xL ad) sz z) 0 0 (gA (xL ad) sz) :=
  g_met (by decide) xw_WL (fun p e s m below meth c hsz C hB ls hl => by subst hsz; exact tX3_boundFromParts C hB  hl h) (Nat.le_of_ble_eq_true rfl)
theorem hdX3_boundTried : yX3_boundTried.cls = "BitTuner$Widths" ∧ yX3_boundTried.cls ≠ "java/lang/invoke/MethodHandle" ∧ yX3_boundTried.cls ≠ "java/lang/invoke/VarHandle" ∧ (parseMethodDescriptor yX3_boundTried.desc).map (fun d => d.parameters.length) = some 1 := by decide +kernel
def fX3_boundTried_2  : Nat → Int32 → Int32 → TI → TJ → Option (Int64 × SS)
  | 0, _, _, _, _ => none
  | n + 1, v1, v2, I, J =>
    if v1 < v2 then
    if okx v1 then
    some (J 5 v1.toNatClampNeg, I, J)
    else none
    else
    bnd (fX3_boundFromParts v2 I J) (fun q_3 I_3 J_3 =>
    if okx v2 then
    fX3_boundTried_2 n v1 (v2 + (1 : Int32)) I_3 (uJ J_3 5 (v2.toNatClampNeg) q_3)
    else none)
theorem eX3_boundTried_2  (n : Nat) (v1 : Int32) (v2 : Int32) (I : TI) (J : TJ) : fX3_boundTried_2 (n + 1) v1 v2 I J = (
    if v1 < v2 then
    if okx v1 then
    some (J 5 v1.toNatClampNeg, I, J)
    else none
    else
    bnd (fX3_boundFromParts v2 I J) (fun q_3 I_3 J_3 =>
    if okx v2 then
    fX3_boundTried_2 n v1 (v2 + (1 : Int32)) I_3 (uJ J_3 5 (v2.toNatClampNeg) q_3)
    else none)) := rfl
set_option maxHeartbeats 4000000 in
set_option maxRecDepth 100000 in
theorem tX3_boundTried_2 {p : Program} {l : Launch} {e : Env} {s : State} {m : MethodId} {args : Array Value} {below : List Frame} {meth : Method} {c : Code} (C : KX p s m args meth c "BitTuner$Widths" cX3_boundTried 3 (some .long)) {D : va_G} {cI cJ cV : ClassId} {ad : Nat → Nat} {z : Int64 × SS}   : ∀ (n : Nat), ∀ {H : Heap} {locs : List Loc} {ls : Array Slot} {I : TI} {J : TJ} {v1 : Int32} {v2 : Int32}, XB D cI cJ cV ad s H locs I J → lv_has ls 3 [(0, .ref (ad 4)), (1, .int v1), (2, .int v2)] → fX3_boundTried_2 n v1 v2 I J = some z → W p l e (rmd 2) s m args below meth c H locs 0 0 (MQ below (gQl D (xw cI cJ cV ad) (xt cI cJ cV) (xL ad) s.heap.size z) args s 0 0 (gA (xL ad) s.heap.size)) (F0 m 2 ls []) := by
  intro n
  induction n with
  | zero =>
    intro H locs ls I J v1 v2 hB  hl h
    have h : (none : Option (Int64 × SS)) = some z := h
    cases h
  | succ n ih =>
    intro H locs ls I J v1 v2 hB  hl h
    replace h := (eX3_boundTried_2 n v1 v2 I J).symm.trans h
    refine lv_iload_n C.hx C.hb dX3_boundTried_2 rfl (lv_at hl 2 rfl) ?_
    refine lv_iload_n C.hx C.hb dX3_boundTried_3 rfl (lv_at hl 1 rfl) ?_
    refine lv_icmp_gt (tgt := 24) C.hx C.hb dX3_boundTried_4 (by decide) (fun c_1 => ?_) (fun c_1 => ?_)
    · replace h := (if_pos c_1).symm.trans h
      refine lv_aload_n C.hx C.hb dX3_boundTried_24 rfl (lv_at hl 0 rfl) ?_
      refine xg_w_bounds C hB tw_172 dX3_boundTried_25 ?_
      refine lv_iload_n C.hx C.hb dX3_boundTried_28 rfl (lv_at hl 1 rfl) ?_
      obtain ⟨c_2, h⟩ := ite_ck h
      refine xa_bounds_ld C hB c_2 dX3_boundTried_29 ?_
      exact g_lret C hB h dX3_boundTried_30
    · replace h := (if_neg c_1).symm.trans h
      refine lv_aload_n C.hx C.hb dX3_boundTried_7 rfl (lv_at hl 0 rfl) ?_
      refine xg_w_bounds C hB tw_172 dX3_boundTried_8 ?_
      refine lv_iload_n C.hx C.hb dX3_boundTried_11 rfl (lv_at hl 2 rfl) ?_
      refine lv_aload_n C.hx C.hb dX3_boundTried_12 rfl (lv_at hl 0 rfl) ?_
      refine lv_iload_n C.hx C.hb dX3_boundTried_13 rfl (lv_at hl 2 rfl) ?_
      obtain ⟨q_3, I_3, J_3, hc_3, h⟩ := bnd_some h
      refine g_gol hB (g_runV C hB [.int v2] [.int v2, .ref (ad 10)] (cnX3_boundFromParts l D cI cJ cV ad H.size  hc_3) 4 rfl rfl tw_319 tw_321 tw_4 tw_37 tw_322 ⟨rfl, rfl⟩ hdX3_boundFromParts ⟨Nat.le_of_ble_eq_true rfl, Nat.le_of_ble_eq_true rfl⟩ hl.1 rfl (Nat.le_of_ble_eq_true rfl) dX3_boundTried_14) (fun H locs hB => ?_)
      obtain ⟨c_4, h⟩ := ite_ck h
      refine xa_bounds_st C hB c_4 dX3_boundTried_17 (fun H locs hB => ?_)
      refine lv_iinc (v := v2 + (1 : Int32)) (lv' := [(2, .int (v2 + (1 : Int32))), (0, .ref (ad 4)), (1, .int v1)]) C.hx C.hb dX3_boundTried_18 hl (k := 2) rfl rfl (by decide) rfl (fun ls hl => ?_)
      refine lv_goto (tgt := 2) C.hx C.hb dX3_boundTried_21 (by decide) ?_
      exact ih hB (lv_sub hl [1, 2, 0] rfl) h
def fX3_boundTried  (v1 : Int32) (I : TI) (J : TJ) : Option (Int64 × SS) :=
  fX3_boundTried_2 fuel v1 (0 : Int32) I J
set_option maxHeartbeats 4000000 in
set_option maxRecDepth 100000 in
theorem tX3_boundTried {p : Program} {l : Launch} {e : Env} {s : State} {m : MethodId} {args : Array Value} {below : List Frame} {meth : Method} {c : Code} (C : KX p s m args meth c "BitTuner$Widths" cX3_boundTried 3 (some .long)) {D : va_G} {cI cJ cV : ClassId} {ad : Nat → Nat} {z : Int64 × SS}   {H : Heap} {locs : List Loc} {ls : Array Slot} {I : TI} {J : TJ} {v1 : Int32} (hB : XB D cI cJ cV ad s H locs I J)  (hl : lv_has ls 3 [(0, .ref (ad 4)), (1, .int v1)]) (h : fX3_boundTried v1 I J = some z) : W p l e (rmd 2) s m args below meth c H locs 0 0 (MQ below (gQl D (xw cI cJ cV ad) (xt cI cJ cV) (xL ad) s.heap.size z) args s 0 0 (gA (xL ad) s.heap.size)) (F0 m 0 ls []) := by
  unfold fX3_boundTried at h
  refine lv_iconst (v := (0 : Int32)) C.hx C.hb dX3_boundTried_0 (by decide) ?_
  refine lv_istore_n (lv' := [(2, .int (0 : Int32)), (0, .ref (ad 4)), (1, .int v1)]) C.hx C.hb dX3_boundTried_1 rfl hl (by decide) rfl (fun ls hl => ?_)
  exact tX3_boundTried_2 C  fuel hB (lv_sub hl [1, 2, 0] rfl) h
set_option maxHeartbeats 4000000 in
set_option maxRecDepth 100000 in
theorem cnX3_boundTried (l : Launch) (D : va_G) (cI cJ cV : ClassId) (ad : Nat → Nat) (sz : Nat) {v1 : Int32} {I : TI} {J : TJ} {z : Int64 × SS}  (h : fX3_boundTried v1 I J = some z) : Met l yX3_boundTried (wsm yX3_boundTried cX3_boundTried 3 (some .long)) (rmd 2) (va_Pc [.ref (ad 4), .int v1] (gPre D (xw cI cJ cV ad) (xt cI cJ cV) sz I J)) (gQl D (xw cI cJ cV ad) (xt cI cJ cV) (xL ad) sz z) 0 0 (gA (xL ad) sz) :=
  g_met (by decide) xw_WL (fun p e s m below meth c hsz C hB ls hl => by subst hsz; exact tX3_boundTried C hB  hl h) (Nat.le_of_ble_eq_true rfl)
theorem hdX3_tryAsTold : yX3_tryAsTold.cls = "BitTuner$Widths" ∧ yX3_tryAsTold.cls ≠ "java/lang/invoke/MethodHandle" ∧ yX3_tryAsTold.cls ≠ "java/lang/invoke/VarHandle" ∧ (parseMethodDescriptor yX3_tryAsTold.desc).map (fun d => d.parameters.length) = some 0 := by decide +kernel
def fX3_tryAsTold_2  : Nat → Int32 → TI → TJ → Option (Unit × SS)
  | 0, _, _, _ => none
  | n + 1, v1, I, J =>
    if (I 12 0) ≤ v1 then
    some ((), I, J)
    else
    if okx v1 then
    fX3_tryAsTold_2 n (v1 + (1 : Int32)) (uI I 10 (v1.toNatClampNeg) (I 4 v1.toNatClampNeg)) J
    else none
theorem eX3_tryAsTold_2  (n : Nat) (v1 : Int32) (I : TI) (J : TJ) : fX3_tryAsTold_2 (n + 1) v1 I J = (
    if (I 12 0) ≤ v1 then
    some ((), I, J)
    else
    if okx v1 then
    fX3_tryAsTold_2 n (v1 + (1 : Int32)) (uI I 10 (v1.toNatClampNeg) (I 4 v1.toNatClampNeg)) J
    else none) := rfl
set_option maxHeartbeats 4000000 in
set_option maxRecDepth 100000 in
theorem tX3_tryAsTold_2 {p : Program} {l : Launch} {e : Env} {s : State} {m : MethodId} {args : Array Value} {below : List Frame} {meth : Method} {c : Code} (C : KX p s m args meth c "BitTuner$Widths" cX3_tryAsTold 2 none) {D : va_G} {cI cJ cV : ClassId} {ad : Nat → Nat} {z : Unit × SS}   : ∀ (n : Nat), ∀ {H : Heap} {locs : List Loc} {ls : Array Slot} {I : TI} {J : TJ} {v1 : Int32}, XB D cI cJ cV ad s H locs I J → lv_has ls 2 [(0, .ref (ad 4)), (1, .int v1)] → fX3_tryAsTold_2 n v1 I J = some z → W p l e (rmd 0) s m args below meth c H locs 0 0 (MQ below (gQv D (xw cI cJ cV ad) (xt cI cJ cV) (xL ad) s.heap.size z) args s 0 0 (gA (xL ad) s.heap.size)) (F0 m 2 ls []) := by
  intro n
  induction n with
  | zero =>
    intro H locs ls I J v1 hB  hl h
    have h : (none : Option (Unit × SS)) = some z := h
    cases h
  | succ n ih =>
    intro H locs ls I J v1 hB  hl h
    replace h := (eX3_tryAsTold_2 n v1 I J).symm.trans h
    refine lv_iload_n C.hx C.hb dX3_tryAsTold_2 rfl (lv_at hl 1 rfl) ?_
    refine lv_aload_n C.hx C.hb dX3_tryAsTold_3 rfl (lv_at hl 0 rfl) ?_
    refine xg_w_program C hB tw_170 dX3_tryAsTold_4 ?_
    refine xg_p_many C hB tw_130 dX3_tryAsTold_7 ?_
    refine lv_icmp_ge (tgt := 37) C.hx C.hb dX3_tryAsTold_10 (by decide) (fun c_1 => ?_) (fun c_1 => ?_)
    · replace h := (if_pos c_1).symm.trans h
      exact g_vret C hB h dX3_tryAsTold_37
    · replace h := (if_neg c_1).symm.trans h
      refine lv_aload_n C.hx C.hb dX3_tryAsTold_13 rfl (lv_at hl 0 rfl) ?_
      refine xg_w_trial C hB tw_171 dX3_tryAsTold_14 ?_
      refine lv_iload_n C.hx C.hb dX3_tryAsTold_17 rfl (lv_at hl 1 rfl) ?_
      refine lv_aload_n C.hx C.hb dX3_tryAsTold_18 rfl (lv_at hl 0 rfl) ?_
      refine xg_w_program C hB tw_170 dX3_tryAsTold_19 ?_
      refine xg_p_values C hB tw_127 dX3_tryAsTold_22 ?_
      refine lv_iload_n C.hx C.hb dX3_tryAsTold_25 rfl (lv_at hl 1 rfl) ?_
      obtain ⟨c_2, h⟩ := ite_ck h
      refine xa_values_ld C hB c_2 dX3_tryAsTold_26 ?_
      refine xg_v_bits C hB c_2.2 tw_81 dX3_tryAsTold_27 ?_
      refine xa_trial_st C hB c_2 dX3_tryAsTold_30 (fun H locs hB => ?_)
      refine lv_iinc (v := v1 + (1 : Int32)) (lv' := [(1, .int (v1 + (1 : Int32))), (0, .ref (ad 4))]) C.hx C.hb dX3_tryAsTold_31 hl (k := 1) rfl rfl (by decide) rfl (fun ls hl => ?_)
      refine lv_goto (tgt := 2) C.hx C.hb dX3_tryAsTold_34 (by decide) ?_
      exact ih hB (lv_sub hl [1, 0] rfl) h
def fX3_tryAsTold   (I : TI) (J : TJ) : Option (Unit × SS) :=
  fX3_tryAsTold_2 fuel (0 : Int32) I J
set_option maxHeartbeats 4000000 in
set_option maxRecDepth 100000 in
theorem tX3_tryAsTold {p : Program} {l : Launch} {e : Env} {s : State} {m : MethodId} {args : Array Value} {below : List Frame} {meth : Method} {c : Code} (C : KX p s m args meth c "BitTuner$Widths" cX3_tryAsTold 2 none) {D : va_G} {cI cJ cV : ClassId} {ad : Nat → Nat} {z : Unit × SS}   {H : Heap} {locs : List Loc} {ls : Array Slot} {I : TI} {J : TJ}  (hB : XB D cI cJ cV ad s H locs I J)  (hl : lv_has ls 2 [(0, .ref (ad 4))]) (h : fX3_tryAsTold I J = some z) : W p l e (rmd 0) s m args below meth c H locs 0 0 (MQ below (gQv D (xw cI cJ cV ad) (xt cI cJ cV) (xL ad) s.heap.size z) args s 0 0 (gA (xL ad) s.heap.size)) (F0 m 0 ls []) := by
  unfold fX3_tryAsTold at h
  refine lv_iconst (v := (0 : Int32)) C.hx C.hb dX3_tryAsTold_0 (by decide) ?_
  refine lv_istore_n (lv' := [(1, .int (0 : Int32)), (0, .ref (ad 4))]) C.hx C.hb dX3_tryAsTold_1 rfl hl (by decide) rfl (fun ls hl => ?_)
  exact tX3_tryAsTold_2 C  fuel hB (lv_sub hl [1, 0] rfl) h
set_option maxHeartbeats 4000000 in
set_option maxRecDepth 100000 in
theorem cnX3_tryAsTold (l : Launch) (D : va_G) (cI cJ cV : ClassId) (ad : Nat → Nat) (sz : Nat)  {I : TI} {J : TJ} {z : Unit × SS}  (h : fX3_tryAsTold I J = some z) : Met l yX3_tryAsTold (wsm yX3_tryAsTold cX3_tryAsTold 2 none) (rmd 0) (va_Pc [.ref (ad 4)] (gPre D (xw cI cJ cV ad) (xt cI cJ cV) sz I J)) (gQv D (xw cI cJ cV ad) (xt cI cJ cV) (xL ad) sz z) 0 0 (gA (xL ad) sz) :=
  g_met (by decide) xw_WL (fun p e s m below meth c hsz C hB ls hl => by subst hsz; exact tX3_tryAsTold C hB  hl h) (Nat.le_of_ble_eq_true rfl)
theorem hdX3_tryWidest : yX3_tryWidest.cls = "BitTuner$Widths" ∧ yX3_tryWidest.cls ≠ "java/lang/invoke/MethodHandle" ∧ yX3_tryWidest.cls ≠ "java/lang/invoke/VarHandle" ∧ (parseMethodDescriptor yX3_tryWidest.desc).map (fun d => d.parameters.length) = some 0 := by decide +kernel
def fX3_tryWidest_2  : Nat → Int32 → TI → TJ → Option (Unit × SS)
  | 0, _, _, _ => none
  | n + 1, v1, I, J =>
    if (16 : Int32) ≤ v1 then
    some ((), I, J)
    else
    if okx v1 then
    fX3_tryWidest_2 n (v1 + (1 : Int32)) (uI I 10 (v1.toNatClampNeg) (16 : Int32)) J
    else none
theorem eX3_tryWidest_2  (n : Nat) (v1 : Int32) (I : TI) (J : TJ) : fX3_tryWidest_2 (n + 1) v1 I J = (
    if (16 : Int32) ≤ v1 then
    some ((), I, J)
    else
    if okx v1 then
    fX3_tryWidest_2 n (v1 + (1 : Int32)) (uI I 10 (v1.toNatClampNeg) (16 : Int32)) J
    else none) := rfl
set_option maxHeartbeats 4000000 in
set_option maxRecDepth 100000 in
theorem tX3_tryWidest_2 {p : Program} {l : Launch} {e : Env} {s : State} {m : MethodId} {args : Array Value} {below : List Frame} {meth : Method} {c : Code} (C : KX p s m args meth c "BitTuner$Widths" cX3_tryWidest 2 none) {D : va_G} {cI cJ cV : ClassId} {ad : Nat → Nat} {z : Unit × SS}   : ∀ (n : Nat), ∀ {H : Heap} {locs : List Loc} {ls : Array Slot} {I : TI} {J : TJ} {v1 : Int32}, XB D cI cJ cV ad s H locs I J → lv_has ls 2 [(0, .ref (ad 4)), (1, .int v1)] → fX3_tryWidest_2 n v1 I J = some z → W p l e (rmd 0) s m args below meth c H locs 0 0 (MQ below (gQv D (xw cI cJ cV ad) (xt cI cJ cV) (xL ad) s.heap.size z) args s 0 0 (gA (xL ad) s.heap.size)) (F0 m 2 ls []) := by
  intro n
  induction n with
  | zero =>
    intro H locs ls I J v1 hB  hl h
    have h : (none : Option (Unit × SS)) = some z := h
    cases h
  | succ n ih =>
    intro H locs ls I J v1 hB  hl h
    replace h := (eX3_tryWidest_2 n v1 I J).symm.trans h
    refine lv_iload_n C.hx C.hb dX3_tryWidest_2 rfl (lv_at hl 1 rfl) ?_
    refine lv_bipush (v := (16 : Int32)) C.hx C.hb dX3_tryWidest_3 (by decide) ?_
    refine lv_icmp_ge (tgt := 22) C.hx C.hb dX3_tryWidest_5 (by decide) (fun c_1 => ?_) (fun c_1 => ?_)
    · replace h := (if_pos c_1).symm.trans h
      exact g_vret C hB h dX3_tryWidest_22
    · replace h := (if_neg c_1).symm.trans h
      refine lv_aload_n C.hx C.hb dX3_tryWidest_8 rfl (lv_at hl 0 rfl) ?_
      refine xg_w_trial C hB tw_171 dX3_tryWidest_9 ?_
      refine lv_iload_n C.hx C.hb dX3_tryWidest_12 rfl (lv_at hl 1 rfl) ?_
      refine lv_bipush (v := (16 : Int32)) C.hx C.hb dX3_tryWidest_13 (by decide) ?_
      obtain ⟨c_2, h⟩ := ite_ck h
      refine xa_trial_st C hB c_2 dX3_tryWidest_15 (fun H locs hB => ?_)
      refine lv_iinc (v := v1 + (1 : Int32)) (lv' := [(1, .int (v1 + (1 : Int32))), (0, .ref (ad 4))]) C.hx C.hb dX3_tryWidest_16 hl (k := 1) rfl rfl (by decide) rfl (fun ls hl => ?_)
      refine lv_goto (tgt := 2) C.hx C.hb dX3_tryWidest_19 (by decide) ?_
      exact ih hB (lv_sub hl [1, 0] rfl) h
def fX3_tryWidest   (I : TI) (J : TJ) : Option (Unit × SS) :=
  fX3_tryWidest_2 fuel (0 : Int32) I J
set_option maxHeartbeats 4000000 in
set_option maxRecDepth 100000 in
theorem tX3_tryWidest {p : Program} {l : Launch} {e : Env} {s : State} {m : MethodId} {args : Array Value} {below : List Frame} {meth : Method} {c : Code} (C : KX p s m args meth c "BitTuner$Widths" cX3_tryWidest 2 none) {D : va_G} {cI cJ cV : ClassId} {ad : Nat → Nat} {z : Unit × SS}   {H : Heap} {locs : List Loc} {ls : Array Slot} {I : TI} {J : TJ}  (hB : XB D cI cJ cV ad s H locs I J)  (hl : lv_has ls 2 [(0, .ref (ad 4))]) (h : fX3_tryWidest I J = some z) : W p l e (rmd 0) s m args below meth c H locs 0 0 (MQ below (gQv D (xw cI cJ cV ad) (xt cI cJ cV) (xL ad) s.heap.size z) args s 0 0 (gA (xL ad) s.heap.size)) (F0 m 0 ls []) := by
  unfold fX3_tryWidest at h
  refine lv_iconst (v := (0 : Int32)) C.hx C.hb dX3_tryWidest_0 (by decide) ?_
  refine lv_istore_n (lv' := [(1, .int (0 : Int32)), (0, .ref (ad 4))]) C.hx C.hb dX3_tryWidest_1 rfl hl (by decide) rfl (fun ls hl => ?_)
  exact tX3_tryWidest_2 C  fuel hB (lv_sub hl [1, 0] rfl) h
set_option maxHeartbeats 4000000 in
set_option maxRecDepth 100000 in
theorem cnX3_tryWidest (l : Launch) (D : va_G) (cI cJ cV : ClassId) (ad : Nat → Nat) (sz : Nat)  {I : TI} {J : TJ} {z : Unit × SS}  (h : fX3_tryWidest I J = some z) : Met l yX3_tryWidest (wsm yX3_tryWidest cX3_tryWidest 2 none) (rmd 0) (va_Pc [.ref (ad 4)] (gPre D (xw cI cJ cV ad) (xt cI cJ cV) sz I J)) (gQv D (xw cI cJ cV ad) (xt cI cJ cV) (xL ad) sz z) 0 0 (gA (xL ad) sz) :=
  g_met (by decide) xw_WL (fun p e s m below meth c hsz C hB ls hl => by subst hsz; exact tX3_tryWidest C hB  hl h) (Nat.le_of_ble_eq_true rfl)
theorem hdX3_boundAsTold : yX3_boundAsTold.cls = "BitTuner$Widths" ∧ yX3_boundAsTold.cls ≠ "java/lang/invoke/MethodHandle" ∧ yX3_boundAsTold.cls ≠ "java/lang/invoke/VarHandle" ∧ (parseMethodDescriptor yX3_boundAsTold.desc).map (fun d => d.parameters.length) = some 1 := by decide +kernel
def fX3_boundAsTold  (v1 : Int32) (I : TI) (J : TJ) : Option (Int64 × SS) :=
  bnd (fX3_tryAsTold I J) (fun q_1 I_1 J_1 =>
  bnd (fX3_boundTried v1 I_1 J_1) (fun q_2 I_2 J_2 =>
  some (q_2, I_2, J_2)))
set_option maxHeartbeats 4000000 in
set_option maxRecDepth 100000 in
theorem tX3_boundAsTold {p : Program} {l : Launch} {e : Env} {s : State} {m : MethodId} {args : Array Value} {below : List Frame} {meth : Method} {c : Code} (C : KX p s m args meth c "BitTuner$Widths" cX3_boundAsTold 2 (some .long)) {D : va_G} {cI cJ cV : ClassId} {ad : Nat → Nat} {z : Int64 × SS}   {H : Heap} {locs : List Loc} {ls : Array Slot} {I : TI} {J : TJ} {v1 : Int32} (hB : XB D cI cJ cV ad s H locs I J)  (hl : lv_has ls 2 [(0, .ref (ad 4)), (1, .int v1)]) (h : fX3_boundAsTold v1 I J = some z) : W p l e (rmd 3) s m args below meth c H locs 0 0 (MQ below (gQl D (xw cI cJ cV ad) (xt cI cJ cV) (xL ad) s.heap.size z) args s 0 0 (gA (xL ad) s.heap.size)) (F0 m 0 ls []) := by
  unfold fX3_boundAsTold at h
  refine lv_aload_n C.hx C.hb dX3_boundAsTold_0 rfl (lv_at hl 0 rfl) ?_
  obtain ⟨q_1, I_1, J_1, hc_1, h⟩ := bnd_some h
  refine g_gov hB (g_runV C hB [] [] (cnX3_tryAsTold l D cI cJ cV ad H.size  hc_1) 4 rfl rfl tw_311 tw_313 tw_2 tw_37 tw_314 ⟨rfl, rfl⟩ hdX3_tryAsTold ⟨Nat.le_of_ble_eq_true rfl, Nat.le_of_ble_eq_true rfl⟩ hl.1 rfl (Nat.le_of_ble_eq_true rfl) dX3_boundAsTold_1) (fun H locs hB => ?_)
  refine lv_aload_n C.hx C.hb dX3_boundAsTold_4 rfl (lv_at hl 0 rfl) ?_
  refine lv_iload_n C.hx C.hb dX3_boundAsTold_5 rfl (lv_at hl 1 rfl) ?_
  obtain ⟨q_2, I_2, J_2, hc_2, h⟩ := bnd_some h
  refine g_gol hB (g_runV C hB [.int v1] [] (cnX3_boundTried l D cI cJ cV ad H.size  hc_2) 4 rfl rfl tw_315 tw_317 tw_3 tw_37 tw_318 ⟨rfl, rfl⟩ hdX3_boundTried ⟨Nat.le_of_ble_eq_true rfl, Nat.le_of_ble_eq_true rfl⟩ hl.1 rfl (Nat.le_of_ble_eq_true rfl) dX3_boundAsTold_6) (fun H locs hB => ?_)
  exact g_lret C hB h dX3_boundAsTold_9
set_option maxHeartbeats 4000000 in
set_option maxRecDepth 100000 in
theorem cnX3_boundAsTold (l : Launch) (D : va_G) (cI cJ cV : ClassId) (ad : Nat → Nat) (sz : Nat) {v1 : Int32} {I : TI} {J : TJ} {z : Int64 × SS}  (h : fX3_boundAsTold v1 I J = some z) : Met l yX3_boundAsTold (wsm yX3_boundAsTold cX3_boundAsTold 2 (some .long)) (rmd 3) (va_Pc [.ref (ad 4), .int v1] (gPre D (xw cI cJ cV ad) (xt cI cJ cV) sz I J)) (gQl D (xw cI cJ cV ad) (xt cI cJ cV) (xL ad) sz z) 0 0 (gA (xL ad) sz) :=
  g_met (by decide) xw_WL (fun p e s m below meth c hsz C hB ls hl => by subst hsz; exact tX3_boundAsTold C hB  hl h) (Nat.le_of_ble_eq_true rfl)
theorem hdX3_boundAtWidest : yX3_boundAtWidest.cls = "BitTuner$Widths" ∧ yX3_boundAtWidest.cls ≠ "java/lang/invoke/MethodHandle" ∧ yX3_boundAtWidest.cls ≠ "java/lang/invoke/VarHandle" ∧ (parseMethodDescriptor yX3_boundAtWidest.desc).map (fun d => d.parameters.length) = some 1 := by decide +kernel
def fX3_boundAtWidest  (v1 : Int32) (I : TI) (J : TJ) : Option (Int64 × SS) :=
  bnd (fX3_tryWidest I J) (fun q_1 I_1 J_1 =>
  bnd (fX3_boundTried v1 I_1 J_1) (fun q_2 I_2 J_2 =>
  some (q_2, I_2, J_2)))
set_option maxHeartbeats 4000000 in
set_option maxRecDepth 100000 in
theorem tX3_boundAtWidest {p : Program} {l : Launch} {e : Env} {s : State} {m : MethodId} {args : Array Value} {below : List Frame} {meth : Method} {c : Code} (C : KX p s m args meth c "BitTuner$Widths" cX3_boundAtWidest 2 (some .long)) {D : va_G} {cI cJ cV : ClassId} {ad : Nat → Nat} {z : Int64 × SS}   {H : Heap} {locs : List Loc} {ls : Array Slot} {I : TI} {J : TJ} {v1 : Int32} (hB : XB D cI cJ cV ad s H locs I J)  (hl : lv_has ls 2 [(0, .ref (ad 4)), (1, .int v1)]) (h : fX3_boundAtWidest v1 I J = some z) : W p l e (rmd 3) s m args below meth c H locs 0 0 (MQ below (gQl D (xw cI cJ cV ad) (xt cI cJ cV) (xL ad) s.heap.size z) args s 0 0 (gA (xL ad) s.heap.size)) (F0 m 0 ls []) := by
  unfold fX3_boundAtWidest at h
  refine lv_aload_n C.hx C.hb dX3_boundAtWidest_0 rfl (lv_at hl 0 rfl) ?_
  obtain ⟨q_1, I_1, J_1, hc_1, h⟩ := bnd_some h
  refine g_gov hB (g_runV C hB [] [] (cnX3_tryWidest l D cI cJ cV ad H.size  hc_1) 4 rfl rfl tw_500 tw_502 tw_12 tw_37 tw_503 ⟨rfl, rfl⟩ hdX3_tryWidest ⟨Nat.le_of_ble_eq_true rfl, Nat.le_of_ble_eq_true rfl⟩ hl.1 rfl (Nat.le_of_ble_eq_true rfl) dX3_boundAtWidest_1) (fun H locs hB => ?_)
  refine lv_aload_n C.hx C.hb dX3_boundAtWidest_4 rfl (lv_at hl 0 rfl) ?_
  refine lv_iload_n C.hx C.hb dX3_boundAtWidest_5 rfl (lv_at hl 1 rfl) ?_
  obtain ⟨q_2, I_2, J_2, hc_2, h⟩ := bnd_some h
  refine g_gol hB (g_runV C hB [.int v1] [] (cnX3_boundTried l D cI cJ cV ad H.size  hc_2) 4 rfl rfl tw_315 tw_317 tw_3 tw_37 tw_318 ⟨rfl, rfl⟩ hdX3_boundTried ⟨Nat.le_of_ble_eq_true rfl, Nat.le_of_ble_eq_true rfl⟩ hl.1 rfl (Nat.le_of_ble_eq_true rfl) dX3_boundAtWidest_6) (fun H locs hB => ?_)
  exact g_lret C hB h dX3_boundAtWidest_9
set_option maxHeartbeats 4000000 in
set_option maxRecDepth 100000 in
theorem cnX3_boundAtWidest (l : Launch) (D : va_G) (cI cJ cV : ClassId) (ad : Nat → Nat) (sz : Nat) {v1 : Int32} {I : TI} {J : TJ} {z : Int64 × SS}  (h : fX3_boundAtWidest v1 I J = some z) : Met l yX3_boundAtWidest (wsm yX3_boundAtWidest cX3_boundAtWidest 2 (some .long)) (rmd 3) (va_Pc [.ref (ad 4), .int v1] (gPre D (xw cI cJ cV ad) (xt cI cJ cV) sz I J)) (gQl D (xw cI cJ cV ad) (xt cI cJ cV) (xL ad) sz z) 0 0 (gA (xL ad) sz) :=
  g_met (by decide) xw_WL (fun p e s m below meth c hsz C hB ls hl => by subst hsz; exact tX3_boundAtWidest C hB  hl h) (Nat.le_of_ble_eq_true rfl)
theorem hdX3_gainOf : yX3_gainOf.cls = "BitTuner$Widths" ∧ yX3_gainOf.cls ≠ "java/lang/invoke/MethodHandle" ∧ yX3_gainOf.cls ≠ "java/lang/invoke/VarHandle" ∧ (parseMethodDescriptor yX3_gainOf.desc).map (fun d => d.parameters.length) = some 2 := by decide +kernel
def fX3_gainOf  (v1 : Int32) (v2 : Int32) (I : TI) (J : TJ) : Option (Int64 × SS) :=
  bnd (fX3_boundAsTold v1 I J) (fun q_1 I_1 J_1 =>
  if okx v2 then
  bnd (fX3_boundTried v1 (uI I_1 10 (v2.toNatClampNeg) (16 : Int32)) J_1) (fun q_3 I_3 J_3 =>
  some (q_1 - q_3, I_3, J_3))
  else none)
set_option maxHeartbeats 4000000 in
set_option maxRecDepth 100000 in
theorem tX3_gainOf {p : Program} {l : Launch} {e : Env} {s : State} {m : MethodId} {args : Array Value} {below : List Frame} {meth : Method} {c : Code} (C : KX p s m args meth c "BitTuner$Widths" cX3_gainOf 5 (some .long)) {D : va_G} {cI cJ cV : ClassId} {ad : Nat → Nat} {z : Int64 × SS}   {H : Heap} {locs : List Loc} {ls : Array Slot} {I : TI} {J : TJ} {v1 : Int32} {v2 : Int32} (hB : XB D cI cJ cV ad s H locs I J)  (hl : lv_has ls 5 [(0, .ref (ad 4)), (1, .int v1), (2, .int v2)]) (h : fX3_gainOf v1 v2 I J = some z) : W p l e (rmd 4) s m args below meth c H locs 0 0 (MQ below (gQl D (xw cI cJ cV ad) (xt cI cJ cV) (xL ad) s.heap.size z) args s 0 0 (gA (xL ad) s.heap.size)) (F0 m 0 ls []) := by
  unfold fX3_gainOf at h
  refine lv_aload_n C.hx C.hb dX3_gainOf_0 rfl (lv_at hl 0 rfl) ?_
  refine lv_iload_n C.hx C.hb dX3_gainOf_1 rfl (lv_at hl 1 rfl) ?_
  obtain ⟨q_1, I_1, J_1, hc_1, h⟩ := bnd_some h
  refine g_gol hB (g_runV C hB [.int v1] [] (cnX3_boundAsTold l D cI cJ cV ad H.size  hc_1) 4 rfl rfl tw_522 tw_308 tw_309 tw_37 tw_310 ⟨rfl, rfl⟩ hdX3_boundAsTold ⟨Nat.le_of_ble_eq_true rfl, Nat.le_of_ble_eq_true rfl⟩ hl.1 rfl (Nat.le_of_ble_eq_true rfl) dX3_gainOf_2) (fun H locs hB => ?_)
  refine lv_lstore_n (lv' := [(3, .long q_1), (0, .ref (ad 4)), (1, .int v1), (2, .int v2)]) C.hx C.hb dX3_gainOf_5 rfl hl (by decide) rfl (fun ls hl => ?_)
  refine lv_aload_n C.hx C.hb dX3_gainOf_6 rfl (lv_at hl 1 rfl) ?_
  refine xg_w_trial C hB tw_171 dX3_gainOf_7 ?_
  refine lv_iload_n C.hx C.hb dX3_gainOf_10 rfl (lv_at hl 3 rfl) ?_
  refine lv_bipush (v := (16 : Int32)) C.hx C.hb dX3_gainOf_11 (by decide) ?_
  obtain ⟨c_2, h⟩ := ite_ck h
  refine xa_trial_st C hB c_2 dX3_gainOf_13 (fun H locs hB => ?_)
  refine lv_lload_n C.hx C.hb dX3_gainOf_14 rfl (lv_at hl 0 rfl) ?_
  refine lv_aload_n C.hx C.hb dX3_gainOf_15 rfl (lv_at hl 1 rfl) ?_
  refine lv_iload_n C.hx C.hb dX3_gainOf_16 rfl (lv_at hl 2 rfl) ?_
  obtain ⟨q_3, I_3, J_3, hc_3, h⟩ := bnd_some h
  refine g_gol hB (g_runV C hB [.int v1] [.long q_1] (cnX3_boundTried l D cI cJ cV ad H.size  hc_3) 4 rfl rfl tw_315 tw_317 tw_3 tw_37 tw_318 ⟨rfl, rfl⟩ hdX3_boundTried ⟨Nat.le_of_ble_eq_true rfl, Nat.le_of_ble_eq_true rfl⟩ hl.1 rfl (Nat.le_of_ble_eq_true rfl) dX3_gainOf_17) (fun H locs hB => ?_)
  refine lv_lsub C.hx C.hb dX3_gainOf_20 ?_
  exact g_lret C hB h dX3_gainOf_21
set_option maxHeartbeats 4000000 in
set_option maxRecDepth 100000 in
theorem cnX3_gainOf (l : Launch) (D : va_G) (cI cJ cV : ClassId) (ad : Nat → Nat) (sz : Nat) {v1 : Int32} {v2 : Int32} {I : TI} {J : TJ} {z : Int64 × SS}  (h : fX3_gainOf v1 v2 I J = some z) : Met l yX3_gainOf (wsm yX3_gainOf cX3_gainOf 5 (some .long)) (rmd 4) (va_Pc [.ref (ad 4), .int v1, .int v2] (gPre D (xw cI cJ cV ad) (xt cI cJ cV) sz I J)) (gQl D (xw cI cJ cV ad) (xt cI cJ cV) (xL ad) sz z) 0 0 (gA (xL ad) sz) :=
  g_met (by decide) xw_WL (fun p e s m below meth c hsz C hB ls hl => by subst hsz; exact tX3_gainOf C hB  hl h) (Nat.le_of_ble_eq_true rfl)
theorem hdX3_mostToBlame : yX3_mostToBlame.cls = "BitTuner$Widths" ∧ yX3_mostToBlame.cls ≠ "java/lang/invoke/MethodHandle" ∧ yX3_mostToBlame.cls ≠ "java/lang/invoke/VarHandle" ∧ (parseMethodDescriptor yX3_mostToBlame.desc).map (fun d => d.parameters.length) = some 1 := by decide +kernel
def fX3_mostToBlame_42 (kf_7 : Int32 → Int32 → Int64 → Int32 → TI → TJ → Option (Int32 × SS)) (v1 : Int32) (v2 : Int32) (v3 : Int64) (v5 : Int32) (w0 : Int64) (I : TI) (J : TJ) : Option (Int32 × SS) :=
  if w0 ≤ v3 then
  kf_7 v1 v2 v3 (v5 + (1 : Int32)) I J
  else
  kf_7 v1 v5 w0 (v5 + (1 : Int32)) I J
set_option maxHeartbeats 4000000 in
set_option maxRecDepth 100000 in
theorem tX3_mostToBlame_42 {p : Program} {l : Launch} {e : Env} {s : State} {m : MethodId} {args : Array Value} {below : List Frame} {meth : Method} {c : Code} (C : KX p s m args meth c "BitTuner$Widths" cX3_mostToBlame 8 (some .int)) {D : va_G} {cI cJ cV : ClassId} {ad : Nat → Nat} {z : Int32 × SS} {kf_7 : Int32 → Int32 → Int64 → Int32 → TI → TJ → Option (Int32 × SS)} (kt_7 : ∀ {H : Heap} {locs : List Loc} {ls : Array Slot} {I : TI} {J : TJ} {v1 : Int32} {v2 : Int32} {v3 : Int64} {v5 : Int32}, XB D cI cJ cV ad s H locs I J → lv_has ls 8 [(0, .ref (ad 4)), (1, .int v1), (2, .int v2), (3, .long v3), (5, .int v5)] → kf_7 v1 v2 v3 v5 I J = some z → W p l e (rmd 5) s m args below meth c H locs 0 0 (MQ below (gQi D (xw cI cJ cV ad) (xt cI cJ cV) (xL ad) s.heap.size z) args s 0 0 (gA (xL ad) s.heap.size)) (F0 m 7 ls [])) {H : Heap} {locs : List Loc} {ls : Array Slot} {I : TI} {J : TJ} {v1 : Int32} {v2 : Int32} {v3 : Int64} {v5 : Int32} {w0 : Int64} (hB : XB D cI cJ cV ad s H locs I J)  (hl : lv_has ls 8 [(0, .ref (ad 4)), (1, .int v1), (2, .int v2), (3, .long v3), (5, .int v5)]) (h : fX3_mostToBlame_42 kf_7 v1 v2 v3 v5 w0 I J = some z) : W p l e (rmd 5) s m args below meth c H locs 0 0 (MQ below (gQi D (xw cI cJ cV ad) (xt cI cJ cV) (xL ad) s.heap.size z) args s 0 0 (gA (xL ad) s.heap.size)) (F0 m 42 ls [.long w0]) := by
  unfold fX3_mostToBlame_42 at h
  refine lv_lstore (lv' := [(6, .long w0), (0, .ref (ad 4)), (1, .int v1), (2, .int v2), (3, .long v3), (5, .int v5)]) C.hx C.hb dX3_mostToBlame_42 hl (by decide) rfl (fun ls hl => ?_)
  refine lv_lload C.hx C.hb dX3_mostToBlame_44 (lv_at hl 0 rfl) ?_
  refine lv_lload_n C.hx C.hb dX3_mostToBlame_46 rfl (lv_at hl 4 rfl) ?_
  refine g_lcmp_le C (tgt := 57) dX3_mostToBlame_47 dX3_mostToBlame_48 (by decide) (fun c_4 => ?_) (fun c_4 => ?_)
  · replace h := (if_pos c_4).symm.trans h
    refine lv_iinc (v := v5 + (1 : Int32)) (lv' := [(5, .int (v5 + (1 : Int32))), (6, .long w0), (0, .ref (ad 4)), (1, .int v1), (2, .int v2), (3, .long v3)]) C.hx C.hb dX3_mostToBlame_57 hl (k := 5) rfl rfl (by decide) rfl (fun ls hl => ?_)
    refine lv_goto (tgt := 7) C.hx C.hb dX3_mostToBlame_60 (by decide) ?_
    exact kt_7 hB (lv_sub hl [2, 3, 4, 5, 0] rfl) h
  · replace h := (if_neg c_4).symm.trans h
    refine lv_lload C.hx C.hb dX3_mostToBlame_51 (lv_at hl 0 rfl) ?_
    refine lv_lstore_n (lv' := [(3, .long w0), (6, .long w0), (0, .ref (ad 4)), (1, .int v1), (2, .int v2), (5, .int v5)]) C.hx C.hb dX3_mostToBlame_53 rfl hl (by decide) rfl (fun ls hl => ?_)
    refine lv_iload C.hx C.hb dX3_mostToBlame_54 (lv_at hl 5 rfl) ?_
    refine lv_istore_n (lv' := [(2, .int v5), (3, .long w0), (6, .long w0), (0, .ref (ad 4)), (1, .int v1), (5, .int v5)]) C.hx C.hb dX3_mostToBlame_56 rfl hl (by decide) rfl (fun ls hl => ?_)
    refine lv_iinc (v := v5 + (1 : Int32)) (lv' := [(5, .int (v5 + (1 : Int32))), (2, .int v5), (3, .long w0), (6, .long w0), (0, .ref (ad 4)), (1, .int v1)]) C.hx C.hb dX3_mostToBlame_57 hl (k := 5) rfl rfl (by decide) rfl (fun ls hl => ?_)
    refine lv_goto (tgt := 7) C.hx C.hb dX3_mostToBlame_60 (by decide) ?_
    exact kt_7 hB (lv_sub hl [4, 5, 1, 2, 0] rfl) h
def fX3_mostToBlame_7  : Nat → Int32 → Int32 → Int64 → Int32 → TI → TJ → Option (Int32 × SS)
  | 0, _, _, _, _, _, _ => none
  | n + 1, v1, v2, v3, v5, I, J =>
    if (I 12 0) ≤ v5 then
    some (v2, I, J)
    else
    bnd (fX0_isWorked v5 I J) (fun q_2 I_2 J_2 =>
    if q_2 = 0 then
    fX3_mostToBlame_42 (fX3_mostToBlame_7 n) v1 v2 v3 v5 (0 : Int64) I_2 J_2
    else
    bnd (fX3_gainOf v1 v5 I_2 J_2) (fun q_5 I_5 J_5 =>
    fX3_mostToBlame_42 (fX3_mostToBlame_7 n) v1 v2 v3 v5 q_5 I_5 J_5))
theorem eX3_mostToBlame_7  (n : Nat) (v1 : Int32) (v2 : Int32) (v3 : Int64) (v5 : Int32) (I : TI) (J : TJ) : fX3_mostToBlame_7 (n + 1) v1 v2 v3 v5 I J = (
    if (I 12 0) ≤ v5 then
    some (v2, I, J)
    else
    bnd (fX0_isWorked v5 I J) (fun q_2 I_2 J_2 =>
    if q_2 = 0 then
    fX3_mostToBlame_42 (fX3_mostToBlame_7 n) v1 v2 v3 v5 (0 : Int64) I_2 J_2
    else
    bnd (fX3_gainOf v1 v5 I_2 J_2) (fun q_5 I_5 J_5 =>
    fX3_mostToBlame_42 (fX3_mostToBlame_7 n) v1 v2 v3 v5 q_5 I_5 J_5))) := rfl
set_option maxHeartbeats 4000000 in
set_option maxRecDepth 100000 in
theorem tX3_mostToBlame_7 {p : Program} {l : Launch} {e : Env} {s : State} {m : MethodId} {args : Array Value} {below : List Frame} {meth : Method} {c : Code} (C : KX p s m args meth c "BitTuner$Widths" cX3_mostToBlame 8 (some .int)) {D : va_G} {cI cJ cV : ClassId} {ad : Nat → Nat} {z : Int32 × SS}   : ∀ (n : Nat), ∀ {H : Heap} {locs : List Loc} {ls : Array Slot} {I : TI} {J : TJ} {v1 : Int32} {v2 : Int32} {v3 : Int64} {v5 : Int32}, XB D cI cJ cV ad s H locs I J → lv_has ls 8 [(0, .ref (ad 4)), (1, .int v1), (2, .int v2), (3, .long v3), (5, .int v5)] → fX3_mostToBlame_7 n v1 v2 v3 v5 I J = some z → W p l e (rmd 5) s m args below meth c H locs 0 0 (MQ below (gQi D (xw cI cJ cV ad) (xt cI cJ cV) (xL ad) s.heap.size z) args s 0 0 (gA (xL ad) s.heap.size)) (F0 m 7 ls []) := by
  intro n
  induction n with
  | zero =>
    intro H locs ls I J v1 v2 v3 v5 hB  hl h
    have h : (none : Option (Int32 × SS)) = some z := h
    cases h
  | succ n ih =>
    intro H locs ls I J v1 v2 v3 v5 hB  hl h
    replace h := (eX3_mostToBlame_7 n v1 v2 v3 v5 I J).symm.trans h
    refine lv_iload C.hx C.hb dX3_mostToBlame_7 (lv_at hl 4 rfl) ?_
    refine lv_aload_n C.hx C.hb dX3_mostToBlame_9 rfl (lv_at hl 0 rfl) ?_
    refine xg_w_program C hB tw_170 dX3_mostToBlame_10 ?_
    refine xg_p_many C hB tw_130 dX3_mostToBlame_13 ?_
    refine lv_icmp_ge (tgt := 63) C.hx C.hb dX3_mostToBlame_16 (by decide) (fun c_1 => ?_) (fun c_1 => ?_)
    · replace h := (if_pos c_1).symm.trans h
      refine lv_iload_n C.hx C.hb dX3_mostToBlame_63 rfl (lv_at hl 2 rfl) ?_
      exact g_iret C hB h dX3_mostToBlame_64
    · replace h := (if_neg c_1).symm.trans h
      refine lv_aload_n C.hx C.hb dX3_mostToBlame_19 rfl (lv_at hl 0 rfl) ?_
      refine xg_w_program C hB tw_170 dX3_mostToBlame_20 ?_
      refine lv_iload C.hx C.hb dX3_mostToBlame_23 (lv_at hl 4 rfl) ?_
      obtain ⟨q_2, I_2, J_2, hc_2, h⟩ := bnd_some h
      refine g_goi hB (g_runV C hB [.int v5] [] (cnX0_isWorked l D cI cJ cV ad H.size  hc_2) 1 rfl rfl tw_504 tw_283 tw_284 tw_34 tw_285 ⟨rfl, rfl⟩ hdX0_isWorked ⟨Nat.le_of_ble_eq_true rfl, Nat.le_of_ble_eq_true rfl⟩ hl.1 rfl (Nat.le_of_ble_eq_true rfl) dX3_mostToBlame_25) (fun H locs hB => ?_)
      refine lv_if_eq (tgt := 41) C.hx C.hb dX3_mostToBlame_28 (by decide) (fun c_3 => ?_) (fun c_3 => ?_)
      · replace h := (if_pos c_3).symm.trans h
        refine lv_lconst (v := (0 : Int64)) C.hx C.hb dX3_mostToBlame_41 (by decide) ?_
        exact tX3_mostToBlame_42 C (ih) hB (lv_sub hl [0, 1, 2, 3, 4] rfl) h
      · replace h := (if_neg c_3).symm.trans h
        refine lv_aload_n C.hx C.hb dX3_mostToBlame_31 rfl (lv_at hl 0 rfl) ?_
        refine lv_iload_n C.hx C.hb dX3_mostToBlame_32 rfl (lv_at hl 1 rfl) ?_
        refine lv_iload C.hx C.hb dX3_mostToBlame_33 (lv_at hl 4 rfl) ?_
        obtain ⟨q_5, I_5, J_5, hc_5, h⟩ := bnd_some h
        refine g_gol hB (g_runV C hB [.int v1, .int v5] [] (cnX3_gainOf l D cI cJ cV ad H.size  hc_5) 4 rfl rfl tw_531 tw_519 tw_520 tw_37 tw_521 ⟨rfl, rfl⟩ hdX3_gainOf ⟨Nat.le_of_ble_eq_true rfl, Nat.le_of_ble_eq_true rfl⟩ hl.1 rfl (Nat.le_of_ble_eq_true rfl) dX3_mostToBlame_35) (fun H locs hB => ?_)
        refine lv_goto (tgt := 42) C.hx C.hb dX3_mostToBlame_38 (by decide) ?_
        exact tX3_mostToBlame_42 C (ih) hB (lv_sub hl [0, 1, 2, 3, 4] rfl) h
def fX3_mostToBlame  (v1 : Int32) (I : TI) (J : TJ) : Option (Int32 × SS) :=
  fX3_mostToBlame_7 fuel v1 (-1 : Int32) (0 : Int64) (0 : Int32) I J
set_option maxHeartbeats 4000000 in
set_option maxRecDepth 100000 in
theorem tX3_mostToBlame {p : Program} {l : Launch} {e : Env} {s : State} {m : MethodId} {args : Array Value} {below : List Frame} {meth : Method} {c : Code} (C : KX p s m args meth c "BitTuner$Widths" cX3_mostToBlame 8 (some .int)) {D : va_G} {cI cJ cV : ClassId} {ad : Nat → Nat} {z : Int32 × SS}   {H : Heap} {locs : List Loc} {ls : Array Slot} {I : TI} {J : TJ} {v1 : Int32} (hB : XB D cI cJ cV ad s H locs I J)  (hl : lv_has ls 8 [(0, .ref (ad 4)), (1, .int v1)]) (h : fX3_mostToBlame v1 I J = some z) : W p l e (rmd 5) s m args below meth c H locs 0 0 (MQ below (gQi D (xw cI cJ cV ad) (xt cI cJ cV) (xL ad) s.heap.size z) args s 0 0 (gA (xL ad) s.heap.size)) (F0 m 0 ls []) := by
  unfold fX3_mostToBlame at h
  refine lv_iconst (v := (-1 : Int32)) C.hx C.hb dX3_mostToBlame_0 (by decide) ?_
  refine lv_istore_n (lv' := [(2, .int (-1 : Int32)), (0, .ref (ad 4)), (1, .int v1)]) C.hx C.hb dX3_mostToBlame_1 rfl hl (by decide) rfl (fun ls hl => ?_)
  refine lv_lconst (v := (0 : Int64)) C.hx C.hb dX3_mostToBlame_2 (by decide) ?_
  refine lv_lstore_n (lv' := [(3, .long (0 : Int64)), (2, .int (-1 : Int32)), (0, .ref (ad 4)), (1, .int v1)]) C.hx C.hb dX3_mostToBlame_3 rfl hl (by decide) rfl (fun ls hl => ?_)
  refine lv_iconst (v := (0 : Int32)) C.hx C.hb dX3_mostToBlame_4 (by decide) ?_
  refine lv_istore (lv' := [(5, .int (0 : Int32)), (3, .long (0 : Int64)), (2, .int (-1 : Int32)), (0, .ref (ad 4)), (1, .int v1)]) C.hx C.hb dX3_mostToBlame_5 hl (by decide) rfl (fun ls hl => ?_)
  exact tX3_mostToBlame_7 C  fuel hB (lv_sub hl [3, 4, 2, 1, 0] rfl) h
set_option maxHeartbeats 4000000 in
set_option maxRecDepth 100000 in
theorem cnX3_mostToBlame (l : Launch) (D : va_G) (cI cJ cV : ClassId) (ad : Nat → Nat) (sz : Nat) {v1 : Int32} {I : TI} {J : TJ} {z : Int32 × SS}  (h : fX3_mostToBlame v1 I J = some z) : Met l yX3_mostToBlame (wsm yX3_mostToBlame cX3_mostToBlame 8 (some .int)) (rmd 5) (va_Pc [.ref (ad 4), .int v1] (gPre D (xw cI cJ cV ad) (xt cI cJ cV) sz I J)) (gQi D (xw cI cJ cV ad) (xt cI cJ cV) (xL ad) sz z) 0 0 (gA (xL ad) sz) :=
  g_met (by decide) xw_WL (fun p e s m below meth c hsz C hB ls hl => by subst hsz; exact tX3_mostToBlame C hB  hl h) (Nat.le_of_ble_eq_true rfl)
theorem hdX3_take : yX3_take.cls = "BitTuner$Widths" ∧ yX3_take.cls ≠ "java/lang/invoke/MethodHandle" ∧ yX3_take.cls ≠ "java/lang/invoke/VarHandle" ∧ (parseMethodDescriptor yX3_take.desc).map (fun d => d.parameters.length) = some 1 := by decide +kernel
def fX3_take_9_2  : Nat → Int32 → TI → TJ → Option (Unit × SS)
  | 0, _, _, _ => none
  | n + 1, v2, I, J =>
    if (I 12 0) ≤ v2 then
    some ((), I, J)
    else
    if okx v2 then
    fX3_take_9_2 n (v2 + (1 : Int32)) (uI I 4 v2.toNatClampNeg (I 10 v2.toNatClampNeg)) J
    else none
theorem eX3_take_9_2  (n : Nat) (v2 : Int32) (I : TI) (J : TJ) : fX3_take_9_2 (n + 1) v2 I J = (
    if (I 12 0) ≤ v2 then
    some ((), I, J)
    else
    if okx v2 then
    fX3_take_9_2 n (v2 + (1 : Int32)) (uI I 4 v2.toNatClampNeg (I 10 v2.toNatClampNeg)) J
    else none) := rfl
set_option maxHeartbeats 4000000 in
set_option maxRecDepth 100000 in
theorem tX3_take_9_2 {p : Program} {l : Launch} {e : Env} {s : State} {m : MethodId} {args : Array Value} {below : List Frame} {meth : Method} {c : Code} (C : KX p s m args meth c "BitTuner$Widths" cX3_take 3 none) {D : va_G} {cI cJ cV : ClassId} {ad : Nat → Nat} {z : Unit × SS}   : ∀ (n : Nat), ∀ {H : Heap} {locs : List Loc} {ls : Array Slot} {I : TI} {J : TJ} {v2 : Int32}, XB D cI cJ cV ad s H locs I J → lv_has ls 3 [(0, .ref (ad 4)), (1, .ref (ad 9)), (2, .int v2)] → fX3_take_9_2 n v2 I J = some z → W p l e (rmd 0) s m args below meth c H locs 0 0 (MQ below (gQv D (xw cI cJ cV ad) (xt cI cJ cV) (xL ad) s.heap.size z) args s 0 0 (gA (xL ad) s.heap.size)) (F0 m 2 ls []) := by
  intro n
  induction n with
  | zero =>
    intro H locs ls I J v2 hB  hl h
    have h : (none : Option (Unit × SS)) = some z := h
    cases h
  | succ n ih =>
    intro H locs ls I J v2 hB  hl h
    replace h := (eX3_take_9_2 n v2 I J).symm.trans h
    refine lv_iload_n C.hx C.hb dX3_take_2 rfl (lv_at hl 2 rfl) ?_
    refine lv_aload_n C.hx C.hb dX3_take_3 rfl (lv_at hl 0 rfl) ?_
    refine xg_w_program C hB tw_170 dX3_take_4 ?_
    refine xg_p_many C hB tw_130 dX3_take_7 ?_
    refine lv_icmp_ge (tgt := 34) C.hx C.hb dX3_take_10 (by decide) (fun c_1 => ?_) (fun c_1 => ?_)
    · replace h := (if_pos c_1).symm.trans h
      exact g_vret C hB h dX3_take_34
    · replace h := (if_neg c_1).symm.trans h
      refine lv_aload_n C.hx C.hb dX3_take_13 rfl (lv_at hl 0 rfl) ?_
      refine xg_w_program C hB tw_170 dX3_take_14 ?_
      refine xg_p_values C hB tw_127 dX3_take_17 ?_
      refine lv_iload_n C.hx C.hb dX3_take_20 rfl (lv_at hl 2 rfl) ?_
      obtain ⟨c_2, h⟩ := ite_ck h
      refine xa_values_ld C hB c_2 dX3_take_21 ?_
      refine lv_aload_n C.hx C.hb dX3_take_22 rfl (lv_at hl 1 rfl) ?_
      refine lv_iload_n C.hx C.hb dX3_take_23 rfl (lv_at hl 2 rfl) ?_
      refine xa_trial_ld C hB c_2 dX3_take_24 ?_
      refine xp_v_bits C hB c_2.2 tw_81 dX3_take_25 (fun H locs hB => ?_)
      refine lv_iinc (v := v2 + (1 : Int32)) (lv' := [(2, .int (v2 + (1 : Int32))), (0, .ref (ad 4)), (1, .ref (ad 9))]) C.hx C.hb dX3_take_28 hl (k := 2) rfl rfl (by decide) rfl (fun ls hl => ?_)
      refine lv_goto (tgt := 2) C.hx C.hb dX3_take_31 (by decide) ?_
      exact ih hB (lv_sub hl [1, 2, 0] rfl) h
def fX3_take_9   (I : TI) (J : TJ) : Option (Unit × SS) :=
  fX3_take_9_2 fuel (0 : Int32) I J
set_option maxHeartbeats 4000000 in
set_option maxRecDepth 100000 in
theorem tX3_take_9 {p : Program} {l : Launch} {e : Env} {s : State} {m : MethodId} {args : Array Value} {below : List Frame} {meth : Method} {c : Code} (C : KX p s m args meth c "BitTuner$Widths" cX3_take 3 none) {D : va_G} {cI cJ cV : ClassId} {ad : Nat → Nat} {z : Unit × SS}   {H : Heap} {locs : List Loc} {ls : Array Slot} {I : TI} {J : TJ}  (hB : XB D cI cJ cV ad s H locs I J)  (hl : lv_has ls 3 [(0, .ref (ad 4)), (1, .ref (ad 9))]) (h : fX3_take_9 I J = some z) : W p l e (rmd 0) s m args below meth c H locs 0 0 (MQ below (gQv D (xw cI cJ cV ad) (xt cI cJ cV) (xL ad) s.heap.size z) args s 0 0 (gA (xL ad) s.heap.size)) (F0 m 0 ls []) := by
  unfold fX3_take_9 at h
  refine lv_iconst (v := (0 : Int32)) C.hx C.hb dX3_take_0 (by decide) ?_
  refine lv_istore_n (lv' := [(2, .int (0 : Int32)), (0, .ref (ad 4)), (1, .ref (ad 9))]) C.hx C.hb dX3_take_1 rfl hl (by decide) rfl (fun ls hl => ?_)
  exact tX3_take_9_2 C  fuel hB (lv_sub hl [1, 2, 0] rfl) h
set_option maxHeartbeats 4000000 in
set_option maxRecDepth 100000 in
theorem cnX3_take_9 (l : Launch) (D : va_G) (cI cJ cV : ClassId) (ad : Nat → Nat) (sz : Nat)  {I : TI} {J : TJ} {z : Unit × SS}  (h : fX3_take_9 I J = some z) : Met l yX3_take (wsm yX3_take cX3_take 3 none) (rmd 0) (va_Pc [.ref (ad 4), .ref (ad 9)] (gPre D (xw cI cJ cV ad) (xt cI cJ cV) sz I J)) (gQv D (xw cI cJ cV ad) (xt cI cJ cV) (xL ad) sz z) 0 0 (gA (xL ad) sz) :=
  g_met (by decide) xw_WL (fun p e s m below meth c hsz C hB ls hl => by subst hsz; exact tX3_take_9 C hB  hl h) (Nat.le_of_ble_eq_true rfl)
def fX3_take_11_2  : Nat → Int32 → TI → TJ → Option (Unit × SS)
  | 0, _, _, _ => none
  | n + 1, v2, I, J =>
    if (I 12 0) ≤ v2 then
    some ((), I, J)
    else
    if okx v2 then
    fX3_take_11_2 n (v2 + (1 : Int32)) (uI I 4 v2.toNatClampNeg (I 11 v2.toNatClampNeg)) J
    else none
theorem eX3_take_11_2  (n : Nat) (v2 : Int32) (I : TI) (J : TJ) : fX3_take_11_2 (n + 1) v2 I J = (
    if (I 12 0) ≤ v2 then
    some ((), I, J)
    else
    if okx v2 then
    fX3_take_11_2 n (v2 + (1 : Int32)) (uI I 4 v2.toNatClampNeg (I 11 v2.toNatClampNeg)) J
    else none) := rfl
set_option maxHeartbeats 4000000 in
set_option maxRecDepth 100000 in
theorem tX3_take_11_2 {p : Program} {l : Launch} {e : Env} {s : State} {m : MethodId} {args : Array Value} {below : List Frame} {meth : Method} {c : Code} (C : KX p s m args meth c "BitTuner$Widths" cX3_take 3 none) {D : va_G} {cI cJ cV : ClassId} {ad : Nat → Nat} {z : Unit × SS}   : ∀ (n : Nat), ∀ {H : Heap} {locs : List Loc} {ls : Array Slot} {I : TI} {J : TJ} {v2 : Int32}, XB D cI cJ cV ad s H locs I J → lv_has ls 3 [(0, .ref (ad 4)), (1, .ref (ad 11)), (2, .int v2)] → fX3_take_11_2 n v2 I J = some z → W p l e (rmd 0) s m args below meth c H locs 0 0 (MQ below (gQv D (xw cI cJ cV ad) (xt cI cJ cV) (xL ad) s.heap.size z) args s 0 0 (gA (xL ad) s.heap.size)) (F0 m 2 ls []) := by
  intro n
  induction n with
  | zero =>
    intro H locs ls I J v2 hB  hl h
    have h : (none : Option (Unit × SS)) = some z := h
    cases h
  | succ n ih =>
    intro H locs ls I J v2 hB  hl h
    replace h := (eX3_take_11_2 n v2 I J).symm.trans h
    refine lv_iload_n C.hx C.hb dX3_take_2 rfl (lv_at hl 2 rfl) ?_
    refine lv_aload_n C.hx C.hb dX3_take_3 rfl (lv_at hl 0 rfl) ?_
    refine xg_w_program C hB tw_170 dX3_take_4 ?_
    refine xg_p_many C hB tw_130 dX3_take_7 ?_
    refine lv_icmp_ge (tgt := 34) C.hx C.hb dX3_take_10 (by decide) (fun c_1 => ?_) (fun c_1 => ?_)
    · replace h := (if_pos c_1).symm.trans h
      exact g_vret C hB h dX3_take_34
    · replace h := (if_neg c_1).symm.trans h
      refine lv_aload_n C.hx C.hb dX3_take_13 rfl (lv_at hl 0 rfl) ?_
      refine xg_w_program C hB tw_170 dX3_take_14 ?_
      refine xg_p_values C hB tw_127 dX3_take_17 ?_
      refine lv_iload_n C.hx C.hb dX3_take_20 rfl (lv_at hl 2 rfl) ?_
      obtain ⟨c_2, h⟩ := ite_ck h
      refine xa_values_ld C hB c_2 dX3_take_21 ?_
      refine lv_aload_n C.hx C.hb dX3_take_22 rfl (lv_at hl 1 rfl) ?_
      refine lv_iload_n C.hx C.hb dX3_take_23 rfl (lv_at hl 2 rfl) ?_
      refine xa_cheapest_ld C hB c_2 dX3_take_24 ?_
      refine xp_v_bits C hB c_2.2 tw_81 dX3_take_25 (fun H locs hB => ?_)
      refine lv_iinc (v := v2 + (1 : Int32)) (lv' := [(2, .int (v2 + (1 : Int32))), (0, .ref (ad 4)), (1, .ref (ad 11))]) C.hx C.hb dX3_take_28 hl (k := 2) rfl rfl (by decide) rfl (fun ls hl => ?_)
      refine lv_goto (tgt := 2) C.hx C.hb dX3_take_31 (by decide) ?_
      exact ih hB (lv_sub hl [1, 2, 0] rfl) h
def fX3_take_11   (I : TI) (J : TJ) : Option (Unit × SS) :=
  fX3_take_11_2 fuel (0 : Int32) I J
set_option maxHeartbeats 4000000 in
set_option maxRecDepth 100000 in
theorem tX3_take_11 {p : Program} {l : Launch} {e : Env} {s : State} {m : MethodId} {args : Array Value} {below : List Frame} {meth : Method} {c : Code} (C : KX p s m args meth c "BitTuner$Widths" cX3_take 3 none) {D : va_G} {cI cJ cV : ClassId} {ad : Nat → Nat} {z : Unit × SS}   {H : Heap} {locs : List Loc} {ls : Array Slot} {I : TI} {J : TJ}  (hB : XB D cI cJ cV ad s H locs I J)  (hl : lv_has ls 3 [(0, .ref (ad 4)), (1, .ref (ad 11))]) (h : fX3_take_11 I J = some z) : W p l e (rmd 0) s m args below meth c H locs 0 0 (MQ below (gQv D (xw cI cJ cV ad) (xt cI cJ cV) (xL ad) s.heap.size z) args s 0 0 (gA (xL ad) s.heap.size)) (F0 m 0 ls []) := by
  unfold fX3_take_11 at h
  refine lv_iconst (v := (0 : Int32)) C.hx C.hb dX3_take_0 (by decide) ?_
  refine lv_istore_n (lv' := [(2, .int (0 : Int32)), (0, .ref (ad 4)), (1, .ref (ad 11))]) C.hx C.hb dX3_take_1 rfl hl (by decide) rfl (fun ls hl => ?_)
  exact tX3_take_11_2 C  fuel hB (lv_sub hl [1, 2, 0] rfl) h
set_option maxHeartbeats 4000000 in
set_option maxRecDepth 100000 in
theorem cnX3_take_11 (l : Launch) (D : va_G) (cI cJ cV : ClassId) (ad : Nat → Nat) (sz : Nat)  {I : TI} {J : TJ} {z : Unit × SS}  (h : fX3_take_11 I J = some z) : Met l yX3_take (wsm yX3_take cX3_take 3 none) (rmd 0) (va_Pc [.ref (ad 4), .ref (ad 11)] (gPre D (xw cI cJ cV ad) (xt cI cJ cV) sz I J)) (gQv D (xw cI cJ cV ad) (xt cI cJ cV) (xL ad) sz z) 0 0 (gA (xL ad) sz) :=
  g_met (by decide) xw_WL (fun p e s m below meth c hsz C hB ls hl => by subst hsz; exact tX3_take_11 C hB  hl h) (Nat.le_of_ble_eq_true rfl)
theorem hdX3_lessen : yX3_lessen.cls = "BitTuner$Widths" ∧ yX3_lessen.cls ≠ "java/lang/invoke/MethodHandle" ∧ yX3_lessen.cls ≠ "java/lang/invoke/VarHandle" ∧ (parseMethodDescriptor yX3_lessen.desc).map (fun d => d.parameters.length) = some 3 := by decide +kernel
def fX3_lessen_4  : Nat → Int32 → Int32 → Int64 → Int32 → TI → TJ → Option (Unit × SS)
  | 0, _, _, _, _, _, _ => none
  | n + 1, v1, v2, v3, v5, I, J =>
    if v5 < 0 then
    some ((), I, J)
    else
    if okx v1 then
    bnd (fX3_boundTried v2 (uI I 10 (v1.toNatClampNeg) v5) J) (fun q_3 I_3 J_3 =>
    if q_3 ≤ v3 then
    fX3_lessen_4 n v1 v2 v3 (v5 + (-1 : Int32)) I_3 J_3
    else
    some ((), (uI I_3 10 (v1.toNatClampNeg) (v5 + (1 : Int32))), J_3))
    else none
theorem eX3_lessen_4  (n : Nat) (v1 : Int32) (v2 : Int32) (v3 : Int64) (v5 : Int32) (I : TI) (J : TJ) : fX3_lessen_4 (n + 1) v1 v2 v3 v5 I J = (
    if v5 < 0 then
    some ((), I, J)
    else
    if okx v1 then
    bnd (fX3_boundTried v2 (uI I 10 (v1.toNatClampNeg) v5) J) (fun q_3 I_3 J_3 =>
    if q_3 ≤ v3 then
    fX3_lessen_4 n v1 v2 v3 (v5 + (-1 : Int32)) I_3 J_3
    else
    some ((), (uI I_3 10 (v1.toNatClampNeg) (v5 + (1 : Int32))), J_3))
    else none) := rfl
set_option maxHeartbeats 4000000 in
set_option maxRecDepth 100000 in
theorem tX3_lessen_4 {p : Program} {l : Launch} {e : Env} {s : State} {m : MethodId} {args : Array Value} {below : List Frame} {meth : Method} {c : Code} (C : KX p s m args meth c "BitTuner$Widths" cX3_lessen 6 none) {D : va_G} {cI cJ cV : ClassId} {ad : Nat → Nat} {z : Unit × SS}   : ∀ (n : Nat), ∀ {H : Heap} {locs : List Loc} {ls : Array Slot} {I : TI} {J : TJ} {v1 : Int32} {v2 : Int32} {v3 : Int64} {v5 : Int32}, XB D cI cJ cV ad s H locs I J → lv_has ls 6 [(0, .ref (ad 4)), (1, .int v1), (2, .int v2), (3, .long v3), (5, .int v5)] → fX3_lessen_4 n v1 v2 v3 v5 I J = some z → W p l e (rmd 3) s m args below meth c H locs 0 0 (MQ below (gQv D (xw cI cJ cV ad) (xt cI cJ cV) (xL ad) s.heap.size z) args s 0 0 (gA (xL ad) s.heap.size)) (F0 m 4 ls []) := by
  intro n
  induction n with
  | zero =>
    intro H locs ls I J v1 v2 v3 v5 hB  hl h
    have h : (none : Option (Unit × SS)) = some z := h
    cases h
  | succ n ih =>
    intro H locs ls I J v1 v2 v3 v5 hB  hl h
    replace h := (eX3_lessen_4 n v1 v2 v3 v5 I J).symm.trans h
    refine lv_iload C.hx C.hb dX3_lessen_4 (lv_at hl 4 rfl) ?_
    refine lv_if_lt (tgt := 44) C.hx C.hb dX3_lessen_6 (by decide) (fun c_1 => ?_) (fun c_1 => ?_)
    · replace h := (if_pos c_1).symm.trans h
      exact g_vret C hB h dX3_lessen_44
    · replace h := (if_neg c_1).symm.trans h
      refine lv_aload_n C.hx C.hb dX3_lessen_9 rfl (lv_at hl 0 rfl) ?_
      refine xg_w_trial C hB tw_171 dX3_lessen_10 ?_
      refine lv_iload_n C.hx C.hb dX3_lessen_13 rfl (lv_at hl 1 rfl) ?_
      refine lv_iload C.hx C.hb dX3_lessen_14 (lv_at hl 4 rfl) ?_
      obtain ⟨c_2, h⟩ := ite_ck h
      refine xa_trial_st C hB c_2 dX3_lessen_16 (fun H locs hB => ?_)
      refine lv_aload_n C.hx C.hb dX3_lessen_17 rfl (lv_at hl 0 rfl) ?_
      refine lv_iload_n C.hx C.hb dX3_lessen_18 rfl (lv_at hl 2 rfl) ?_
      obtain ⟨q_3, I_3, J_3, hc_3, h⟩ := bnd_some h
      refine g_gol hB (g_runV C hB [.int v2] [] (cnX3_boundTried l D cI cJ cV ad H.size  hc_3) 4 rfl rfl tw_315 tw_317 tw_3 tw_37 tw_318 ⟨rfl, rfl⟩ hdX3_boundTried ⟨Nat.le_of_ble_eq_true rfl, Nat.le_of_ble_eq_true rfl⟩ hl.1 rfl (Nat.le_of_ble_eq_true rfl) dX3_lessen_19) (fun H locs hB => ?_)
      refine lv_lload_n C.hx C.hb dX3_lessen_22 rfl (lv_at hl 3 rfl) ?_
      refine g_lcmp_le C (tgt := 38) dX3_lessen_23 dX3_lessen_24 (by decide) (fun c_4 => ?_) (fun c_4 => ?_)
      · replace h := (if_pos c_4).symm.trans h
        refine lv_iinc (v := v5 + (-1 : Int32)) (lv' := [(5, .int (v5 + (-1 : Int32))), (0, .ref (ad 4)), (1, .int v1), (2, .int v2), (3, .long v3)]) C.hx C.hb dX3_lessen_38 hl (k := 4) rfl rfl (by decide) rfl (fun ls hl => ?_)
        refine lv_goto (tgt := 4) C.hx C.hb dX3_lessen_41 (by decide) ?_
        exact ih hB (lv_sub hl [1, 2, 3, 4, 0] rfl) h
      · replace h := (if_neg c_4).symm.trans h
        refine lv_aload_n C.hx C.hb dX3_lessen_27 rfl (lv_at hl 0 rfl) ?_
        refine xg_w_trial C hB tw_171 dX3_lessen_28 ?_
        refine lv_iload_n C.hx C.hb dX3_lessen_31 rfl (lv_at hl 1 rfl) ?_
        refine lv_iload C.hx C.hb dX3_lessen_32 (lv_at hl 4 rfl) ?_
        refine lv_iconst (v := (1 : Int32)) C.hx C.hb dX3_lessen_34 (by decide) ?_
        refine lv_iadd C.hx C.hb dX3_lessen_35 ?_
        refine xa_trial_st C hB c_2 dX3_lessen_36 (fun H locs hB => ?_)
        exact g_vret C hB h dX3_lessen_37
def fX3_lessen  (v1 : Int32) (v2 : Int32) (v3 : Int64) (I : TI) (J : TJ) : Option (Unit × SS) :=
  fX3_lessen_4 fuel v1 v2 v3 (15 : Int32) I J
set_option maxHeartbeats 4000000 in
set_option maxRecDepth 100000 in
theorem tX3_lessen {p : Program} {l : Launch} {e : Env} {s : State} {m : MethodId} {args : Array Value} {below : List Frame} {meth : Method} {c : Code} (C : KX p s m args meth c "BitTuner$Widths" cX3_lessen 6 none) {D : va_G} {cI cJ cV : ClassId} {ad : Nat → Nat} {z : Unit × SS}   {H : Heap} {locs : List Loc} {ls : Array Slot} {I : TI} {J : TJ} {v1 : Int32} {v2 : Int32} {v3 : Int64} (hB : XB D cI cJ cV ad s H locs I J)  (hl : lv_has ls 6 [(0, .ref (ad 4)), (1, .int v1), (2, .int v2), (3, .long v3)]) (h : fX3_lessen v1 v2 v3 I J = some z) : W p l e (rmd 3) s m args below meth c H locs 0 0 (MQ below (gQv D (xw cI cJ cV ad) (xt cI cJ cV) (xL ad) s.heap.size z) args s 0 0 (gA (xL ad) s.heap.size)) (F0 m 0 ls []) := by
  unfold fX3_lessen at h
  refine lv_bipush (v := (15 : Int32)) C.hx C.hb dX3_lessen_0 (by decide) ?_
  refine lv_istore (lv' := [(5, .int (15 : Int32)), (0, .ref (ad 4)), (1, .int v1), (2, .int v2), (3, .long v3)]) C.hx C.hb dX3_lessen_2 hl (by decide) rfl (fun ls hl => ?_)
  exact tX3_lessen_4 C  fuel hB (lv_sub hl [1, 2, 3, 4, 0] rfl) h
set_option maxHeartbeats 4000000 in
set_option maxRecDepth 100000 in
theorem cnX3_lessen (l : Launch) (D : va_G) (cI cJ cV : ClassId) (ad : Nat → Nat) (sz : Nat) {v1 : Int32} {v2 : Int32} {v3 : Int64} {I : TI} {J : TJ} {z : Unit × SS}  (h : fX3_lessen v1 v2 v3 I J = some z) : Met l yX3_lessen (wsm yX3_lessen cX3_lessen 6 none) (rmd 3) (va_Pc [.ref (ad 4), .int v1, .int v2, .long v3] (gPre D (xw cI cJ cV ad) (xt cI cJ cV) sz I J)) (gQv D (xw cI cJ cV ad) (xt cI cJ cV) (xL ad) sz z) 0 0 (gA (xL ad) sz) :=
  g_met (by decide) xw_WL (fun p e s m below meth c hsz C hB ls hl => by subst hsz; exact tX3_lessen C hB  hl h) (Nat.le_of_ble_eq_true rfl)
theorem hdX3_lessenInTurn : yX3_lessenInTurn.cls = "BitTuner$Widths" ∧ yX3_lessenInTurn.cls ≠ "java/lang/invoke/MethodHandle" ∧ yX3_lessenInTurn.cls ≠ "java/lang/invoke/VarHandle" ∧ (parseMethodDescriptor yX3_lessenInTurn.desc).map (fun d => d.parameters.length) = some 2 := by decide +kernel
def fX3_lessenInTurn_16  : Nat → Int32 → Int64 → Int32 → TI → TJ → Option (Int32 × SS)
  | 0, _, _, _, _, _ => none
  | n + 1, v1, v2, v4, I, J =>
    if (I 12 0) ≤ v4 then
    bnd (fX3_take_9 I J) (fun q_4 I_4 J_4 =>
    bnd (fX0_priceInAll I_4 J_4) (fun q_5 I_5 J_5 =>
    some (q_5, I_5, J_5)))
    else
    bnd (fX0_isWorked v4 I J) (fun q_6 I_6 J_6 =>
    if q_6 = 0 then
    fX3_lessenInTurn_16 n v1 v2 (v4 + (1 : Int32)) I_6 J_6
    else
    bnd (fX3_lessen v4 v1 v2 I_6 J_6) (fun q_8 I_8 J_8 =>
    fX3_lessenInTurn_16 n v1 v2 (v4 + (1 : Int32)) I_8 J_8))
theorem eX3_lessenInTurn_16  (n : Nat) (v1 : Int32) (v2 : Int64) (v4 : Int32) (I : TI) (J : TJ) : fX3_lessenInTurn_16 (n + 1) v1 v2 v4 I J = (
    if (I 12 0) ≤ v4 then
    bnd (fX3_take_9 I J) (fun q_4 I_4 J_4 =>
    bnd (fX0_priceInAll I_4 J_4) (fun q_5 I_5 J_5 =>
    some (q_5, I_5, J_5)))
    else
    bnd (fX0_isWorked v4 I J) (fun q_6 I_6 J_6 =>
    if q_6 = 0 then
    fX3_lessenInTurn_16 n v1 v2 (v4 + (1 : Int32)) I_6 J_6
    else
    bnd (fX3_lessen v4 v1 v2 I_6 J_6) (fun q_8 I_8 J_8 =>
    fX3_lessenInTurn_16 n v1 v2 (v4 + (1 : Int32)) I_8 J_8))) := rfl
set_option maxHeartbeats 4000000 in
set_option maxRecDepth 100000 in
theorem tX3_lessenInTurn_16 {p : Program} {l : Launch} {e : Env} {s : State} {m : MethodId} {args : Array Value} {below : List Frame} {meth : Method} {c : Code} (C : KX p s m args meth c "BitTuner$Widths" cX3_lessenInTurn 5 (some .int)) {D : va_G} {cI cJ cV : ClassId} {ad : Nat → Nat} {z : Int32 × SS}   : ∀ (n : Nat), ∀ {H : Heap} {locs : List Loc} {ls : Array Slot} {I : TI} {J : TJ} {v1 : Int32} {v2 : Int64} {v4 : Int32}, XB D cI cJ cV ad s H locs I J → lv_has ls 5 [(0, .ref (ad 4)), (1, .int v1), (2, .long v2), (4, .int v4)] → fX3_lessenInTurn_16 n v1 v2 v4 I J = some z → W p l e (rmd 4) s m args below meth c H locs 0 0 (MQ below (gQi D (xw cI cJ cV ad) (xt cI cJ cV) (xL ad) s.heap.size z) args s 0 0 (gA (xL ad) s.heap.size)) (F0 m 16 ls []) := by
  intro n
  induction n with
  | zero =>
    intro H locs ls I J v1 v2 v4 hB  hl h
    have h : (none : Option (Int32 × SS)) = some z := h
    cases h
  | succ n ih =>
    intro H locs ls I J v1 v2 v4 hB  hl h
    replace h := (eX3_lessenInTurn_16 n v1 v2 v4 I J).symm.trans h
    refine lv_iload C.hx C.hb dX3_lessenInTurn_16 (lv_at hl 3 rfl) ?_
    refine lv_aload_n C.hx C.hb dX3_lessenInTurn_18 rfl (lv_at hl 0 rfl) ?_
    refine xg_w_program C hB tw_170 dX3_lessenInTurn_19 ?_
    refine xg_p_many C hB tw_130 dX3_lessenInTurn_22 ?_
    refine lv_icmp_ge (tgt := 54) C.hx C.hb dX3_lessenInTurn_25 (by decide) (fun c_3 => ?_) (fun c_3 => ?_)
    · replace h := (if_pos c_3).symm.trans h
      refine lv_aload_n C.hx C.hb dX3_lessenInTurn_54 rfl (lv_at hl 0 rfl) ?_
      refine lv_aload_n C.hx C.hb dX3_lessenInTurn_55 rfl (lv_at hl 0 rfl) ?_
      refine xg_w_trial C hB tw_171 dX3_lessenInTurn_56 ?_
      obtain ⟨q_4, I_4, J_4, hc_4, h⟩ := bnd_some h
      refine g_gov hB (g_runV C hB [.ref (ad 9)] [] (cnX3_take_9 l D cI cJ cV ad H.size  hc_4) 4 rfl rfl tw_483 tw_485 tw_11 tw_37 tw_486 ⟨rfl, rfl⟩ hdX3_take ⟨Nat.le_of_ble_eq_true rfl, Nat.le_of_ble_eq_true rfl⟩ hl.1 rfl (Nat.le_of_ble_eq_true rfl) dX3_lessenInTurn_59) (fun H locs hB => ?_)
      refine lv_aload_n C.hx C.hb dX3_lessenInTurn_62 rfl (lv_at hl 0 rfl) ?_
      refine xg_w_program C hB tw_170 dX3_lessenInTurn_63 ?_
      obtain ⟨q_5, I_5, J_5, hc_5, h⟩ := bnd_some h
      refine g_goi hB (g_runV C hB [] [] (cnX0_priceInAll l D cI cJ cV ad H.size  hc_5) 1 rfl rfl tw_487 tw_343 tw_344 tw_34 tw_345 ⟨rfl, rfl⟩ hdX0_priceInAll ⟨Nat.le_of_ble_eq_true rfl, Nat.le_of_ble_eq_true rfl⟩ hl.1 rfl (Nat.le_of_ble_eq_true rfl) dX3_lessenInTurn_66) (fun H locs hB => ?_)
      exact g_iret C hB h dX3_lessenInTurn_69
    · replace h := (if_neg c_3).symm.trans h
      refine lv_aload_n C.hx C.hb dX3_lessenInTurn_28 rfl (lv_at hl 0 rfl) ?_
      refine xg_w_program C hB tw_170 dX3_lessenInTurn_29 ?_
      refine lv_iload C.hx C.hb dX3_lessenInTurn_32 (lv_at hl 3 rfl) ?_
      obtain ⟨q_6, I_6, J_6, hc_6, h⟩ := bnd_some h
      refine g_goi hB (g_runV C hB [.int v4] [] (cnX0_isWorked l D cI cJ cV ad H.size  hc_6) 1 rfl rfl tw_504 tw_283 tw_284 tw_34 tw_285 ⟨rfl, rfl⟩ hdX0_isWorked ⟨Nat.le_of_ble_eq_true rfl, Nat.le_of_ble_eq_true rfl⟩ hl.1 rfl (Nat.le_of_ble_eq_true rfl) dX3_lessenInTurn_34) (fun H locs hB => ?_)
      refine lv_if_eq (tgt := 48) C.hx C.hb dX3_lessenInTurn_37 (by decide) (fun c_7 => ?_) (fun c_7 => ?_)
      · replace h := (if_pos c_7).symm.trans h
        refine lv_iinc (v := v4 + (1 : Int32)) (lv' := [(4, .int (v4 + (1 : Int32))), (0, .ref (ad 4)), (1, .int v1), (2, .long v2)]) C.hx C.hb dX3_lessenInTurn_48 hl (k := 3) rfl rfl (by decide) rfl (fun ls hl => ?_)
        refine lv_goto (tgt := 16) C.hx C.hb dX3_lessenInTurn_51 (by decide) ?_
        exact ih hB (lv_sub hl [1, 2, 3, 0] rfl) h
      · replace h := (if_neg c_7).symm.trans h
        refine lv_aload_n C.hx C.hb dX3_lessenInTurn_40 rfl (lv_at hl 0 rfl) ?_
        refine lv_iload C.hx C.hb dX3_lessenInTurn_41 (lv_at hl 3 rfl) ?_
        refine lv_iload_n C.hx C.hb dX3_lessenInTurn_43 rfl (lv_at hl 1 rfl) ?_
        refine lv_lload_n C.hx C.hb dX3_lessenInTurn_44 rfl (lv_at hl 2 rfl) ?_
        obtain ⟨q_8, I_8, J_8, hc_8, h⟩ := bnd_some h
        refine g_gov hB (g_runV C hB [.int v4, .int v1, .long v2] [] (cnX3_lessen l D cI cJ cV ad H.size  hc_8) 4 rfl rfl tw_505 tw_507 tw_13 tw_37 tw_508 ⟨rfl, rfl⟩ hdX3_lessen ⟨Nat.le_of_ble_eq_true rfl, Nat.le_of_ble_eq_true rfl⟩ hl.1 rfl (Nat.le_of_ble_eq_true rfl) dX3_lessenInTurn_45) (fun H locs hB => ?_)
        refine lv_iinc (v := v4 + (1 : Int32)) (lv' := [(4, .int (v4 + (1 : Int32))), (0, .ref (ad 4)), (1, .int v1), (2, .long v2)]) C.hx C.hb dX3_lessenInTurn_48 hl (k := 3) rfl rfl (by decide) rfl (fun ls hl => ?_)
        refine lv_goto (tgt := 16) C.hx C.hb dX3_lessenInTurn_51 (by decide) ?_
        exact ih hB (lv_sub hl [1, 2, 3, 0] rfl) h
def fX3_lessenInTurn  (v1 : Int32) (v2 : Int64) (I : TI) (J : TJ) : Option (Int32 × SS) :=
  bnd (fX3_boundAtWidest v1 I J) (fun q_1 I_1 J_1 =>
  if q_1 ≤ v2 then
  fX3_lessenInTurn_16 fuel v1 v2 (0 : Int32) I_1 J_1
  else
  some ((-5 : Int32), I_1, J_1))
set_option maxHeartbeats 4000000 in
set_option maxRecDepth 100000 in
theorem tX3_lessenInTurn {p : Program} {l : Launch} {e : Env} {s : State} {m : MethodId} {args : Array Value} {below : List Frame} {meth : Method} {c : Code} (C : KX p s m args meth c "BitTuner$Widths" cX3_lessenInTurn 5 (some .int)) {D : va_G} {cI cJ cV : ClassId} {ad : Nat → Nat} {z : Int32 × SS}   {H : Heap} {locs : List Loc} {ls : Array Slot} {I : TI} {J : TJ} {v1 : Int32} {v2 : Int64} (hB : XB D cI cJ cV ad s H locs I J)  (hl : lv_has ls 5 [(0, .ref (ad 4)), (1, .int v1), (2, .long v2)]) (h : fX3_lessenInTurn v1 v2 I J = some z) : W p l e (rmd 4) s m args below meth c H locs 0 0 (MQ below (gQi D (xw cI cJ cV ad) (xt cI cJ cV) (xL ad) s.heap.size z) args s 0 0 (gA (xL ad) s.heap.size)) (F0 m 0 ls []) := by
  unfold fX3_lessenInTurn at h
  refine lv_aload_n C.hx C.hb dX3_lessenInTurn_0 rfl (lv_at hl 0 rfl) ?_
  refine lv_iload_n C.hx C.hb dX3_lessenInTurn_1 rfl (lv_at hl 1 rfl) ?_
  obtain ⟨q_1, I_1, J_1, hc_1, h⟩ := bnd_some h
  refine g_gol hB (g_runV C hB [.int v1] [] (cnX3_boundAtWidest l D cI cJ cV ad H.size  hc_1) 4 rfl rfl tw_496 tw_497 tw_498 tw_37 tw_499 ⟨rfl, rfl⟩ hdX3_boundAtWidest ⟨Nat.le_of_ble_eq_true rfl, Nat.le_of_ble_eq_true rfl⟩ hl.1 rfl (Nat.le_of_ble_eq_true rfl) dX3_lessenInTurn_2) (fun H locs hB => ?_)
  refine lv_lload_n C.hx C.hb dX3_lessenInTurn_5 rfl (lv_at hl 2 rfl) ?_
  refine g_lcmp_le C (tgt := 13) dX3_lessenInTurn_6 dX3_lessenInTurn_7 (by decide) (fun c_2 => ?_) (fun c_2 => ?_)
  · replace h := (if_pos c_2).symm.trans h
    refine lv_iconst (v := (0 : Int32)) C.hx C.hb dX3_lessenInTurn_13 (by decide) ?_
    refine lv_istore (lv' := [(4, .int (0 : Int32)), (0, .ref (ad 4)), (1, .int v1), (2, .long v2)]) C.hx C.hb dX3_lessenInTurn_14 hl (by decide) rfl (fun ls hl => ?_)
    exact tX3_lessenInTurn_16 C  fuel hB (lv_sub hl [1, 2, 3, 0] rfl) h
  · replace h := (if_neg c_2).symm.trans h
    refine lv_bipush (v := (-5 : Int32)) C.hx C.hb dX3_lessenInTurn_10 (by decide) ?_
    exact g_iret C hB h dX3_lessenInTurn_12
set_option maxHeartbeats 4000000 in
set_option maxRecDepth 100000 in
theorem cnX3_lessenInTurn (l : Launch) (D : va_G) (cI cJ cV : ClassId) (ad : Nat → Nat) (sz : Nat) {v1 : Int32} {v2 : Int64} {I : TI} {J : TJ} {z : Int32 × SS}  (h : fX3_lessenInTurn v1 v2 I J = some z) : Met l yX3_lessenInTurn (wsm yX3_lessenInTurn cX3_lessenInTurn 5 (some .int)) (rmd 4) (va_Pc [.ref (ad 4), .int v1, .long v2] (gPre D (xw cI cJ cV ad) (xt cI cJ cV) sz I J)) (gQi D (xw cI cJ cV ad) (xt cI cJ cV) (xL ad) sz z) 0 0 (gA (xL ad) sz) :=
  g_met (by decide) xw_WL (fun p e s m below meth c hsz C hB ls hl => by subst hsz; exact tX3_lessenInTurn C hB  hl h) (Nat.le_of_ble_eq_true rfl)
theorem hdX3_choose : yX3_choose.cls = "BitTuner$Widths" ∧ yX3_choose.cls ≠ "java/lang/invoke/MethodHandle" ∧ yX3_choose.cls ≠ "java/lang/invoke/VarHandle" ∧ (parseMethodDescriptor yX3_choose.desc).map (fun d => d.parameters.length) = some 4 := by decide +kernel
def fX3_choose_134 (rc : Int32 → Int32 → Int32 → Int64 → TI → TJ → Option (Unit × SS)) (kf_91 : Int32 → Int32 → Int32 → Int64 → Int32 → Int32 → TI → TJ → Option (Unit × SS)) (v1 : Int32) (v2 : Int32) (v3 : Int32) (v4 : Int64) (v7 : Int32) (v9 : Int32) (I : TI) (J : TJ) : Option (Unit × SS) :=
  bnd (rc (v1 + (1 : Int32)) (v2 + (v7 * v9)) v3 v4 I J) (fun q_12 I_12 J_12 =>
  kf_91 v1 v2 v3 v4 v7 (v9 + (4 : Int32)) I_12 J_12)
set_option maxHeartbeats 4000000 in
set_option maxRecDepth 100000 in
theorem tX3_choose_134 {p : Program} {l : Launch} {e : Env} {s : State} {m : MethodId} {args : Array Value} {below : List Frame} {meth : Method} {c : Code} (C : KX p s m args meth c "BitTuner$Widths" cX3_choose 10 none) {D : va_G} {cI cJ cV : ClassId} {ad : Nat → Nat} {z : Unit × SS} {d : Nat} {rc : Int32 → Int32 → Int32 → Int64 → TI → TJ → Option (Unit × SS)} {kf_91 : Int32 → Int32 → Int32 → Int64 → Int32 → Int32 → TI → TJ → Option (Unit × SS)} (hrc : ∀ (sz : Nat) {v1 : Int32} {v2 : Int32} {v3 : Int32} {v4 : Int64} {I : TI} {J : TJ} {z : Unit × SS}, rc v1 v2 v3 v4 I J = some z → Met l yX3_choose (wsm yX3_choose cX3_choose 10 none) (rmd (2 + d)) (va_Pc [.ref (ad 4), .int v1, .int v2, .int v3, .long v4] (gPre D (xw cI cJ cV ad) (xt cI cJ cV) sz I J)) (gQv D (xw cI cJ cV ad) (xt cI cJ cV) (xL ad) sz z) 0 0 (gA (xL ad) sz)) (kt_91 : ∀ {H : Heap} {locs : List Loc} {ls : Array Slot} {I : TI} {J : TJ} {v1 : Int32} {v2 : Int32} {v3 : Int32} {v4 : Int64} {v7 : Int32} {v9 : Int32}, XB D cI cJ cV ad s H locs I J → lv_has ls 10 [(0, .ref (ad 4)), (1, .int v1), (2, .int v2), (3, .int v3), (4, .long v4), (7, .int v7), (9, .int v9)] → kf_91 v1 v2 v3 v4 v7 v9 I J = some z → W p l e (rmd (2 + (d + 1))) s m args below meth c H locs 0 0 (MQ below (gQv D (xw cI cJ cV ad) (xt cI cJ cV) (xL ad) s.heap.size z) args s 0 0 (gA (xL ad) s.heap.size)) (F0 m 91 ls [])) {H : Heap} {locs : List Loc} {ls : Array Slot} {I : TI} {J : TJ} {v1 : Int32} {v2 : Int32} {v3 : Int32} {v4 : Int64} {v7 : Int32} {v9 : Int32} (hB : XB D cI cJ cV ad s H locs I J)  (hl : lv_has ls 10 [(0, .ref (ad 4)), (1, .int v1), (2, .int v2), (3, .int v3), (4, .long v4), (7, .int v7), (9, .int v9)]) (h : fX3_choose_134 rc kf_91 v1 v2 v3 v4 v7 v9 I J = some z) : W p l e (rmd (2 + (d + 1))) s m args below meth c H locs 0 0 (MQ below (gQv D (xw cI cJ cV ad) (xt cI cJ cV) (xL ad) s.heap.size z) args s 0 0 (gA (xL ad) s.heap.size)) (F0 m 134 ls []) := by
  unfold fX3_choose_134 at h
  refine lv_aload_n C.hx C.hb dX3_choose_134 rfl (lv_at hl 0 rfl) ?_
  refine lv_iload_n C.hx C.hb dX3_choose_135 rfl (lv_at hl 1 rfl) ?_
  refine lv_iconst (v := (1 : Int32)) C.hx C.hb dX3_choose_136 (by decide) ?_
  refine lv_iadd C.hx C.hb dX3_choose_137 ?_
  refine lv_iload_n C.hx C.hb dX3_choose_138 rfl (lv_at hl 2 rfl) ?_
  refine lv_iload C.hx C.hb dX3_choose_139 (lv_at hl 5 rfl) ?_
  refine lv_iload C.hx C.hb dX3_choose_141 (lv_at hl 6 rfl) ?_
  refine lv_imul C.hx C.hb dX3_choose_143 ?_
  refine lv_iadd C.hx C.hb dX3_choose_144 ?_
  refine lv_iload_n C.hx C.hb dX3_choose_145 rfl (lv_at hl 3 rfl) ?_
  refine lv_lload C.hx C.hb dX3_choose_146 (lv_at hl 4 rfl) ?_
  obtain ⟨q_12, I_12, J_12, hc_12, h⟩ := bnd_some h
  refine g_gov hB (g_runV C hB [.int (v1 + (1 : Int32)), .int (v2 + (v7 * v9)), .int v3, .long v4] [] (hrc H.size hc_12) 4 rfl rfl tw_476 tw_478 tw_10 tw_37 tw_479 ⟨rfl, rfl⟩ hdX3_choose ⟨by show 2 + d + 1 ≤ 2 + (d + 1); omega, by show 8 + (10 + 11) + 60 * (2 + d) ≤ 60 * (2 + (d + 1)); omega⟩ hl.1 rfl (Nat.le_of_ble_eq_true rfl) dX3_choose_148) (fun H locs hB => ?_)
  refine lv_iinc (v := v9 + (4 : Int32)) (lv' := [(9, .int (v9 + (4 : Int32))), (0, .ref (ad 4)), (1, .int v1), (2, .int v2), (3, .int v3), (4, .long v4), (7, .int v7)]) C.hx C.hb dX3_choose_151 hl (k := 6) rfl rfl (by decide) rfl (fun ls hl => ?_)
  refine lv_goto (tgt := 91) C.hx C.hb dX3_choose_154 (by decide) ?_
  exact kt_91 hB (lv_sub hl [1, 2, 3, 4, 5, 6, 0] rfl) h
def fX3_choose_91 (rc : Int32 → Int32 → Int32 → Int64 → TI → TJ → Option (Unit × SS)) : Nat → Int32 → Int32 → Int32 → Int64 → Int32 → Int32 → TI → TJ → Option (Unit × SS)
  | 0, _, _, _, _, _, _, _, _ => none
  | n + 1, v1, v2, v3, v4, v7, v9, I, J =>
    if (16 : Int32) < v9 then
    some ((), I, J)
    else
    if okx v1 then
    bnd (fX3_boundFromParts v1 (uI I 10 (v1.toNatClampNeg) v9) J) (fun q_10 I_10 J_10 =>
    if v1 = v3 then
    if v4 < ((uJ J_10 5 (v1.toNatClampNeg) q_10) 5 v1.toNatClampNeg) then
    fX3_choose_91 rc n v1 v2 v3 v4 v7 (v9 + (4 : Int32)) I_10 (uJ J_10 5 (v1.toNatClampNeg) q_10)
    else
    fX3_choose_134 rc (fX3_choose_91 rc n) v1 v2 v3 v4 v7 v9 I_10 (uJ J_10 5 (v1.toNatClampNeg) q_10)
    else
    fX3_choose_134 rc (fX3_choose_91 rc n) v1 v2 v3 v4 v7 v9 I_10 (uJ J_10 5 (v1.toNatClampNeg) q_10))
    else none
theorem eX3_choose_91 (rc : Int32 → Int32 → Int32 → Int64 → TI → TJ → Option (Unit × SS)) (n : Nat) (v1 : Int32) (v2 : Int32) (v3 : Int32) (v4 : Int64) (v7 : Int32) (v9 : Int32) (I : TI) (J : TJ) : fX3_choose_91 rc (n + 1) v1 v2 v3 v4 v7 v9 I J = (
    if (16 : Int32) < v9 then
    some ((), I, J)
    else
    if okx v1 then
    bnd (fX3_boundFromParts v1 (uI I 10 (v1.toNatClampNeg) v9) J) (fun q_10 I_10 J_10 =>
    if v1 = v3 then
    if v4 < ((uJ J_10 5 (v1.toNatClampNeg) q_10) 5 v1.toNatClampNeg) then
    fX3_choose_91 rc n v1 v2 v3 v4 v7 (v9 + (4 : Int32)) I_10 (uJ J_10 5 (v1.toNatClampNeg) q_10)
    else
    fX3_choose_134 rc (fX3_choose_91 rc n) v1 v2 v3 v4 v7 v9 I_10 (uJ J_10 5 (v1.toNatClampNeg) q_10)
    else
    fX3_choose_134 rc (fX3_choose_91 rc n) v1 v2 v3 v4 v7 v9 I_10 (uJ J_10 5 (v1.toNatClampNeg) q_10))
    else none) := rfl
set_option maxHeartbeats 4000000 in
set_option maxRecDepth 100000 in
theorem tX3_choose_91 {p : Program} {l : Launch} {e : Env} {s : State} {m : MethodId} {args : Array Value} {below : List Frame} {meth : Method} {c : Code} (C : KX p s m args meth c "BitTuner$Widths" cX3_choose 10 none) {D : va_G} {cI cJ cV : ClassId} {ad : Nat → Nat} {z : Unit × SS} {d : Nat} {rc : Int32 → Int32 → Int32 → Int64 → TI → TJ → Option (Unit × SS)} (hrc : ∀ (sz : Nat) {v1 : Int32} {v2 : Int32} {v3 : Int32} {v4 : Int64} {I : TI} {J : TJ} {z : Unit × SS}, rc v1 v2 v3 v4 I J = some z → Met l yX3_choose (wsm yX3_choose cX3_choose 10 none) (rmd (2 + d)) (va_Pc [.ref (ad 4), .int v1, .int v2, .int v3, .long v4] (gPre D (xw cI cJ cV ad) (xt cI cJ cV) sz I J)) (gQv D (xw cI cJ cV ad) (xt cI cJ cV) (xL ad) sz z) 0 0 (gA (xL ad) sz)) : ∀ (n : Nat), ∀ {H : Heap} {locs : List Loc} {ls : Array Slot} {I : TI} {J : TJ} {v1 : Int32} {v2 : Int32} {v3 : Int32} {v4 : Int64} {v7 : Int32} {v9 : Int32}, XB D cI cJ cV ad s H locs I J → lv_has ls 10 [(0, .ref (ad 4)), (1, .int v1), (2, .int v2), (3, .int v3), (4, .long v4), (7, .int v7), (9, .int v9)] → fX3_choose_91 rc n v1 v2 v3 v4 v7 v9 I J = some z → W p l e (rmd (2 + (d + 1))) s m args below meth c H locs 0 0 (MQ below (gQv D (xw cI cJ cV ad) (xt cI cJ cV) (xL ad) s.heap.size z) args s 0 0 (gA (xL ad) s.heap.size)) (F0 m 91 ls []) := by
  intro n
  induction n with
  | zero =>
    intro H locs ls I J v1 v2 v3 v4 v7 v9 hB  hl h
    have h : (none : Option (Unit × SS)) = some z := h
    cases h
  | succ n ih =>
    intro H locs ls I J v1 v2 v3 v4 v7 v9 hB  hl h
    replace h := (eX3_choose_91 rc n v1 v2 v3 v4 v7 v9 I J).symm.trans h
    refine lv_iload C.hx C.hb dX3_choose_91 (lv_at hl 6 rfl) ?_
    refine lv_bipush (v := (16 : Int32)) C.hx C.hb dX3_choose_93 (by decide) ?_
    refine lv_icmp_gt (tgt := 157) C.hx C.hb dX3_choose_95 (by decide) (fun c_8 => ?_) (fun c_8 => ?_)
    · replace h := (if_pos c_8).symm.trans h
      exact g_vret C hB h dX3_choose_157
    · replace h := (if_neg c_8).symm.trans h
      refine lv_aload_n C.hx C.hb dX3_choose_98 rfl (lv_at hl 0 rfl) ?_
      refine xg_w_trial C hB tw_171 dX3_choose_99 ?_
      refine lv_iload_n C.hx C.hb dX3_choose_102 rfl (lv_at hl 1 rfl) ?_
      refine lv_iload C.hx C.hb dX3_choose_103 (lv_at hl 6 rfl) ?_
      obtain ⟨c_9, h⟩ := ite_ck h
      refine xa_trial_st C hB c_9 dX3_choose_105 (fun H locs hB => ?_)
      refine lv_aload_n C.hx C.hb dX3_choose_106 rfl (lv_at hl 0 rfl) ?_
      refine xg_w_bounds C hB tw_172 dX3_choose_107 ?_
      refine lv_iload_n C.hx C.hb dX3_choose_110 rfl (lv_at hl 1 rfl) ?_
      refine lv_aload_n C.hx C.hb dX3_choose_111 rfl (lv_at hl 0 rfl) ?_
      refine lv_iload_n C.hx C.hb dX3_choose_112 rfl (lv_at hl 1 rfl) ?_
      obtain ⟨q_10, I_10, J_10, hc_10, h⟩ := bnd_some h
      refine g_gol hB (g_runV C hB [.int v1] [.int v1, .ref (ad 10)] (cnX3_boundFromParts l D cI cJ cV ad H.size  hc_10) 4 rfl rfl tw_319 tw_321 tw_4 tw_37 tw_322 ⟨rfl, rfl⟩ hdX3_boundFromParts ⟨by show 1 + 1 ≤ 2 + (d + 1); omega, by show 8 + (9 + 11) + 60 * 1 ≤ 60 * (2 + (d + 1)); omega⟩ hl.1 rfl (Nat.le_of_ble_eq_true rfl) dX3_choose_113) (fun H locs hB => ?_)
      refine xa_bounds_st C hB c_9 dX3_choose_116 (fun H locs hB => ?_)
      refine lv_iload_n C.hx C.hb dX3_choose_117 rfl (lv_at hl 1 rfl) ?_
      refine lv_iload_n C.hx C.hb dX3_choose_118 rfl (lv_at hl 3 rfl) ?_
      refine lv_icmp_ne (tgt := 134) C.hx C.hb dX3_choose_119 (by decide) (fun c_11 => ?_) (fun c_11 => ?_)
      · replace h := (if_neg c_11).symm.trans h
        exact tX3_choose_134 C hrc (ih) hB (lv_sub hl [0, 1, 2, 3, 4, 5, 6] rfl) h
      · replace h := (if_pos c_11).symm.trans h
        refine lv_aload_n C.hx C.hb dX3_choose_122 rfl (lv_at hl 0 rfl) ?_
        refine xg_w_bounds C hB tw_172 dX3_choose_123 ?_
        refine lv_iload_n C.hx C.hb dX3_choose_126 rfl (lv_at hl 1 rfl) ?_
        refine xa_bounds_ld C hB c_9 dX3_choose_127 ?_
        refine lv_lload C.hx C.hb dX3_choose_128 (lv_at hl 4 rfl) ?_
        refine g_lcmp_gt C (tgt := 151) dX3_choose_130 dX3_choose_131 (by decide) (fun c_13 => ?_) (fun c_13 => ?_)
        · replace h := (if_pos c_13).symm.trans h
          refine lv_iinc (v := v9 + (4 : Int32)) (lv' := [(9, .int (v9 + (4 : Int32))), (0, .ref (ad 4)), (1, .int v1), (2, .int v2), (3, .int v3), (4, .long v4), (7, .int v7)]) C.hx C.hb dX3_choose_151 hl (k := 6) rfl rfl (by decide) rfl (fun ls hl => ?_)
          refine lv_goto (tgt := 91) C.hx C.hb dX3_choose_154 (by decide) ?_
          exact ih hB (lv_sub hl [1, 2, 3, 4, 5, 6, 0] rfl) h
        · replace h := (if_neg c_13).symm.trans h
          exact tX3_choose_134 C hrc (ih) hB (lv_sub hl [0, 1, 2, 3, 4, 5, 6] rfl) h
def fX3_choose_85 (rc : Int32 → Int32 → Int32 → Int64 → TI → TJ → Option (Unit × SS)) (v1 : Int32) (v2 : Int32) (v3 : Int32) (v4 : Int64) (v7 : Int32) (w0 : Int32) (I : TI) (J : TJ) : Option (Unit × SS) :=
  fX3_choose_91 rc fuel v1 v2 v3 v4 v7 w0 I J
set_option maxHeartbeats 4000000 in
set_option maxRecDepth 100000 in
theorem tX3_choose_85 {p : Program} {l : Launch} {e : Env} {s : State} {m : MethodId} {args : Array Value} {below : List Frame} {meth : Method} {c : Code} (C : KX p s m args meth c "BitTuner$Widths" cX3_choose 10 none) {D : va_G} {cI cJ cV : ClassId} {ad : Nat → Nat} {z : Unit × SS} {d : Nat} {rc : Int32 → Int32 → Int32 → Int64 → TI → TJ → Option (Unit × SS)} (hrc : ∀ (sz : Nat) {v1 : Int32} {v2 : Int32} {v3 : Int32} {v4 : Int64} {I : TI} {J : TJ} {z : Unit × SS}, rc v1 v2 v3 v4 I J = some z → Met l yX3_choose (wsm yX3_choose cX3_choose 10 none) (rmd (2 + d)) (va_Pc [.ref (ad 4), .int v1, .int v2, .int v3, .long v4] (gPre D (xw cI cJ cV ad) (xt cI cJ cV) sz I J)) (gQv D (xw cI cJ cV ad) (xt cI cJ cV) (xL ad) sz z) 0 0 (gA (xL ad) sz)) {H : Heap} {locs : List Loc} {ls : Array Slot} {I : TI} {J : TJ} {v1 : Int32} {v2 : Int32} {v3 : Int32} {v4 : Int64} {v7 : Int32} {w0 : Int32} (hB : XB D cI cJ cV ad s H locs I J)  (hl : lv_has ls 10 [(0, .ref (ad 4)), (1, .int v1), (2, .int v2), (3, .int v3), (4, .long v4), (7, .int v7)]) (h : fX3_choose_85 rc v1 v2 v3 v4 v7 w0 I J = some z) : W p l e (rmd (2 + (d + 1))) s m args below meth c H locs 0 0 (MQ below (gQv D (xw cI cJ cV ad) (xt cI cJ cV) (xL ad) s.heap.size z) args s 0 0 (gA (xL ad) s.heap.size)) (F0 m 85 ls [.int w0]) := by
  unfold fX3_choose_85 at h
  refine lv_istore (lv' := [(8, .int w0), (0, .ref (ad 4)), (1, .int v1), (2, .int v2), (3, .int v3), (4, .long v4), (7, .int v7)]) C.hx C.hb dX3_choose_85 hl (by decide) rfl (fun ls hl => ?_)
  refine lv_iload C.hx C.hb dX3_choose_87 (lv_at hl 0 rfl) ?_
  refine lv_istore (lv' := [(9, .int w0), (8, .int w0), (0, .ref (ad 4)), (1, .int v1), (2, .int v2), (3, .int v3), (4, .long v4), (7, .int v7)]) C.hx C.hb dX3_choose_89 hl (by decide) rfl (fun ls hl => ?_)
  exact tX3_choose_91 C hrc fuel hB (lv_sub hl [2, 3, 4, 5, 6, 7, 0] rfl) h
def fX3_choose_69 (rc : Int32 → Int32 → Int32 → Int64 → TI → TJ → Option (Unit × SS)) (v1 : Int32) (v2 : Int32) (v3 : Int32) (v4 : Int64) (k6 : Nat) (w0 : Int32) (I : TI) (J : TJ) : Option (Unit × SS) :=
  bnd (fX2_isGiven k6 I J) (fun q_6 I_6 J_6 =>
  if q_6 = 0 then
  fX3_choose_85 rc v1 v2 v3 v4 w0 (0 : Int32) I_6 J_6
  else
  fX3_choose_85 rc v1 v2 v3 v4 w0 (16 : Int32) I_6 J_6)
set_option maxHeartbeats 4000000 in
set_option maxRecDepth 100000 in
theorem tX3_choose_69 {p : Program} {l : Launch} {e : Env} {s : State} {m : MethodId} {args : Array Value} {below : List Frame} {meth : Method} {c : Code} (C : KX p s m args meth c "BitTuner$Widths" cX3_choose 10 none) {D : va_G} {cI cJ cV : ClassId} {ad : Nat → Nat} {z : Unit × SS} {d : Nat} {rc : Int32 → Int32 → Int32 → Int64 → TI → TJ → Option (Unit × SS)} (hrc : ∀ (sz : Nat) {v1 : Int32} {v2 : Int32} {v3 : Int32} {v4 : Int64} {I : TI} {J : TJ} {z : Unit × SS}, rc v1 v2 v3 v4 I J = some z → Met l yX3_choose (wsm yX3_choose cX3_choose 10 none) (rmd (2 + d)) (va_Pc [.ref (ad 4), .int v1, .int v2, .int v3, .long v4] (gPre D (xw cI cJ cV ad) (xt cI cJ cV) sz I J)) (gQv D (xw cI cJ cV ad) (xt cI cJ cV) (xL ad) sz z) 0 0 (gA (xL ad) sz)) {H : Heap} {locs : List Loc} {ls : Array Slot} {I : TI} {J : TJ} {v1 : Int32} {v2 : Int32} {v3 : Int32} {v4 : Int64} {k6 : Nat} {w0 : Int32} (hB : XB D cI cJ cV ad s H locs I J) (hk6 : k6 < 16) (hl : lv_has ls 10 [(0, .ref (ad 4)), (1, .int v1), (2, .int v2), (3, .int v3), (4, .long v4), (6, .ref (ad (12 + k6)))]) (h : fX3_choose_69 rc v1 v2 v3 v4 k6 w0 I J = some z) : W p l e (rmd (2 + (d + 1))) s m args below meth c H locs 0 0 (MQ below (gQv D (xw cI cJ cV ad) (xt cI cJ cV) (xL ad) s.heap.size z) args s 0 0 (gA (xL ad) s.heap.size)) (F0 m 69 ls [.int w0]) := by
  unfold fX3_choose_69 at h
  refine lv_istore (lv' := [(7, .int w0), (0, .ref (ad 4)), (1, .int v1), (2, .int v2), (3, .int v3), (4, .long v4), (6, .ref (ad (12 + k6)))]) C.hx C.hb dX3_choose_69 hl (by decide) rfl (fun ls hl => ?_)
  refine lv_aload C.hx C.hb dX3_choose_71 (lv_at hl 6 rfl) ?_
  obtain ⟨q_6, I_6, J_6, hc_6, h⟩ := bnd_some h
  refine g_goi hB (g_runV C hB [] [] (cnX2_isGiven l D cI cJ cV ad H.size hk6  hc_6) (12 + k6) (xw_val hk6) rfl tw_323 tw_288 tw_289 tw_35 tw_290 ⟨rfl, rfl⟩ hdX2_isGiven ⟨by show 0 + 1 ≤ 2 + (d + 1); omega, by show 8 + (1 + 11) + 60 * 0 ≤ 60 * (2 + (d + 1)); omega⟩ hl.1 rfl (Nat.le_of_ble_eq_true rfl) dX3_choose_73) (fun H locs hB => ?_)
  refine lv_if_eq (tgt := 84) C.hx C.hb dX3_choose_76 (by decide) (fun c_7 => ?_) (fun c_7 => ?_)
  · replace h := (if_pos c_7).symm.trans h
    refine lv_iconst (v := (0 : Int32)) C.hx C.hb dX3_choose_84 (by decide) ?_
    exact tX3_choose_85 C hrc hB (lv_sub hl [1, 2, 3, 4, 5, 0] rfl) h
  · replace h := (if_neg c_7).symm.trans h
    refine lv_bipush (v := (16 : Int32)) C.hx C.hb dX3_choose_79 (by decide) ?_
    refine lv_goto (tgt := 85) C.hx C.hb dX3_choose_81 (by decide) ?_
    exact tX3_choose_85 C hrc hB (lv_sub hl [1, 2, 3, 4, 5, 0] rfl) h
def fX3_choose_0 (rc : Int32 → Int32 → Int32 → Int64 → TI → TJ → Option (Unit × SS)) (v1 : Int32) (v2 : Int32) (v3 : Int32) (v4 : Int64) (I : TI) (J : TJ) : Option (Unit × SS) :=
  if v2 < (I 12 1) then
  if v1 < (I 12 0) then
  if okx v1 then
  bnd (fX2_isGiven v1.toNatClampNeg I J) (fun q_4 I_4 J_4 =>
  if q_4 = 0 then
  fX3_choose_69 rc v1 v2 v3 v4 v1.toNatClampNeg (I_4 6 v1.toNatClampNeg) I_4 J_4
  else
  fX3_choose_69 rc v1 v2 v3 v4 v1.toNatClampNeg (0 : Int32) I_4 J_4)
  else none
  else
  some ((), (sI (uI I 12 1 v2) 11 (va_cpy (I 10) (I 11) 0 0 16)), J)
  else
  some ((), I, J)
set_option maxHeartbeats 4000000 in
set_option maxRecDepth 100000 in
theorem tX3_choose_0 {p : Program} {l : Launch} {e : Env} {s : State} {m : MethodId} {args : Array Value} {below : List Frame} {meth : Method} {c : Code} (C : KX p s m args meth c "BitTuner$Widths" cX3_choose 10 none) {D : va_G} {cI cJ cV : ClassId} {ad : Nat → Nat} {z : Unit × SS} {d : Nat} {rc : Int32 → Int32 → Int32 → Int64 → TI → TJ → Option (Unit × SS)} (hrc : ∀ (sz : Nat) {v1 : Int32} {v2 : Int32} {v3 : Int32} {v4 : Int64} {I : TI} {J : TJ} {z : Unit × SS}, rc v1 v2 v3 v4 I J = some z → Met l yX3_choose (wsm yX3_choose cX3_choose 10 none) (rmd (2 + d)) (va_Pc [.ref (ad 4), .int v1, .int v2, .int v3, .long v4] (gPre D (xw cI cJ cV ad) (xt cI cJ cV) sz I J)) (gQv D (xw cI cJ cV ad) (xt cI cJ cV) (xL ad) sz z) 0 0 (gA (xL ad) sz)) {H : Heap} {locs : List Loc} {ls : Array Slot} {I : TI} {J : TJ} {v1 : Int32} {v2 : Int32} {v3 : Int32} {v4 : Int64} (hB : XB D cI cJ cV ad s H locs I J)  (hl : lv_has ls 10 [(0, .ref (ad 4)), (1, .int v1), (2, .int v2), (3, .int v3), (4, .long v4)]) (h : fX3_choose_0 rc v1 v2 v3 v4 I J = some z) : W p l e (rmd (2 + (d + 1))) s m args below meth c H locs 0 0 (MQ below (gQv D (xw cI cJ cV ad) (xt cI cJ cV) (xL ad) s.heap.size z) args s 0 0 (gA (xL ad) s.heap.size)) (F0 m 0 ls []) := by
  unfold fX3_choose_0 at h
  refine lv_iload_n C.hx C.hb dX3_choose_0 rfl (lv_at hl 2 rfl) ?_
  refine lv_aload_n C.hx C.hb dX3_choose_1 rfl (lv_at hl 0 rfl) ?_
  refine xg_w_cheapestPrice C hB tw_174 dX3_choose_2 ?_
  refine lv_icmp_lt (tgt := 9) C.hx C.hb dX3_choose_5 (by decide) (fun c_1 => ?_) (fun c_1 => ?_)
  · replace h := (if_pos c_1).symm.trans h
    refine lv_iload_n C.hx C.hb dX3_choose_9 rfl (lv_at hl 1 rfl) ?_
    refine lv_aload_n C.hx C.hb dX3_choose_10 rfl (lv_at hl 0 rfl) ?_
    refine xg_w_program C hB tw_170 dX3_choose_11 ?_
    refine xg_p_many C hB tw_130 dX3_choose_14 ?_
    refine lv_icmp_lt (tgt := 41) C.hx C.hb dX3_choose_17 (by decide) (fun c_2 => ?_) (fun c_2 => ?_)
    · replace h := (if_pos c_2).symm.trans h
      refine lv_aload_n C.hx C.hb dX3_choose_41 rfl (lv_at hl 0 rfl) ?_
      refine xg_w_program C hB tw_170 dX3_choose_42 ?_
      refine xg_p_values C hB tw_127 dX3_choose_45 ?_
      refine lv_iload_n C.hx C.hb dX3_choose_48 rfl (lv_at hl 1 rfl) ?_
      obtain ⟨c_3, h⟩ := ite_ck h
      refine xa_values_ld C hB c_3 dX3_choose_49 ?_
      refine lv_astore (lv' := [(6, .ref (ad (12 + v1.toNatClampNeg))), (0, .ref (ad 4)), (1, .int v1), (2, .int v2), (3, .int v3), (4, .long v4)]) C.hx C.hb dX3_choose_50 hl (by decide) rfl (fun ls hl => ?_)
      refine lv_aload C.hx C.hb dX3_choose_52 (lv_at hl 0 rfl) ?_
      obtain ⟨q_4, I_4, J_4, hc_4, h⟩ := bnd_some h
      refine g_goi hB (g_runV C hB [] [] (cnX2_isGiven l D cI cJ cV ad H.size c_3.2  hc_4) (12 + v1.toNatClampNeg) (xw_val c_3.2) rfl tw_323 tw_288 tw_289 tw_35 tw_290 ⟨rfl, rfl⟩ hdX2_isGiven ⟨by show 0 + 1 ≤ 2 + (d + 1); omega, by show 8 + (1 + 11) + 60 * 0 ≤ 60 * (2 + (d + 1)); omega⟩ hl.1 rfl (Nat.le_of_ble_eq_true rfl) dX3_choose_54) (fun H locs hB => ?_)
      refine lv_if_eq (tgt := 64) C.hx C.hb dX3_choose_57 (by decide) (fun c_5 => ?_) (fun c_5 => ?_)
      · replace h := (if_pos c_5).symm.trans h
        refine lv_aload C.hx C.hb dX3_choose_64 (lv_at hl 0 rfl) ?_
        refine xg_v_weight C hB c_3.2 tw_89 dX3_choose_66 ?_
        exact tX3_choose_69 C hrc hB c_3.2 (lv_sub hl [1, 2, 3, 4, 5, 0] rfl) h
      · replace h := (if_neg c_5).symm.trans h
        refine lv_iconst (v := (0 : Int32)) C.hx C.hb dX3_choose_60 (by decide) ?_
        refine lv_goto (tgt := 69) C.hx C.hb dX3_choose_61 (by decide) ?_
        exact tX3_choose_69 C hrc hB c_3.2 (lv_sub hl [1, 2, 3, 4, 5, 0] rfl) h
    · replace h := (if_neg c_2).symm.trans h
      refine lv_aload_n C.hx C.hb dX3_choose_20 rfl (lv_at hl 0 rfl) ?_
      refine lv_iload_n C.hx C.hb dX3_choose_21 rfl (lv_at hl 2 rfl) ?_
      refine xp_w_cheapestPrice C hB tw_174 dX3_choose_22 (fun H locs hB => ?_)
      refine lv_aload_n C.hx C.hb dX3_choose_25 rfl (lv_at hl 0 rfl) ?_
      refine xg_w_trial C hB tw_171 dX3_choose_26 ?_
      refine lv_iconst (v := (0 : Int32)) C.hx C.hb dX3_choose_29 (by decide) ?_
      refine lv_aload_n C.hx C.hb dX3_choose_30 rfl (lv_at hl 0 rfl) ?_
      refine xg_w_cheapest C hB tw_173 dX3_choose_31 ?_
      refine lv_iconst (v := (0 : Int32)) C.hx C.hb dX3_choose_34 (by decide) ?_
      refine lv_bipush (v := (16 : Int32)) C.hx C.hb dX3_choose_35 (by decide) ?_
      refine x_copy C hB (C.hml.trans hl.1.symm) tw_480 tw_482 tw_481 tw_40 (by show _ ≤ _; simp [Value.category, rmd, nativeFrameWords]; try omega) (by show _ ≤ _; simp [Value.category, rmd, nativeFrameWords]; try omega) dX3_choose_37 (fun H locs hB => ?_)
      exact g_vret C hB h dX3_choose_40
  · replace h := (if_neg c_1).symm.trans h
    exact g_vret C hB h dX3_choose_8
def fX3_choose : Nat → Int32 → Int32 → Int32 → Int64 → TI → TJ → Option (Unit × SS)
  | 0, _, _, _, _, _, _ => none
  | d + 1, v1, v2, v3, v4, I, J => fX3_choose_0 (fX3_choose d) v1 v2 v3 v4 I J
set_option maxHeartbeats 4000000 in
set_option maxRecDepth 100000 in
theorem cnX3_choose (l : Launch) (D : va_G) (cI cJ cV : ClassId) (ad : Nat → Nat) : ∀ (d : Nat) (sz : Nat) {v1 : Int32} {v2 : Int32} {v3 : Int32} {v4 : Int64} {I : TI} {J : TJ} {z : Unit × SS}, fX3_choose d v1 v2 v3 v4 I J = some z → Met l yX3_choose (wsm yX3_choose cX3_choose 10 none) (rmd (2 + d)) (va_Pc [.ref (ad 4), .int v1, .int v2, .int v3, .long v4] (gPre D (xw cI cJ cV ad) (xt cI cJ cV) sz I J)) (gQv D (xw cI cJ cV ad) (xt cI cJ cV) (xL ad) sz z) 0 0 (gA (xL ad) sz) := by
  intro d
  induction d with
  | zero =>
    intro sz v1 v2 v3 v4 I J z h
    have h : (none : Option (Unit × SS)) = some z := h
    cases h
  | succ d ih =>
    intro sz v1 v2 v3 v4 I J z h
    exact g_met (d := 2 + (d + 1)) (by decide) xw_WL (fun p e s m below meth c hsz C hB ls hl => by subst hsz; exact tX3_choose_0 C ih hB hl h) (Nat.le_of_ble_eq_true rfl)
theorem hdX3_chooseCheapest : yX3_chooseCheapest.cls = "BitTuner$Widths" ∧ yX3_chooseCheapest.cls ≠ "java/lang/invoke/MethodHandle" ∧ yX3_chooseCheapest.cls ≠ "java/lang/invoke/VarHandle" ∧ (parseMethodDescriptor yX3_chooseCheapest.desc).map (fun d => d.parameters.length) = some 2 := by decide +kernel
def fX3_chooseCheapest  (v1 : Int32) (v2 : Int64) (I : TI) (J : TJ) : Option (Int32 × SS) :=
  bnd (fX0_workedOnes I J) (fun q_1 I_1 J_1 =>
  if q_1 ≤ (6 : Int32) then
  bnd (fX3_choose 20 (0 : Int32) (0 : Int32) v1 v2 (uI I_1 12 1 (2147483647 : Int32)) J_1) (fun q_3 I_3 J_3 =>
  if (I_3 12 1) = (2147483647 : Int32) then
  some ((-5 : Int32), I_3, J_3)
  else
  bnd (fX3_take_11 I_3 J_3) (fun q_5 I_5 J_5 =>
  bnd (fX0_priceInAll I_5 J_5) (fun q_6 I_6 J_6 =>
  some (q_6, I_6, J_6))))
  else
  some ((-5 : Int32), I_1, J_1))
set_option maxHeartbeats 4000000 in
set_option maxRecDepth 100000 in
theorem tX3_chooseCheapest {p : Program} {l : Launch} {e : Env} {s : State} {m : MethodId} {args : Array Value} {below : List Frame} {meth : Method} {c : Code} (C : KX p s m args meth c "BitTuner$Widths" cX3_chooseCheapest 4 (some .int)) {D : va_G} {cI cJ cV : ClassId} {ad : Nat → Nat} {z : Int32 × SS}   {H : Heap} {locs : List Loc} {ls : Array Slot} {I : TI} {J : TJ} {v1 : Int32} {v2 : Int64} (hB : XB D cI cJ cV ad s H locs I J)  (hl : lv_has ls 4 [(0, .ref (ad 4)), (1, .int v1), (2, .long v2)]) (h : fX3_chooseCheapest v1 v2 I J = some z) : W p l e (rmd 23) s m args below meth c H locs 0 0 (MQ below (gQi D (xw cI cJ cV ad) (xt cI cJ cV) (xL ad) s.heap.size z) args s 0 0 (gA (xL ad) s.heap.size)) (F0 m 0 ls []) := by
  unfold fX3_chooseCheapest at h
  refine lv_aload_n C.hx C.hb dX3_chooseCheapest_0 rfl (lv_at hl 0 rfl) ?_
  refine xg_w_program C hB tw_170 dX3_chooseCheapest_1 ?_
  obtain ⟨q_1, I_1, J_1, hc_1, h⟩ := bnd_some h
  refine g_goi hB (g_runV C hB [] [] (cnX0_workedOnes l D cI cJ cV ad H.size  hc_1) 1 rfl rfl tw_471 tw_472 tw_473 tw_34 tw_474 ⟨rfl, rfl⟩ hdX0_workedOnes ⟨Nat.le_of_ble_eq_true rfl, Nat.le_of_ble_eq_true rfl⟩ hl.1 rfl (Nat.le_of_ble_eq_true rfl) dX3_chooseCheapest_4) (fun H locs hB => ?_)
  refine lv_bipush (v := (6 : Int32)) C.hx C.hb dX3_chooseCheapest_7 (by decide) ?_
  refine lv_icmp_le (tgt := 15) C.hx C.hb dX3_chooseCheapest_9 (by decide) (fun c_2 => ?_) (fun c_2 => ?_)
  · replace h := (if_pos c_2).symm.trans h
    refine lv_aload_n C.hx C.hb dX3_chooseCheapest_15 rfl (lv_at hl 0 rfl) ?_
    refine lv_ldc C.hx C.hb C.hown (C.hts _ tw_475) dX3_chooseCheapest_16 ?_
    refine xp_w_cheapestPrice C hB tw_174 dX3_chooseCheapest_18 (fun H locs hB => ?_)
    refine lv_aload_n C.hx C.hb dX3_chooseCheapest_21 rfl (lv_at hl 0 rfl) ?_
    refine lv_iconst (v := (0 : Int32)) C.hx C.hb dX3_chooseCheapest_22 (by decide) ?_
    refine lv_iconst (v := (0 : Int32)) C.hx C.hb dX3_chooseCheapest_23 (by decide) ?_
    refine lv_iload_n C.hx C.hb dX3_chooseCheapest_24 rfl (lv_at hl 1 rfl) ?_
    refine lv_lload_n C.hx C.hb dX3_chooseCheapest_25 rfl (lv_at hl 2 rfl) ?_
    obtain ⟨q_3, I_3, J_3, hc_3, h⟩ := bnd_some h
    refine g_gov hB (g_runV C hB [.int (0 : Int32), .int (0 : Int32), .int v1, .long v2] [] (cnX3_choose l D cI cJ cV ad 20 H.size  hc_3) 4 rfl rfl tw_476 tw_478 tw_10 tw_37 tw_479 ⟨rfl, rfl⟩ hdX3_choose ⟨Nat.le_of_ble_eq_true rfl, Nat.le_of_ble_eq_true rfl⟩ hl.1 rfl (Nat.le_of_ble_eq_true rfl) dX3_chooseCheapest_26) (fun H locs hB => ?_)
    refine lv_aload_n C.hx C.hb dX3_chooseCheapest_29 rfl (lv_at hl 0 rfl) ?_
    refine xg_w_cheapestPrice C hB tw_174 dX3_chooseCheapest_30 ?_
    refine lv_ldc C.hx C.hb C.hown (C.hts _ tw_475) dX3_chooseCheapest_33 ?_
    refine lv_icmp_ne (tgt := 41) C.hx C.hb dX3_chooseCheapest_35 (by decide) (fun c_4 => ?_) (fun c_4 => ?_)
    · replace h := (if_neg c_4).symm.trans h
      refine lv_aload_n C.hx C.hb dX3_chooseCheapest_41 rfl (lv_at hl 0 rfl) ?_
      refine lv_aload_n C.hx C.hb dX3_chooseCheapest_42 rfl (lv_at hl 0 rfl) ?_
      refine xg_w_cheapest C hB tw_173 dX3_chooseCheapest_43 ?_
      obtain ⟨q_5, I_5, J_5, hc_5, h⟩ := bnd_some h
      refine g_gov hB (g_runV C hB [.ref (ad 11)] [] (cnX3_take_11 l D cI cJ cV ad H.size  hc_5) 4 rfl rfl tw_483 tw_485 tw_11 tw_37 tw_486 ⟨rfl, rfl⟩ hdX3_take ⟨Nat.le_of_ble_eq_true rfl, Nat.le_of_ble_eq_true rfl⟩ hl.1 rfl (Nat.le_of_ble_eq_true rfl) dX3_chooseCheapest_46) (fun H locs hB => ?_)
      refine lv_aload_n C.hx C.hb dX3_chooseCheapest_49 rfl (lv_at hl 0 rfl) ?_
      refine xg_w_program C hB tw_170 dX3_chooseCheapest_50 ?_
      obtain ⟨q_6, I_6, J_6, hc_6, h⟩ := bnd_some h
      refine g_goi hB (g_runV C hB [] [] (cnX0_priceInAll l D cI cJ cV ad H.size  hc_6) 1 rfl rfl tw_487 tw_343 tw_344 tw_34 tw_345 ⟨rfl, rfl⟩ hdX0_priceInAll ⟨Nat.le_of_ble_eq_true rfl, Nat.le_of_ble_eq_true rfl⟩ hl.1 rfl (Nat.le_of_ble_eq_true rfl) dX3_chooseCheapest_53) (fun H locs hB => ?_)
      exact g_iret C hB h dX3_chooseCheapest_56
    · replace h := (if_pos c_4).symm.trans h
      refine lv_bipush (v := (-5 : Int32)) C.hx C.hb dX3_chooseCheapest_38 (by decide) ?_
      exact g_iret C hB h dX3_chooseCheapest_40
  · replace h := (if_neg c_2).symm.trans h
    refine lv_bipush (v := (-5 : Int32)) C.hx C.hb dX3_chooseCheapest_12 (by decide) ?_
    exact g_iret C hB h dX3_chooseCheapest_14
set_option maxHeartbeats 4000000 in
set_option maxRecDepth 100000 in
theorem cnX3_chooseCheapest (l : Launch) (D : va_G) (cI cJ cV : ClassId) (ad : Nat → Nat) (sz : Nat) {v1 : Int32} {v2 : Int64} {I : TI} {J : TJ} {z : Int32 × SS}  (h : fX3_chooseCheapest v1 v2 I J = some z) : Met l yX3_chooseCheapest (wsm yX3_chooseCheapest cX3_chooseCheapest 4 (some .int)) (rmd 23) (va_Pc [.ref (ad 4), .int v1, .long v2] (gPre D (xw cI cJ cV ad) (xt cI cJ cV) sz I J)) (gQi D (xw cI cJ cV ad) (xt cI cJ cV) (xL ad) sz z) 0 0 (gA (xL ad) sz) :=
  g_met (by decide) xw_WL (fun p e s m below meth c hsz C hB ls hl => by subst hsz; exact tX3_chooseCheapest C hB  hl h) (Nat.le_of_ble_eq_true rfl)
