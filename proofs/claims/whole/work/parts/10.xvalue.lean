/-! BitTuner statics, Value, Program: pure functions out of the bytecode, and the rows that tie them to the machine (by wip/gen/decomp.py) -/
theorem hdX4_hasTwoParts : yX4_hasTwoParts.cls = "BitTuner" ∧ yX4_hasTwoParts.cls ≠ "java/lang/invoke/MethodHandle" ∧ yX4_hasTwoParts.cls ≠ "java/lang/invoke/VarHandle" ∧ (parseMethodDescriptor yX4_hasTwoParts.desc).map (fun d => d.parameters.length) = some 1 := by decide +kernel
def fX4_hasTwoParts  (v0 : Int32) (I : TI) (J : TJ) : Option (Int32 × SS) :=
  if v0 < (2 : Int32) then
  some ((0 : Int32), I, J)
  else
  if (5 : Int32) < v0 then
  some ((0 : Int32), I, J)
  else
  some ((1 : Int32), I, J)
set_option maxHeartbeats 4000000 in
set_option maxRecDepth 100000 in
theorem tX4_hasTwoParts {p : Program} {l : Launch} {e : Env} {s : State} {m : MethodId} {args : Array Value} {below : List Frame} {meth : Method} {c : Code} (C : KX p s m args meth c "BitTuner" cX4_hasTwoParts 1 (some .boolean)) {D : va_G} {cI cJ cV : ClassId} {ad : Nat → Nat} {z : Int32 × SS}   {H : Heap} {locs : List Loc} {ls : Array Slot} {I : TI} {J : TJ} {v0 : Int32} (hB : XB D cI cJ cV ad s H locs I J)  (hl : lv_has ls 1 [(0, .int v0)]) (h : fX4_hasTwoParts v0 I J = some z) : W p l e (rmd 0) s m args below meth c H locs 0 0 (MQ below (gQi D (xw cI cJ cV ad) (xt cI cJ cV) (xL ad) s.heap.size z) args s 0 0 (gA (xL ad) s.heap.size)) (F0 m 0 ls []) := by
  unfold fX4_hasTwoParts at h
  refine lv_iload_n C.hx C.hb dX4_hasTwoParts_0 rfl (lv_at hl 0 rfl) ?_
  refine lv_iconst (v := (2 : Int32)) C.hx C.hb dX4_hasTwoParts_1 (by decide) ?_
  refine lv_icmp_lt (tgt := 14) C.hx C.hb dX4_hasTwoParts_2 (by decide) (fun c_1 => ?_) (fun c_1 => ?_)
  · replace h := (if_pos c_1).symm.trans h
    refine lv_iconst (v := (0 : Int32)) C.hx C.hb dX4_hasTwoParts_14 (by decide) ?_
    exact g_zret C hB h (by decide) dX4_hasTwoParts_15
  · replace h := (if_neg c_1).symm.trans h
    refine lv_iload_n C.hx C.hb dX4_hasTwoParts_5 rfl (lv_at hl 0 rfl) ?_
    refine lv_iconst (v := (5 : Int32)) C.hx C.hb dX4_hasTwoParts_6 (by decide) ?_
    refine lv_icmp_gt (tgt := 14) C.hx C.hb dX4_hasTwoParts_7 (by decide) (fun c_2 => ?_) (fun c_2 => ?_)
    · replace h := (if_pos c_2).symm.trans h
      refine lv_iconst (v := (0 : Int32)) C.hx C.hb dX4_hasTwoParts_14 (by decide) ?_
      exact g_zret C hB h (by decide) dX4_hasTwoParts_15
    · replace h := (if_neg c_2).symm.trans h
      refine lv_iconst (v := (1 : Int32)) C.hx C.hb dX4_hasTwoParts_10 (by decide) ?_
      refine lv_goto (tgt := 15) C.hx C.hb dX4_hasTwoParts_11 (by decide) ?_
      exact g_zret C hB h (by decide) dX4_hasTwoParts_15
set_option maxHeartbeats 4000000 in
set_option maxRecDepth 100000 in
theorem cnX4_hasTwoParts (l : Launch) (D : va_G) (cI cJ cV : ClassId) (ad : Nat → Nat) (sz : Nat) {v0 : Int32} {I : TI} {J : TJ} {z : Int32 × SS}  (h : fX4_hasTwoParts v0 I J = some z) : Met l yX4_hasTwoParts (wsm yX4_hasTwoParts cX4_hasTwoParts 1 (some .boolean)) (rmd 0) (va_Pc [.int v0] (gPre D (xw cI cJ cV ad) (xt cI cJ cV) sz I J)) (gQi D (xw cI cJ cV ad) (xt cI cJ cV) (xL ad) sz z) 0 0 (gA (xL ad) sz) :=
  g_met (by decide) xw_WL (fun p e s m below meth c hsz C hB ls hl => by subst hsz; exact tX4_hasTwoParts C hB  hl h) (Nat.le_of_ble_eq_true rfl)
theorem hdX4_result : yX4_result.cls = "BitTuner" ∧ yX4_result.cls ≠ "java/lang/invoke/MethodHandle" ∧ yX4_result.cls ≠ "java/lang/invoke/VarHandle" ∧ (parseMethodDescriptor yX4_result.desc).map (fun d => d.parameters.length) = some 3 := by decide +kernel
def fX4_result  (v0 : Int32) (v1 : Int64) (v3 : Int64) (I : TI) (J : TJ) : Option (Int64 × SS) :=
  if v0 = 2 then
  some (v1 + v3, I, J)
  else
  if v0 = 3 then
  some (v1 - v3, I, J)
  else
  if v0 = 4 then
  some (v1 * v3, I, J)
  else
  if v0 = 5 then
  some (if v3 < v1 then v1 else v3, I, J)
  else
  if v0 = 6 then
  some (if 0 < v1 then v1 else -v1, I, J)
  else
  some (v1, I, J)
set_option maxHeartbeats 4000000 in
set_option maxRecDepth 100000 in
theorem tX4_result {p : Program} {l : Launch} {e : Env} {s : State} {m : MethodId} {args : Array Value} {below : List Frame} {meth : Method} {c : Code} (C : KX p s m args meth c "BitTuner" cX4_result 5 (some .long)) {D : va_G} {cI cJ cV : ClassId} {ad : Nat → Nat} {z : Int64 × SS}   {H : Heap} {locs : List Loc} {ls : Array Slot} {I : TI} {J : TJ} {v0 : Int32} {v1 : Int64} {v3 : Int64} (hB : XB D cI cJ cV ad s H locs I J)  (hl : lv_has ls 5 [(0, .int v0), (1, .long v1), (3, .long v3)]) (h : fX4_result v0 v1 v3 I J = some z) : W p l e (rmd 1) s m args below meth c H locs 0 0 (MQ below (gQl D (xw cI cJ cV ad) (xt cI cJ cV) (xL ad) s.heap.size z) args s 0 0 (gA (xL ad) s.heap.size)) (F0 m 0 ls []) := by
  unfold fX4_result at h
  refine lv_iload_n C.hx C.hb dX4_result_0 rfl (lv_at hl 0 rfl) ?_
  by_cases c_1 : v0 = 2
  · replace h := (if_pos c_1).symm.trans h
    refine lv_tableIn (x := v0) (tgt := 36) (off := 35) C.hx C.hb dX4_result_1 (by rw [c_1]; decide) (by rw [c_1]; decide) (by rw [c_1]; rfl) (by decide) ?_
    refine lv_lload_n C.hx C.hb dX4_result_36 rfl (lv_at hl 1 rfl) ?_
    refine lv_lload_n C.hx C.hb dX4_result_37 rfl (lv_at hl 2 rfl) ?_
    refine lv_ladd C.hx C.hb dX4_result_38 ?_
    exact g_lret C hB h dX4_result_39
  · replace h := (if_neg c_1).symm.trans h
    by_cases c_2 : v0 = 3
    · replace h := (if_pos c_2).symm.trans h
      refine lv_tableIn (x := v0) (tgt := 40) (off := 39) C.hx C.hb dX4_result_1 (by rw [c_2]; decide) (by rw [c_2]; decide) (by rw [c_2]; rfl) (by decide) ?_
      refine lv_lload_n C.hx C.hb dX4_result_40 rfl (lv_at hl 1 rfl) ?_
      refine lv_lload_n C.hx C.hb dX4_result_41 rfl (lv_at hl 2 rfl) ?_
      refine lv_lsub C.hx C.hb dX4_result_42 ?_
      exact g_lret C hB h dX4_result_43
    · replace h := (if_neg c_2).symm.trans h
      by_cases c_3 : v0 = 4
      · replace h := (if_pos c_3).symm.trans h
        refine lv_tableIn (x := v0) (tgt := 44) (off := 43) C.hx C.hb dX4_result_1 (by rw [c_3]; decide) (by rw [c_3]; decide) (by rw [c_3]; rfl) (by decide) ?_
        refine lv_lload_n C.hx C.hb dX4_result_44 rfl (lv_at hl 1 rfl) ?_
        refine lv_lload_n C.hx C.hb dX4_result_45 rfl (lv_at hl 2 rfl) ?_
        refine lv_lmul C.hx C.hb dX4_result_46 ?_
        exact g_lret C hB h dX4_result_47
      · replace h := (if_neg c_3).symm.trans h
        by_cases c_4 : v0 = 5
        · replace h := (if_pos c_4).symm.trans h
          refine lv_tableIn (x := v0) (tgt := 48) (off := 47) C.hx C.hb dX4_result_1 (by rw [c_4]; decide) (by rw [c_4]; decide) (by rw [c_4]; rfl) (by decide) ?_
          refine lv_lload_n C.hx C.hb dX4_result_48 rfl (lv_at hl 1 rfl) ?_
          refine lv_lload_n C.hx C.hb dX4_result_49 rfl (lv_at hl 2 rfl) ?_
          refine va_mmax_long C.hx C.hb (C.hml.trans hl.1.symm) C.hown (C.hts _ tw_267) (C.hts _ tw_224) (C.hts _ tw_39) (C.hts _ tw_225) (Nat.le_of_ble_eq_true rfl) (Nat.le_of_ble_eq_true rfl) (Nat.zero_le _) (Nat.zero_le _) dX4_result_50 ?_
          exact g_lret C hB h dX4_result_53
        · replace h := (if_neg c_4).symm.trans h
          by_cases c_5 : v0 = 6
          · replace h := (if_pos c_5).symm.trans h
            refine lv_tableIn (x := v0) (tgt := 54) (off := 53) C.hx C.hb dX4_result_1 (by rw [c_5]; decide) (by rw [c_5]; decide) (by rw [c_5]; rfl) (by decide) ?_
            refine lv_lload_n C.hx C.hb dX4_result_54 rfl (lv_at hl 1 rfl) ?_
            refine va_mabs_long C.hx C.hb (C.hml.trans hl.1.symm) C.hown (C.hts _ tw_268) (C.hts _ tw_221) (C.hts _ tw_39) (C.hts _ tw_222) (Nat.le_of_ble_eq_true rfl) (Nat.le_of_ble_eq_true rfl) (Nat.zero_le _) (Nat.zero_le _) dX4_result_55 ?_
            exact g_lret C hB h dX4_result_58
          · replace h := (if_neg c_5).symm.trans h
            refine lv_tableOut (x := v0) (tgt := 59) C.hx C.hb dX4_result_1 (by have z0 := ts_ne (k := 2) (2 : Int32) rfl c_1; have z1 := ts_ne (k := 3) (3 : Int32) rfl c_2; have z2 := ts_ne (k := 4) (4 : Int32) rfl c_3; have z3 := ts_ne (k := 5) (5 : Int32) rfl c_4; have z4 := ts_ne (k := 6) (6 : Int32) rfl c_5; omega) (by decide) ?_
            refine lv_lload_n C.hx C.hb dX4_result_59 rfl (lv_at hl 1 rfl) ?_
            exact g_lret C hB h dX4_result_60
set_option maxHeartbeats 4000000 in
set_option maxRecDepth 100000 in
theorem cnX4_result (l : Launch) (D : va_G) (cI cJ cV : ClassId) (ad : Nat → Nat) (sz : Nat) {v0 : Int32} {v1 : Int64} {v3 : Int64} {I : TI} {J : TJ} {z : Int64 × SS}  (h : fX4_result v0 v1 v3 I J = some z) : Met l yX4_result (wsm yX4_result cX4_result 5 (some .long)) (rmd 1) (va_Pc [.int v0, .long v1, .long v3] (gPre D (xw cI cJ cV ad) (xt cI cJ cV) sz I J)) (gQl D (xw cI cJ cV ad) (xt cI cJ cV) (xL ad) sz z) 0 0 (gA (xL ad) sz) :=
  g_met (by decide) xw_WL (fun p e s m below meth c hsz C hB ls hl => by subst hsz; exact tX4_result C hB  hl h) (Nat.le_of_ble_eq_true rfl)
theorem hdX4_refusal : yX4_refusal.cls = "BitTuner" ∧ yX4_refusal.cls ≠ "java/lang/invoke/MethodHandle" ∧ yX4_refusal.cls ≠ "java/lang/invoke/VarHandle" ∧ (parseMethodDescriptor yX4_refusal.desc).map (fun d => d.parameters.length) = some 1 := by decide +kernel
def fX4_refusal  (v0 : Int32) (I : TI) (J : TJ) : Option (Int64 × SS) :=
  some ((-9223372036854775808 : Int64) - v0.toInt64, I, J)
set_option maxHeartbeats 4000000 in
set_option maxRecDepth 100000 in
theorem tX4_refusal {p : Program} {l : Launch} {e : Env} {s : State} {m : MethodId} {args : Array Value} {below : List Frame} {meth : Method} {c : Code} (C : KX p s m args meth c "BitTuner" cX4_refusal 1 (some .long)) {D : va_G} {cI cJ cV : ClassId} {ad : Nat → Nat} {z : Int64 × SS}   {H : Heap} {locs : List Loc} {ls : Array Slot} {I : TI} {J : TJ} {v0 : Int32} (hB : XB D cI cJ cV ad s H locs I J)  (hl : lv_has ls 1 [(0, .int v0)]) (h : fX4_refusal v0 I J = some z) : W p l e (rmd 0) s m args below meth c H locs 0 0 (MQ below (gQl D (xw cI cJ cV ad) (xt cI cJ cV) (xL ad) s.heap.size z) args s 0 0 (gA (xL ad) s.heap.size)) (F0 m 0 ls []) := by
  unfold fX4_refusal at h
  refine lv_ldc2 C.hx C.hb C.hown (C.hts _ tw_306) dX4_refusal_0 ?_
  refine lv_iload_n C.hx C.hb dX4_refusal_3 rfl (lv_at hl 0 rfl) ?_
  refine lv_i2l C.hx C.hb dX4_refusal_4 rfl ?_
  refine lv_lsub C.hx C.hb dX4_refusal_5 ?_
  exact g_lret C hB h dX4_refusal_6
set_option maxHeartbeats 4000000 in
set_option maxRecDepth 100000 in
theorem cnX4_refusal (l : Launch) (D : va_G) (cI cJ cV : ClassId) (ad : Nat → Nat) (sz : Nat) {v0 : Int32} {I : TI} {J : TJ} {z : Int64 × SS}  (h : fX4_refusal v0 I J = some z) : Met l yX4_refusal (wsm yX4_refusal cX4_refusal 1 (some .long)) (rmd 0) (va_Pc [.int v0] (gPre D (xw cI cJ cV ad) (xt cI cJ cV) sz I J)) (gQl D (xw cI cJ cV ad) (xt cI cJ cV) (xL ad) sz z) 0 0 (gA (xL ad) sz) :=
  g_met (by decide) xw_WL (fun p e s m below meth c hsz C hB ls hl => by subst hsz; exact tX4_refusal C hB  hl h) (Nat.le_of_ble_eq_true rfl)
theorem hdX4_isStep : yX4_isStep.cls = "BitTuner" ∧ yX4_isStep.cls ≠ "java/lang/invoke/MethodHandle" ∧ yX4_isStep.cls ≠ "java/lang/invoke/VarHandle" ∧ (parseMethodDescriptor yX4_isStep.desc).map (fun d => d.parameters.length) = some 1 := by decide +kernel
def fX4_isStep  (v0 : Int32) (I : TI) (J : TJ) : Option (Int32 × SS) :=
  if (v0 - v0 / (4096 : Int32) * (4096 : Int32)) = 0 then
  some ((1 : Int32), I, J)
  else
  some ((0 : Int32), I, J)
set_option maxHeartbeats 4000000 in
set_option maxRecDepth 100000 in
theorem tX4_isStep {p : Program} {l : Launch} {e : Env} {s : State} {m : MethodId} {args : Array Value} {below : List Frame} {meth : Method} {c : Code} (C : KX p s m args meth c "BitTuner" cX4_isStep 1 (some .boolean)) {D : va_G} {cI cJ cV : ClassId} {ad : Nat → Nat} {z : Int32 × SS}   {H : Heap} {locs : List Loc} {ls : Array Slot} {I : TI} {J : TJ} {v0 : Int32} (hB : XB D cI cJ cV ad s H locs I J)  (hl : lv_has ls 1 [(0, .int v0)]) (h : fX4_isStep v0 I J = some z) : W p l e (rmd 0) s m args below meth c H locs 0 0 (MQ below (gQi D (xw cI cJ cV ad) (xt cI cJ cV) (xL ad) s.heap.size z) args s 0 0 (gA (xL ad) s.heap.size)) (F0 m 0 ls []) := by
  unfold fX4_isStep at h
  refine lv_iload_n C.hx C.hb dX4_isStep_0 rfl (lv_at hl 0 rfl) ?_
  refine lv_sipush (v := (4096 : Int32)) C.hx C.hb dX4_isStep_1 (by decide) ?_
  refine lv_irem C.hx C.hb dX4_isStep_4 (by decide) ?_
  refine lv_if_ne (tgt := 12) C.hx C.hb dX4_isStep_5 (by decide) (fun c_1 => ?_) (fun c_1 => ?_)
  · replace h := (if_neg c_1).symm.trans h
    refine lv_iconst (v := (0 : Int32)) C.hx C.hb dX4_isStep_12 (by decide) ?_
    exact g_zret C hB h (by decide) dX4_isStep_13
  · replace h := (if_pos c_1).symm.trans h
    refine lv_iconst (v := (1 : Int32)) C.hx C.hb dX4_isStep_8 (by decide) ?_
    refine lv_goto (tgt := 13) C.hx C.hb dX4_isStep_9 (by decide) ?_
    exact g_zret C hB h (by decide) dX4_isStep_13
set_option maxHeartbeats 4000000 in
set_option maxRecDepth 100000 in
theorem cnX4_isStep (l : Launch) (D : va_G) (cI cJ cV : ClassId) (ad : Nat → Nat) (sz : Nat) {v0 : Int32} {I : TI} {J : TJ} {z : Int32 × SS}  (h : fX4_isStep v0 I J = some z) : Met l yX4_isStep (wsm yX4_isStep cX4_isStep 1 (some .boolean)) (rmd 0) (va_Pc [.int v0] (gPre D (xw cI cJ cV ad) (xt cI cJ cV) sz I J)) (gQi D (xw cI cJ cV ad) (xt cI cJ cV) (xL ad) sz z) 0 0 (gA (xL ad) sz) :=
  g_met (by decide) xw_WL (fun p e s m below meth c hsz C hB ls hl => by subst hsz; exact tX4_isStep C hB  hl h) (Nat.le_of_ble_eq_true rfl)
theorem hdX4_isGivable : yX4_isGivable.cls = "BitTuner" ∧ yX4_isGivable.cls ≠ "java/lang/invoke/MethodHandle" ∧ yX4_isGivable.cls ≠ "java/lang/invoke/VarHandle" ∧ (parseMethodDescriptor yX4_isGivable.desc).map (fun d => d.parameters.length) = some 1 := by decide +kernel
def fX4_isGivable  (v0 : Int32) (I : TI) (J : TJ) : Option (Int32 × SS) :=
  bnd (fX4_isStep v0 I J) (fun q_1 I_1 J_1 =>
  if q_1 = 0 then
  some ((0 : Int32), I_1, J_1)
  else
  if v0 < (-4194304 : Int32) then
  some ((0 : Int32), I_1, J_1)
  else
  if (4194304 : Int32) < v0 then
  some ((0 : Int32), I_1, J_1)
  else
  some ((1 : Int32), I_1, J_1))
set_option maxHeartbeats 4000000 in
set_option maxRecDepth 100000 in
theorem tX4_isGivable {p : Program} {l : Launch} {e : Env} {s : State} {m : MethodId} {args : Array Value} {below : List Frame} {meth : Method} {c : Code} (C : KX p s m args meth c "BitTuner" cX4_isGivable 1 (some .boolean)) {D : va_G} {cI cJ cV : ClassId} {ad : Nat → Nat} {z : Int32 × SS}   {H : Heap} {locs : List Loc} {ls : Array Slot} {I : TI} {J : TJ} {v0 : Int32} (hB : XB D cI cJ cV ad s H locs I J)  (hl : lv_has ls 1 [(0, .int v0)]) (h : fX4_isGivable v0 I J = some z) : W p l e (rmd 1) s m args below meth c H locs 0 0 (MQ below (gQi D (xw cI cJ cV ad) (xt cI cJ cV) (xL ad) s.heap.size z) args s 0 0 (gA (xL ad) s.heap.size)) (F0 m 0 ls []) := by
  unfold fX4_isGivable at h
  refine lv_iload_n C.hx C.hb dX4_isGivable_0 rfl (lv_at hl 0 rfl) ?_
  obtain ⟨q_1, I_1, J_1, hc_1, h⟩ := bnd_some h
  refine g_goi hB (g_runS C hB [.int v0] [] (cnX4_isStep l D cI cJ cV ad H.size  hc_1) tw_203 tw_204 tw_33 tw_205 ⟨rfl, rfl⟩ hdX4_isStep ⟨Nat.le_of_ble_eq_true rfl, Nat.le_of_ble_eq_true rfl⟩ hl.1 rfl (Nat.le_of_ble_eq_true rfl) dX4_isGivable_1) (fun H locs hB => ?_)
  refine lv_if_eq (tgt := 23) C.hx C.hb dX4_isGivable_4 (by decide) (fun c_2 => ?_) (fun c_2 => ?_)
  · replace h := (if_pos c_2).symm.trans h
    refine lv_iconst (v := (0 : Int32)) C.hx C.hb dX4_isGivable_23 (by decide) ?_
    exact g_zret C hB h (by decide) dX4_isGivable_24
  · replace h := (if_neg c_2).symm.trans h
    refine lv_iload_n C.hx C.hb dX4_isGivable_7 rfl (lv_at hl 0 rfl) ?_
    refine lv_ldc C.hx C.hb C.hown (C.hts _ tw_206) dX4_isGivable_8 ?_
    refine lv_icmp_lt (tgt := 23) C.hx C.hb dX4_isGivable_10 (by decide) (fun c_3 => ?_) (fun c_3 => ?_)
    · replace h := (if_pos c_3).symm.trans h
      refine lv_iconst (v := (0 : Int32)) C.hx C.hb dX4_isGivable_23 (by decide) ?_
      exact g_zret C hB h (by decide) dX4_isGivable_24
    · replace h := (if_neg c_3).symm.trans h
      refine lv_iload_n C.hx C.hb dX4_isGivable_13 rfl (lv_at hl 0 rfl) ?_
      refine lv_ldc C.hx C.hb C.hown (C.hts _ tw_207) dX4_isGivable_14 ?_
      refine lv_icmp_gt (tgt := 23) C.hx C.hb dX4_isGivable_16 (by decide) (fun c_4 => ?_) (fun c_4 => ?_)
      · replace h := (if_pos c_4).symm.trans h
        refine lv_iconst (v := (0 : Int32)) C.hx C.hb dX4_isGivable_23 (by decide) ?_
        exact g_zret C hB h (by decide) dX4_isGivable_24
      · replace h := (if_neg c_4).symm.trans h
        refine lv_iconst (v := (1 : Int32)) C.hx C.hb dX4_isGivable_19 (by decide) ?_
        refine lv_goto (tgt := 24) C.hx C.hb dX4_isGivable_20 (by decide) ?_
        exact g_zret C hB h (by decide) dX4_isGivable_24
set_option maxHeartbeats 4000000 in
set_option maxRecDepth 100000 in
theorem cnX4_isGivable (l : Launch) (D : va_G) (cI cJ cV : ClassId) (ad : Nat → Nat) (sz : Nat) {v0 : Int32} {I : TI} {J : TJ} {z : Int32 × SS}  (h : fX4_isGivable v0 I J = some z) : Met l yX4_isGivable (wsm yX4_isGivable cX4_isGivable 1 (some .boolean)) (rmd 1) (va_Pc [.int v0] (gPre D (xw cI cJ cV ad) (xt cI cJ cV) sz I J)) (gQi D (xw cI cJ cV ad) (xt cI cJ cV) (xL ad) sz z) 0 0 (gA (xL ad) sz) :=
  g_met (by decide) xw_WL (fun p e s m below meth c hsz C hB ls hl => by subst hsz; exact tX4_isGivable C hB  hl h) (Nat.le_of_ble_eq_true rfl)
theorem hdX2_isGiven : yX2_isGiven.cls = "BitTuner$Value" ∧ yX2_isGiven.cls ≠ "java/lang/invoke/MethodHandle" ∧ yX2_isGiven.cls ≠ "java/lang/invoke/VarHandle" ∧ (parseMethodDescriptor yX2_isGiven.desc).map (fun d => d.parameters.length) = some 0 := by decide +kernel
def fX2_isGiven  (k0 : Nat) (I : TI) (J : TJ) : Option (Int32 × SS) :=
  if (I 0 k0) = 0 then
  some ((1 : Int32), I, J)
  else
  if (I 0 k0) = (1 : Int32) then
  some ((1 : Int32), I, J)
  else
  some ((0 : Int32), I, J)
set_option maxHeartbeats 4000000 in
set_option maxRecDepth 100000 in
theorem tX2_isGiven {p : Program} {l : Launch} {e : Env} {s : State} {m : MethodId} {args : Array Value} {below : List Frame} {meth : Method} {c : Code} (C : KX p s m args meth c "BitTuner$Value" cX2_isGiven 1 (some .boolean)) {D : va_G} {cI cJ cV : ClassId} {ad : Nat → Nat} {z : Int32 × SS}   {H : Heap} {locs : List Loc} {ls : Array Slot} {I : TI} {J : TJ} {k0 : Nat} (hB : XB D cI cJ cV ad s H locs I J) (hk0 : k0 < 16) (hl : lv_has ls 1 [(0, .ref (ad (12 + k0)))]) (h : fX2_isGiven k0 I J = some z) : W p l e (rmd 0) s m args below meth c H locs 0 0 (MQ below (gQi D (xw cI cJ cV ad) (xt cI cJ cV) (xL ad) s.heap.size z) args s 0 0 (gA (xL ad) s.heap.size)) (F0 m 0 ls []) := by
  unfold fX2_isGiven at h
  refine lv_aload_n C.hx C.hb dX2_isGiven_0 rfl (lv_at hl 0 rfl) ?_
  refine xg_v_kind C hB hk0 tw_62 dX2_isGiven_1 ?_
  refine lv_if_eq (tgt := 15) C.hx C.hb dX2_isGiven_4 (by decide) (fun c_1 => ?_) (fun c_1 => ?_)
  · replace h := (if_pos c_1).symm.trans h
    refine lv_iconst (v := (1 : Int32)) C.hx C.hb dX2_isGiven_15 (by decide) ?_
    refine lv_goto (tgt := 20) C.hx C.hb dX2_isGiven_16 (by decide) ?_
    exact g_zret C hB h (by decide) dX2_isGiven_20
  · replace h := (if_neg c_1).symm.trans h
    refine lv_aload_n C.hx C.hb dX2_isGiven_7 rfl (lv_at hl 0 rfl) ?_
    refine xg_v_kind C hB hk0 tw_62 dX2_isGiven_8 ?_
    refine lv_iconst (v := (1 : Int32)) C.hx C.hb dX2_isGiven_11 (by decide) ?_
    refine lv_icmp_ne (tgt := 19) C.hx C.hb dX2_isGiven_12 (by decide) (fun c_2 => ?_) (fun c_2 => ?_)
    · replace h := (if_neg c_2).symm.trans h
      refine lv_iconst (v := (0 : Int32)) C.hx C.hb dX2_isGiven_19 (by decide) ?_
      exact g_zret C hB h (by decide) dX2_isGiven_20
    · replace h := (if_pos c_2).symm.trans h
      refine lv_iconst (v := (1 : Int32)) C.hx C.hb dX2_isGiven_15 (by decide) ?_
      refine lv_goto (tgt := 20) C.hx C.hb dX2_isGiven_16 (by decide) ?_
      exact g_zret C hB h (by decide) dX2_isGiven_20
set_option maxHeartbeats 4000000 in
set_option maxRecDepth 100000 in
theorem cnX2_isGiven (l : Launch) (D : va_G) (cI cJ cV : ClassId) (ad : Nat → Nat) (sz : Nat) {k0 : Nat} {I : TI} {J : TJ} {z : Int32 × SS} (hk0 : k0 < 16) (h : fX2_isGiven k0 I J = some z) : Met l yX2_isGiven (wsm yX2_isGiven cX2_isGiven 1 (some .boolean)) (rmd 0) (va_Pc [.ref (ad (12 + k0))] (gPre D (xw cI cJ cV ad) (xt cI cJ cV) sz I J)) (gQi D (xw cI cJ cV ad) (xt cI cJ cV) (xL ad) sz z) 0 0 (gA (xL ad) sz) :=
  g_met (by decide) xw_WL (fun p e s m below meth c hsz C hB ls hl => by subst hsz; exact tX2_isGiven C hB hk0 hl h) (Nat.le_of_ble_eq_true rfl)
theorem hdX2_begin : yX2_begin.cls = "BitTuner$Value" ∧ yX2_begin.cls ≠ "java/lang/invoke/MethodHandle" ∧ yX2_begin.cls ≠ "java/lang/invoke/VarHandle" ∧ (parseMethodDescriptor yX2_begin.desc).map (fun d => d.parameters.length) = some 3 := by decide +kernel
def fX2_begin  (k0 : Nat) (v1 : Int32) (v2 : Int32) (v3 : Int32) (I : TI) (J : TJ) : Option (Unit × SS) :=
  some ((), (uI (uI (uI (uI (uI (uI (uI (uI I 0 k0 v1) 1 k0 v2) 2 k0 v3) 3 k0 (1 : Int32)) 4 k0 (16 : Int32)) 5 k0 (0 : Int32)) 6 k0 (1 : Int32)) 7 k0 (0 : Int32)), J)
set_option maxHeartbeats 4000000 in
set_option maxRecDepth 100000 in
theorem tX2_begin {p : Program} {l : Launch} {e : Env} {s : State} {m : MethodId} {args : Array Value} {below : List Frame} {meth : Method} {c : Code} (C : KX p s m args meth c "BitTuner$Value" cX2_begin 4 none) {D : va_G} {cI cJ cV : ClassId} {ad : Nat → Nat} {z : Unit × SS}   {H : Heap} {locs : List Loc} {ls : Array Slot} {I : TI} {J : TJ} {k0 : Nat} {v1 : Int32} {v2 : Int32} {v3 : Int32} (hB : XB D cI cJ cV ad s H locs I J) (hk0 : k0 < 16) (hl : lv_has ls 4 [(0, .ref (ad (12 + k0))), (1, .int v1), (2, .int v2), (3, .int v3)]) (h : fX2_begin k0 v1 v2 v3 I J = some z) : W p l e (rmd 0) s m args below meth c H locs 0 0 (MQ below (gQv D (xw cI cJ cV ad) (xt cI cJ cV) (xL ad) s.heap.size z) args s 0 0 (gA (xL ad) s.heap.size)) (F0 m 0 ls []) := by
  unfold fX2_begin at h
  refine lv_aload_n C.hx C.hb dX2_begin_0 rfl (lv_at hl 0 rfl) ?_
  refine lv_iload_n C.hx C.hb dX2_begin_1 rfl (lv_at hl 1 rfl) ?_
  refine xp_v_kind C hB hk0 tw_62 dX2_begin_2 (fun H locs hB => ?_)
  refine lv_aload_n C.hx C.hb dX2_begin_5 rfl (lv_at hl 0 rfl) ?_
  refine lv_iload_n C.hx C.hb dX2_begin_6 rfl (lv_at hl 2 rfl) ?_
  refine xp_v_a C hB hk0 tw_67 dX2_begin_7 (fun H locs hB => ?_)
  refine lv_aload_n C.hx C.hb dX2_begin_10 rfl (lv_at hl 0 rfl) ?_
  refine lv_iload_n C.hx C.hb dX2_begin_11 rfl (lv_at hl 3 rfl) ?_
  refine xp_v_b C hB hk0 tw_71 dX2_begin_12 (fun H locs hB => ?_)
  refine lv_aload_n C.hx C.hb dX2_begin_15 rfl (lv_at hl 0 rfl) ?_
  refine lv_iconst (v := (1 : Int32)) C.hx C.hb dX2_begin_16 (by decide) ?_
  refine xp_v_degree C hB hk0 tw_75 dX2_begin_17 (fun H locs hB => ?_)
  refine lv_aload_n C.hx C.hb dX2_begin_20 rfl (lv_at hl 0 rfl) ?_
  refine lv_bipush (v := (16 : Int32)) C.hx C.hb dX2_begin_21 (by decide) ?_
  refine xp_v_bits C hB hk0 tw_77 dX2_begin_23 (fun H locs hB => ?_)
  refine lv_aload_n C.hx C.hb dX2_begin_26 rfl (lv_at hl 0 rfl) ?_
  refine lv_iconst (v := (0 : Int32)) C.hx C.hb dX2_begin_27 (by decide) ?_
  refine xp_v_rounding C hB hk0 tw_82 dX2_begin_28 (fun H locs hB => ?_)
  refine lv_aload_n C.hx C.hb dX2_begin_31 rfl (lv_at hl 0 rfl) ?_
  refine lv_iconst (v := (1 : Int32)) C.hx C.hb dX2_begin_32 (by decide) ?_
  refine xp_v_weight C hB hk0 tw_86 dX2_begin_33 (fun H locs hB => ?_)
  refine lv_aload_n C.hx C.hb dX2_begin_36 rfl (lv_at hl 0 rfl) ?_
  refine lv_iconst (v := (0 : Int32)) C.hx C.hb dX2_begin_37 (by decide) ?_
  refine xp_v_units C hB hk0 tw_99 dX2_begin_38 (fun H locs hB => ?_)
  exact g_vret C hB h dX2_begin_41
set_option maxHeartbeats 4000000 in
set_option maxRecDepth 100000 in
theorem cnX2_begin (l : Launch) (D : va_G) (cI cJ cV : ClassId) (ad : Nat → Nat) (sz : Nat) {k0 : Nat} {v1 : Int32} {v2 : Int32} {v3 : Int32} {I : TI} {J : TJ} {z : Unit × SS} (hk0 : k0 < 16) (h : fX2_begin k0 v1 v2 v3 I J = some z) : Met l yX2_begin (wsm yX2_begin cX2_begin 4 none) (rmd 0) (va_Pc [.ref (ad (12 + k0)), .int v1, .int v2, .int v3] (gPre D (xw cI cJ cV ad) (xt cI cJ cV) sz I J)) (gQv D (xw cI cJ cV ad) (xt cI cJ cV) (xL ad) sz z) 0 0 (gA (xL ad) sz) :=
  g_met (by decide) xw_WL (fun p e s m below meth c hsz C hB ls hl => by subst hsz; exact tX2_begin C hB hk0 hl h) (Nat.le_of_ble_eq_true rfl)
theorem hdX2_spanGiven : yX2_spanGiven.cls = "BitTuner$Value" ∧ yX2_spanGiven.cls ≠ "java/lang/invoke/MethodHandle" ∧ yX2_spanGiven.cls ≠ "java/lang/invoke/VarHandle" ∧ (parseMethodDescriptor yX2_spanGiven.desc).map (fun d => d.parameters.length) = some 0 := by decide +kernel
def fX2_spanGiven_30  (k0 : Nat) (w0 : Int64) (w1 : Nat) (I : TI) (J : TJ) : Option (Unit × SS) :=
  some ((), (uI I 7 k0 (I 1 k0)), (uJ (uJ J 1 w1 w0) 2 k0 (if (if 0 < ((uJ J 1 w1 w0) 1 k0) then ((uJ J 1 w1 w0) 1 k0) else -((uJ J 1 w1 w0) 1 k0)) < (if 0 < (J 0 k0) then (J 0 k0) else -(J 0 k0)) then (if 0 < (J 0 k0) then (J 0 k0) else -(J 0 k0)) else (if 0 < ((uJ J 1 w1 w0) 1 k0) then ((uJ J 1 w1 w0) 1 k0) else -((uJ J 1 w1 w0) 1 k0)))))
set_option maxHeartbeats 4000000 in
set_option maxRecDepth 100000 in
theorem tX2_spanGiven_30 {p : Program} {l : Launch} {e : Env} {s : State} {m : MethodId} {args : Array Value} {below : List Frame} {meth : Method} {c : Code} (C : KX p s m args meth c "BitTuner$Value" cX2_spanGiven 1 none) {D : va_G} {cI cJ cV : ClassId} {ad : Nat → Nat} {z : Unit × SS}   {H : Heap} {locs : List Loc} {ls : Array Slot} {I : TI} {J : TJ} {k0 : Nat} {w0 : Int64} {w1 : Nat} (hB : XB D cI cJ cV ad s H locs I J) (hk0 : k0 < 16) (hw1 : w1 < 16) (hl : lv_has ls 1 [(0, .ref (ad (12 + k0)))]) (h : fX2_spanGiven_30 k0 w0 w1 I J = some z) : W p l e (rmd 1) s m args below meth c H locs 0 0 (MQ below (gQv D (xw cI cJ cV ad) (xt cI cJ cV) (xL ad) s.heap.size z) args s 0 0 (gA (xL ad) s.heap.size)) (F0 m 30 ls [.long w0, .ref (ad (12 + w1))]) := by
  unfold fX2_spanGiven_30 at h
  refine xp_v_high C hB hw1 tw_93 dX2_spanGiven_30 (fun H locs hB => ?_)
  refine lv_aload_n C.hx C.hb dX2_spanGiven_33 rfl (lv_at hl 0 rfl) ?_
  refine lv_aload_n C.hx C.hb dX2_spanGiven_34 rfl (lv_at hl 0 rfl) ?_
  refine xg_v_low C hB hk0 tw_90 dX2_spanGiven_35 ?_
  refine va_mabs_long C.hx C.hb (C.hml.trans hl.1.symm) C.hown (C.hts _ tw_220) (C.hts _ tw_221) (C.hts _ tw_39) (C.hts _ tw_222) (Nat.le_of_ble_eq_true rfl) (Nat.le_of_ble_eq_true rfl) (Nat.zero_le _) (Nat.zero_le _) dX2_spanGiven_38 ?_
  refine lv_aload_n C.hx C.hb dX2_spanGiven_41 rfl (lv_at hl 0 rfl) ?_
  refine xg_v_high C hB hk0 tw_93 dX2_spanGiven_42 ?_
  refine va_mabs_long C.hx C.hb (C.hml.trans hl.1.symm) C.hown (C.hts _ tw_220) (C.hts _ tw_221) (C.hts _ tw_39) (C.hts _ tw_222) (Nat.le_of_ble_eq_true rfl) (Nat.le_of_ble_eq_true rfl) (Nat.zero_le _) (Nat.zero_le _) dX2_spanGiven_45 ?_
  refine va_mmax_long C.hx C.hb (C.hml.trans hl.1.symm) C.hown (C.hts _ tw_223) (C.hts _ tw_224) (C.hts _ tw_39) (C.hts _ tw_225) (Nat.le_of_ble_eq_true rfl) (Nat.le_of_ble_eq_true rfl) (Nat.zero_le _) (Nat.zero_le _) dX2_spanGiven_48 ?_
  refine xp_v_reach C hB hk0 tw_96 dX2_spanGiven_51 (fun H locs hB => ?_)
  refine lv_aload_n C.hx C.hb dX2_spanGiven_54 rfl (lv_at hl 0 rfl) ?_
  refine lv_aload_n C.hx C.hb dX2_spanGiven_55 rfl (lv_at hl 0 rfl) ?_
  refine xg_v_a C hB hk0 tw_67 dX2_spanGiven_56 ?_
  refine xp_v_units C hB hk0 tw_99 dX2_spanGiven_59 (fun H locs hB => ?_)
  exact g_vret C hB h dX2_spanGiven_62
def fX2_spanGiven  (k0 : Nat) (I : TI) (J : TJ) : Option (Unit × SS) :=
  if (I 0 k0) = 0 then
  fX2_spanGiven_30 k0 ((I 2 k0).toInt64) k0 I (uJ J 0 k0 ((I 1 k0).toInt64))
  else
  fX2_spanGiven_30 k0 ((I 1 k0).toInt64) k0 I (uJ J 0 k0 ((I 1 k0).toInt64))
set_option maxHeartbeats 4000000 in
set_option maxRecDepth 100000 in
theorem tX2_spanGiven {p : Program} {l : Launch} {e : Env} {s : State} {m : MethodId} {args : Array Value} {below : List Frame} {meth : Method} {c : Code} (C : KX p s m args meth c "BitTuner$Value" cX2_spanGiven 1 none) {D : va_G} {cI cJ cV : ClassId} {ad : Nat → Nat} {z : Unit × SS}   {H : Heap} {locs : List Loc} {ls : Array Slot} {I : TI} {J : TJ} {k0 : Nat} (hB : XB D cI cJ cV ad s H locs I J) (hk0 : k0 < 16) (hl : lv_has ls 1 [(0, .ref (ad (12 + k0)))]) (h : fX2_spanGiven k0 I J = some z) : W p l e (rmd 1) s m args below meth c H locs 0 0 (MQ below (gQv D (xw cI cJ cV ad) (xt cI cJ cV) (xL ad) s.heap.size z) args s 0 0 (gA (xL ad) s.heap.size)) (F0 m 0 ls []) := by
  unfold fX2_spanGiven at h
  refine lv_aload_n C.hx C.hb dX2_spanGiven_0 rfl (lv_at hl 0 rfl) ?_
  refine lv_aload_n C.hx C.hb dX2_spanGiven_1 rfl (lv_at hl 0 rfl) ?_
  refine xg_v_a C hB hk0 tw_67 dX2_spanGiven_2 ?_
  refine lv_i2l C.hx C.hb dX2_spanGiven_5 rfl ?_
  refine xp_v_low C hB hk0 tw_90 dX2_spanGiven_6 (fun H locs hB => ?_)
  refine lv_aload_n C.hx C.hb dX2_spanGiven_9 rfl (lv_at hl 0 rfl) ?_
  refine lv_aload_n C.hx C.hb dX2_spanGiven_10 rfl (lv_at hl 0 rfl) ?_
  refine xg_v_kind C hB hk0 tw_62 dX2_spanGiven_11 ?_
  refine lv_if_ne (tgt := 25) C.hx C.hb dX2_spanGiven_14 (by decide) (fun c_1 => ?_) (fun c_1 => ?_)
  · replace h := (if_neg c_1).symm.trans h
    refine lv_aload_n C.hx C.hb dX2_spanGiven_25 rfl (lv_at hl 0 rfl) ?_
    refine xg_v_a C hB hk0 tw_67 dX2_spanGiven_26 ?_
    refine lv_i2l C.hx C.hb dX2_spanGiven_29 rfl ?_
    exact tX2_spanGiven_30 C  hB hk0 hk0 (lv_sub hl [0] rfl) h
  · replace h := (if_pos c_1).symm.trans h
    refine lv_aload_n C.hx C.hb dX2_spanGiven_17 rfl (lv_at hl 0 rfl) ?_
    refine xg_v_b C hB hk0 tw_71 dX2_spanGiven_18 ?_
    refine lv_i2l C.hx C.hb dX2_spanGiven_21 rfl ?_
    refine lv_goto (tgt := 30) C.hx C.hb dX2_spanGiven_22 (by decide) ?_
    exact tX2_spanGiven_30 C  hB hk0 hk0 (lv_sub hl [0] rfl) h
set_option maxHeartbeats 4000000 in
set_option maxRecDepth 100000 in
theorem cnX2_spanGiven (l : Launch) (D : va_G) (cI cJ cV : ClassId) (ad : Nat → Nat) (sz : Nat) {k0 : Nat} {I : TI} {J : TJ} {z : Unit × SS} (hk0 : k0 < 16) (h : fX2_spanGiven k0 I J = some z) : Met l yX2_spanGiven (wsm yX2_spanGiven cX2_spanGiven 1 none) (rmd 1) (va_Pc [.ref (ad (12 + k0))] (gPre D (xw cI cJ cV ad) (xt cI cJ cV) sz I J)) (gQv D (xw cI cJ cV ad) (xt cI cJ cV) (xL ad) sz z) 0 0 (gA (xL ad) sz) :=
  g_met (by decide) xw_WL (fun p e s m below meth c hsz C hB ls hl => by subst hsz; exact tX2_spanGiven C hB hk0 hl h) (Nat.le_of_ble_eq_true rfl)
theorem hdX2_spanProduct : yX2_spanProduct.cls = "BitTuner$Value" ∧ yX2_spanProduct.cls ≠ "java/lang/invoke/MethodHandle" ∧ yX2_spanProduct.cls ≠ "java/lang/invoke/VarHandle" ∧ (parseMethodDescriptor yX2_spanProduct.desc).map (fun d => d.parameters.length) = some 2 := by decide +kernel
def fX2_spanProduct  (k0 : Nat) (k1 : Nat) (k2 : Nat) (I : TI) (J : TJ) : Option (Unit × SS) :=
  some ((), I, (uJ (uJ J 0 k0 ((if (if ((J 1 k1) * (J 1 k2)) < ((J 1 k1) * (J 0 k2)) then ((J 1 k1) * (J 1 k2)) else ((J 1 k1) * (J 0 k2))) < (if ((J 0 k1) * (J 1 k2)) < ((J 0 k1) * (J 0 k2)) then ((J 0 k1) * (J 1 k2)) else ((J 0 k1) * (J 0 k2))) then (if ((J 1 k1) * (J 1 k2)) < ((J 1 k1) * (J 0 k2)) then ((J 1 k1) * (J 1 k2)) else ((J 1 k1) * (J 0 k2))) else (if ((J 0 k1) * (J 1 k2)) < ((J 0 k1) * (J 0 k2)) then ((J 0 k1) * (J 1 k2)) else ((J 0 k1) * (J 0 k2)))) >>> ((16 : Int32).toInt64 &&& 63))) 1 k0 ((if (if ((J 1 k1) * (J 1 k2)) < ((J 1 k1) * (J 0 k2)) then ((J 1 k1) * (J 0 k2)) else ((J 1 k1) * (J 1 k2))) < (if ((J 0 k1) * (J 1 k2)) < ((J 0 k1) * (J 0 k2)) then ((J 0 k1) * (J 0 k2)) else ((J 0 k1) * (J 1 k2))) then (if ((J 0 k1) * (J 1 k2)) < ((J 0 k1) * (J 0 k2)) then ((J 0 k1) * (J 0 k2)) else ((J 0 k1) * (J 1 k2))) else (if ((J 1 k1) * (J 1 k2)) < ((J 1 k1) * (J 0 k2)) then ((J 1 k1) * (J 0 k2)) else ((J 1 k1) * (J 1 k2)))) >>> ((16 : Int32).toInt64 &&& 63))))
set_option maxHeartbeats 4000000 in
set_option maxRecDepth 100000 in
theorem tX2_spanProduct {p : Program} {l : Launch} {e : Env} {s : State} {m : MethodId} {args : Array Value} {below : List Frame} {meth : Method} {c : Code} (C : KX p s m args meth c "BitTuner$Value" cX2_spanProduct 11 none) {D : va_G} {cI cJ cV : ClassId} {ad : Nat → Nat} {z : Unit × SS}   {H : Heap} {locs : List Loc} {ls : Array Slot} {I : TI} {J : TJ} {k0 : Nat} {k1 : Nat} {k2 : Nat} (hB : XB D cI cJ cV ad s H locs I J) (hk0 : k0 < 16) (hk1 : k1 < 16) (hk2 : k2 < 16) (hl : lv_has ls 11 [(0, .ref (ad (12 + k0))), (1, .ref (ad (12 + k1))), (2, .ref (ad (12 + k2)))]) (h : fX2_spanProduct k0 k1 k2 I J = some z) : W p l e (rmd 1) s m args below meth c H locs 0 0 (MQ below (gQv D (xw cI cJ cV ad) (xt cI cJ cV) (xL ad) s.heap.size z) args s 0 0 (gA (xL ad) s.heap.size)) (F0 m 0 ls []) := by
  unfold fX2_spanProduct at h
  refine lv_aload_n C.hx C.hb dX2_spanProduct_0 rfl (lv_at hl 1 rfl) ?_
  refine xg_v_low C hB hk1 tw_90 dX2_spanProduct_1 ?_
  refine lv_aload_n C.hx C.hb dX2_spanProduct_4 rfl (lv_at hl 2 rfl) ?_
  refine xg_v_low C hB hk2 tw_90 dX2_spanProduct_5 ?_
  refine lv_lmul C.hx C.hb dX2_spanProduct_8 ?_
  refine lv_lstore_n (lv' := [(3, .long ((J 0 k1) * (J 0 k2))), (0, .ref (ad (12 + k0))), (1, .ref (ad (12 + k1))), (2, .ref (ad (12 + k2)))]) C.hx C.hb dX2_spanProduct_9 rfl hl (by decide) rfl (fun ls hl => ?_)
  refine lv_aload_n C.hx C.hb dX2_spanProduct_10 rfl (lv_at hl 2 rfl) ?_
  refine xg_v_low C hB hk1 tw_90 dX2_spanProduct_11 ?_
  refine lv_aload_n C.hx C.hb dX2_spanProduct_14 rfl (lv_at hl 3 rfl) ?_
  refine xg_v_high C hB hk2 tw_93 dX2_spanProduct_15 ?_
  refine lv_lmul C.hx C.hb dX2_spanProduct_18 ?_
  refine lv_lstore (lv' := [(5, .long ((J 0 k1) * (J 1 k2))), (3, .long ((J 0 k1) * (J 0 k2))), (0, .ref (ad (12 + k0))), (1, .ref (ad (12 + k1))), (2, .ref (ad (12 + k2)))]) C.hx C.hb dX2_spanProduct_19 hl (by decide) rfl (fun ls hl => ?_)
  refine lv_aload_n C.hx C.hb dX2_spanProduct_21 rfl (lv_at hl 3 rfl) ?_
  refine xg_v_high C hB hk1 tw_93 dX2_spanProduct_22 ?_
  refine lv_aload_n C.hx C.hb dX2_spanProduct_25 rfl (lv_at hl 4 rfl) ?_
  refine xg_v_low C hB hk2 tw_90 dX2_spanProduct_26 ?_
  refine lv_lmul C.hx C.hb dX2_spanProduct_29 ?_
  refine lv_lstore (lv' := [(7, .long ((J 1 k1) * (J 0 k2))), (5, .long ((J 0 k1) * (J 1 k2))), (3, .long ((J 0 k1) * (J 0 k2))), (0, .ref (ad (12 + k0))), (1, .ref (ad (12 + k1))), (2, .ref (ad (12 + k2)))]) C.hx C.hb dX2_spanProduct_30 hl (by decide) rfl (fun ls hl => ?_)
  refine lv_aload_n C.hx C.hb dX2_spanProduct_32 rfl (lv_at hl 4 rfl) ?_
  refine xg_v_high C hB hk1 tw_93 dX2_spanProduct_33 ?_
  refine lv_aload_n C.hx C.hb dX2_spanProduct_36 rfl (lv_at hl 5 rfl) ?_
  refine xg_v_high C hB hk2 tw_93 dX2_spanProduct_37 ?_
  refine lv_lmul C.hx C.hb dX2_spanProduct_40 ?_
  refine lv_lstore (lv' := [(9, .long ((J 1 k1) * (J 1 k2))), (7, .long ((J 1 k1) * (J 0 k2))), (5, .long ((J 0 k1) * (J 1 k2))), (3, .long ((J 0 k1) * (J 0 k2))), (0, .ref (ad (12 + k0))), (1, .ref (ad (12 + k1))), (2, .ref (ad (12 + k2)))]) C.hx C.hb dX2_spanProduct_41 hl (by decide) rfl (fun ls hl => ?_)
  refine lv_aload_n C.hx C.hb dX2_spanProduct_43 rfl (lv_at hl 4 rfl) ?_
  refine lv_lload_n C.hx C.hb dX2_spanProduct_44 rfl (lv_at hl 3 rfl) ?_
  refine lv_lload C.hx C.hb dX2_spanProduct_45 (lv_at hl 2 rfl) ?_
  refine va_mmin_long C.hx C.hb (C.hml.trans hl.1.symm) C.hown (C.hts _ tw_257) (C.hts _ tw_258) (C.hts _ tw_39) (C.hts _ tw_259) (Nat.le_of_ble_eq_true rfl) (Nat.le_of_ble_eq_true rfl) (Nat.zero_le _) (Nat.zero_le _) dX2_spanProduct_47 ?_
  refine lv_lload C.hx C.hb dX2_spanProduct_50 (lv_at hl 1 rfl) ?_
  refine lv_lload C.hx C.hb dX2_spanProduct_52 (lv_at hl 0 rfl) ?_
  refine va_mmin_long C.hx C.hb (C.hml.trans hl.1.symm) C.hown (C.hts _ tw_257) (C.hts _ tw_258) (C.hts _ tw_39) (C.hts _ tw_259) (Nat.le_of_ble_eq_true rfl) (Nat.le_of_ble_eq_true rfl) (Nat.zero_le _) (Nat.zero_le _) dX2_spanProduct_54 ?_
  refine va_mmin_long C.hx C.hb (C.hml.trans hl.1.symm) C.hown (C.hts _ tw_257) (C.hts _ tw_258) (C.hts _ tw_39) (C.hts _ tw_259) (Nat.le_of_ble_eq_true rfl) (Nat.le_of_ble_eq_true rfl) (Nat.zero_le _) (Nat.zero_le _) dX2_spanProduct_57 ?_
  refine lv_bipush (v := (16 : Int32)) C.hx C.hb dX2_spanProduct_60 (by decide) ?_
  refine lv_lshr C.hx C.hb dX2_spanProduct_62 rfl ?_
  refine xp_v_low C hB hk0 tw_90 dX2_spanProduct_63 (fun H locs hB => ?_)
  refine lv_aload_n C.hx C.hb dX2_spanProduct_66 rfl (lv_at hl 4 rfl) ?_
  refine lv_lload_n C.hx C.hb dX2_spanProduct_67 rfl (lv_at hl 3 rfl) ?_
  refine lv_lload C.hx C.hb dX2_spanProduct_68 (lv_at hl 2 rfl) ?_
  refine va_mmax_long C.hx C.hb (C.hml.trans hl.1.symm) C.hown (C.hts _ tw_223) (C.hts _ tw_224) (C.hts _ tw_39) (C.hts _ tw_225) (Nat.le_of_ble_eq_true rfl) (Nat.le_of_ble_eq_true rfl) (Nat.zero_le _) (Nat.zero_le _) dX2_spanProduct_70 ?_
  refine lv_lload C.hx C.hb dX2_spanProduct_73 (lv_at hl 1 rfl) ?_
  refine lv_lload C.hx C.hb dX2_spanProduct_75 (lv_at hl 0 rfl) ?_
  refine va_mmax_long C.hx C.hb (C.hml.trans hl.1.symm) C.hown (C.hts _ tw_223) (C.hts _ tw_224) (C.hts _ tw_39) (C.hts _ tw_225) (Nat.le_of_ble_eq_true rfl) (Nat.le_of_ble_eq_true rfl) (Nat.zero_le _) (Nat.zero_le _) dX2_spanProduct_77 ?_
  refine va_mmax_long C.hx C.hb (C.hml.trans hl.1.symm) C.hown (C.hts _ tw_223) (C.hts _ tw_224) (C.hts _ tw_39) (C.hts _ tw_225) (Nat.le_of_ble_eq_true rfl) (Nat.le_of_ble_eq_true rfl) (Nat.zero_le _) (Nat.zero_le _) dX2_spanProduct_80 ?_
  refine lv_bipush (v := (16 : Int32)) C.hx C.hb dX2_spanProduct_83 (by decide) ?_
  refine lv_lshr C.hx C.hb dX2_spanProduct_85 rfl ?_
  refine xp_v_high C hB hk0 tw_93 dX2_spanProduct_86 (fun H locs hB => ?_)
  exact g_vret C hB h dX2_spanProduct_89
set_option maxHeartbeats 4000000 in
set_option maxRecDepth 100000 in
theorem cnX2_spanProduct (l : Launch) (D : va_G) (cI cJ cV : ClassId) (ad : Nat → Nat) (sz : Nat) {k0 : Nat} {k1 : Nat} {k2 : Nat} {I : TI} {J : TJ} {z : Unit × SS} (hk0 : k0 < 16) (hk1 : k1 < 16) (hk2 : k2 < 16) (h : fX2_spanProduct k0 k1 k2 I J = some z) : Met l yX2_spanProduct (wsm yX2_spanProduct cX2_spanProduct 11 none) (rmd 1) (va_Pc [.ref (ad (12 + k0)), .ref (ad (12 + k1)), .ref (ad (12 + k2))] (gPre D (xw cI cJ cV ad) (xt cI cJ cV) sz I J)) (gQv D (xw cI cJ cV ad) (xt cI cJ cV) (xL ad) sz z) 0 0 (gA (xL ad) sz) :=
  g_met (by decide) xw_WL (fun p e s m below meth c hsz C hB ls hl => by subst hsz; exact tX2_spanProduct C hB hk0 hk1 hk2 hl h) (Nat.le_of_ble_eq_true rfl)
theorem hdX2_spanAmount : yX2_spanAmount.cls = "BitTuner$Value" ∧ yX2_spanAmount.cls ≠ "java/lang/invoke/MethodHandle" ∧ yX2_spanAmount.cls ≠ "java/lang/invoke/VarHandle" ∧ (parseMethodDescriptor yX2_spanAmount.desc).map (fun d => d.parameters.length) = some 1 := by decide +kernel
def fX2_spanAmount_23  (k0 : Nat) (k1 : Nat) (w0 : Int32) (I : TI) (J : TJ) : Option (Unit × SS) :=
  if w0 = 0 then
  some ((), I, (uJ (uJ J 0 k0 (if (if 0 < (J 1 k1) then (J 1 k1) else -(J 1 k1)) < (if 0 < (J 0 k1) then (J 0 k1) else -(J 0 k1)) then (if 0 < (J 1 k1) then (J 1 k1) else -(J 1 k1)) else (if 0 < (J 0 k1) then (J 0 k1) else -(J 0 k1)))) 1 k0 (J 2 k1)))
  else
  some ((), I, (uJ (uJ J 0 k0 (0 : Int64)) 1 k0 (J 2 k1)))
set_option maxHeartbeats 4000000 in
set_option maxRecDepth 100000 in
theorem tX2_spanAmount_23 {p : Program} {l : Launch} {e : Env} {s : State} {m : MethodId} {args : Array Value} {below : List Frame} {meth : Method} {c : Code} (C : KX p s m args meth c "BitTuner$Value" cX2_spanAmount 3 none) {D : va_G} {cI cJ cV : ClassId} {ad : Nat → Nat} {z : Unit × SS}   {H : Heap} {locs : List Loc} {ls : Array Slot} {I : TI} {J : TJ} {k0 : Nat} {k1 : Nat} {w0 : Int32} (hB : XB D cI cJ cV ad s H locs I J) (hk0 : k0 < 16) (hk1 : k1 < 16) (hl : lv_has ls 3 [(0, .ref (ad (12 + k0))), (1, .ref (ad (12 + k1)))]) (h : fX2_spanAmount_23 k0 k1 w0 I J = some z) : W p l e (rmd 1) s m args below meth c H locs 0 0 (MQ below (gQv D (xw cI cJ cV ad) (xt cI cJ cV) (xL ad) s.heap.size z) args s 0 0 (gA (xL ad) s.heap.size)) (F0 m 23 ls [.int w0]) := by
  unfold fX2_spanAmount_23 at h
  refine lv_istore_n (lv' := [(2, .int w0), (0, .ref (ad (12 + k0))), (1, .ref (ad (12 + k1)))]) C.hx C.hb dX2_spanAmount_23 rfl hl (by decide) rfl (fun ls hl => ?_)
  refine lv_aload_n C.hx C.hb dX2_spanAmount_24 rfl (lv_at hl 1 rfl) ?_
  refine lv_iload_n C.hx C.hb dX2_spanAmount_25 rfl (lv_at hl 0 rfl) ?_
  refine lv_if_eq (tgt := 33) C.hx C.hb dX2_spanAmount_26 (by decide) (fun c_2 => ?_) (fun c_2 => ?_)
  · replace h := (if_pos c_2).symm.trans h
    refine lv_aload_n C.hx C.hb dX2_spanAmount_33 rfl (lv_at hl 2 rfl) ?_
    refine xg_v_low C hB hk1 tw_90 dX2_spanAmount_34 ?_
    refine va_mabs_long C.hx C.hb (C.hml.trans hl.1.symm) C.hown (C.hts _ tw_220) (C.hts _ tw_221) (C.hts _ tw_39) (C.hts _ tw_222) (Nat.le_of_ble_eq_true rfl) (Nat.le_of_ble_eq_true rfl) (Nat.zero_le _) (Nat.zero_le _) dX2_spanAmount_37 ?_
    refine lv_aload_n C.hx C.hb dX2_spanAmount_40 rfl (lv_at hl 2 rfl) ?_
    refine xg_v_high C hB hk1 tw_93 dX2_spanAmount_41 ?_
    refine va_mabs_long C.hx C.hb (C.hml.trans hl.1.symm) C.hown (C.hts _ tw_220) (C.hts _ tw_221) (C.hts _ tw_39) (C.hts _ tw_222) (Nat.le_of_ble_eq_true rfl) (Nat.le_of_ble_eq_true rfl) (Nat.zero_le _) (Nat.zero_le _) dX2_spanAmount_44 ?_
    refine va_mmin_long C.hx C.hb (C.hml.trans hl.1.symm) C.hown (C.hts _ tw_257) (C.hts _ tw_258) (C.hts _ tw_39) (C.hts _ tw_259) (Nat.le_of_ble_eq_true rfl) (Nat.le_of_ble_eq_true rfl) (Nat.zero_le _) (Nat.zero_le _) dX2_spanAmount_47 ?_
    refine xp_v_low C hB hk0 tw_90 dX2_spanAmount_50 (fun H locs hB => ?_)
    refine lv_aload_n C.hx C.hb dX2_spanAmount_53 rfl (lv_at hl 1 rfl) ?_
    refine lv_aload_n C.hx C.hb dX2_spanAmount_54 rfl (lv_at hl 2 rfl) ?_
    refine xg_v_reach C hB hk1 tw_96 dX2_spanAmount_55 ?_
    refine xp_v_high C hB hk0 tw_93 dX2_spanAmount_58 (fun H locs hB => ?_)
    exact g_vret C hB h dX2_spanAmount_61
  · replace h := (if_neg c_2).symm.trans h
    refine lv_lconst (v := (0 : Int64)) C.hx C.hb dX2_spanAmount_29 (by decide) ?_
    refine lv_goto (tgt := 50) C.hx C.hb dX2_spanAmount_30 (by decide) ?_
    refine xp_v_low C hB hk0 tw_90 dX2_spanAmount_50 (fun H locs hB => ?_)
    refine lv_aload_n C.hx C.hb dX2_spanAmount_53 rfl (lv_at hl 1 rfl) ?_
    refine lv_aload_n C.hx C.hb dX2_spanAmount_54 rfl (lv_at hl 2 rfl) ?_
    refine xg_v_reach C hB hk1 tw_96 dX2_spanAmount_55 ?_
    refine xp_v_high C hB hk0 tw_93 dX2_spanAmount_58 (fun H locs hB => ?_)
    exact g_vret C hB h dX2_spanAmount_61
def fX2_spanAmount_22  (k0 : Nat) (k1 : Nat) (I : TI) (J : TJ) : Option (Unit × SS) :=
  fX2_spanAmount_23 k0 k1 (0 : Int32) I J
set_option maxHeartbeats 4000000 in
set_option maxRecDepth 100000 in
theorem tX2_spanAmount_22 {p : Program} {l : Launch} {e : Env} {s : State} {m : MethodId} {args : Array Value} {below : List Frame} {meth : Method} {c : Code} (C : KX p s m args meth c "BitTuner$Value" cX2_spanAmount 3 none) {D : va_G} {cI cJ cV : ClassId} {ad : Nat → Nat} {z : Unit × SS}   {H : Heap} {locs : List Loc} {ls : Array Slot} {I : TI} {J : TJ} {k0 : Nat} {k1 : Nat} (hB : XB D cI cJ cV ad s H locs I J) (hk0 : k0 < 16) (hk1 : k1 < 16) (hl : lv_has ls 3 [(0, .ref (ad (12 + k0))), (1, .ref (ad (12 + k1)))]) (h : fX2_spanAmount_22 k0 k1 I J = some z) : W p l e (rmd 1) s m args below meth c H locs 0 0 (MQ below (gQv D (xw cI cJ cV ad) (xt cI cJ cV) (xL ad) s.heap.size z) args s 0 0 (gA (xL ad) s.heap.size)) (F0 m 22 ls []) := by
  unfold fX2_spanAmount_22 at h
  refine lv_iconst (v := (0 : Int32)) C.hx C.hb dX2_spanAmount_22 (by decide) ?_
  exact tX2_spanAmount_23 C  hB hk0 hk1 (lv_sub hl [0, 1] rfl) h
def fX2_spanAmount  (k0 : Nat) (k1 : Nat) (I : TI) (J : TJ) : Option (Unit × SS) :=
  if (0 : Int64) < (J 0 k1) then
  fX2_spanAmount_22 k0 k1 I J
  else
  if (J 1 k1) < (0 : Int64) then
  fX2_spanAmount_22 k0 k1 I J
  else
  fX2_spanAmount_23 k0 k1 (1 : Int32) I J
set_option maxHeartbeats 4000000 in
set_option maxRecDepth 100000 in
theorem tX2_spanAmount {p : Program} {l : Launch} {e : Env} {s : State} {m : MethodId} {args : Array Value} {below : List Frame} {meth : Method} {c : Code} (C : KX p s m args meth c "BitTuner$Value" cX2_spanAmount 3 none) {D : va_G} {cI cJ cV : ClassId} {ad : Nat → Nat} {z : Unit × SS}   {H : Heap} {locs : List Loc} {ls : Array Slot} {I : TI} {J : TJ} {k0 : Nat} {k1 : Nat} (hB : XB D cI cJ cV ad s H locs I J) (hk0 : k0 < 16) (hk1 : k1 < 16) (hl : lv_has ls 3 [(0, .ref (ad (12 + k0))), (1, .ref (ad (12 + k1)))]) (h : fX2_spanAmount k0 k1 I J = some z) : W p l e (rmd 1) s m args below meth c H locs 0 0 (MQ below (gQv D (xw cI cJ cV ad) (xt cI cJ cV) (xL ad) s.heap.size z) args s 0 0 (gA (xL ad) s.heap.size)) (F0 m 0 ls []) := by
  unfold fX2_spanAmount at h
  refine lv_aload_n C.hx C.hb dX2_spanAmount_0 rfl (lv_at hl 1 rfl) ?_
  refine xg_v_low C hB hk1 tw_90 dX2_spanAmount_1 ?_
  refine lv_lconst (v := (0 : Int64)) C.hx C.hb dX2_spanAmount_4 (by decide) ?_
  refine g_lcmp_gt C (tgt := 22) dX2_spanAmount_5 dX2_spanAmount_6 (by decide) (fun c_1 => ?_) (fun c_1 => ?_)
  · replace h := (if_pos c_1).symm.trans h
    exact tX2_spanAmount_22 C  hB hk0 hk1 (lv_sub hl [0, 1] rfl) h
  · replace h := (if_neg c_1).symm.trans h
    refine lv_aload_n C.hx C.hb dX2_spanAmount_9 rfl (lv_at hl 1 rfl) ?_
    refine xg_v_high C hB hk1 tw_93 dX2_spanAmount_10 ?_
    refine lv_lconst (v := (0 : Int64)) C.hx C.hb dX2_spanAmount_13 (by decide) ?_
    refine g_lcmp_lt C (tgt := 22) dX2_spanAmount_14 dX2_spanAmount_15 (by decide) (fun c_3 => ?_) (fun c_3 => ?_)
    · replace h := (if_pos c_3).symm.trans h
      exact tX2_spanAmount_22 C  hB hk0 hk1 (lv_sub hl [0, 1] rfl) h
    · replace h := (if_neg c_3).symm.trans h
      refine lv_iconst (v := (1 : Int32)) C.hx C.hb dX2_spanAmount_18 (by decide) ?_
      refine lv_goto (tgt := 23) C.hx C.hb dX2_spanAmount_19 (by decide) ?_
      exact tX2_spanAmount_23 C  hB hk0 hk1 (lv_sub hl [0, 1] rfl) h
set_option maxHeartbeats 4000000 in
set_option maxRecDepth 100000 in
theorem cnX2_spanAmount (l : Launch) (D : va_G) (cI cJ cV : ClassId) (ad : Nat → Nat) (sz : Nat) {k0 : Nat} {k1 : Nat} {I : TI} {J : TJ} {z : Unit × SS} (hk0 : k0 < 16) (hk1 : k1 < 16) (h : fX2_spanAmount k0 k1 I J = some z) : Met l yX2_spanAmount (wsm yX2_spanAmount cX2_spanAmount 3 none) (rmd 1) (va_Pc [.ref (ad (12 + k0)), .ref (ad (12 + k1))] (gPre D (xw cI cJ cV ad) (xt cI cJ cV) sz I J)) (gQv D (xw cI cJ cV ad) (xt cI cJ cV) (xL ad) sz z) 0 0 (gA (xL ad) sz) :=
  g_met (by decide) xw_WL (fun p e s m below meth c hsz C hB ls hl => by subst hsz; exact tX2_spanAmount C hB hk0 hk1 hl h) (Nat.le_of_ble_eq_true rfl)
theorem hdX2_spanWorked : yX2_spanWorked.cls = "BitTuner$Value" ∧ yX2_spanWorked.cls ≠ "java/lang/invoke/MethodHandle" ∧ yX2_spanWorked.cls ≠ "java/lang/invoke/VarHandle" ∧ (parseMethodDescriptor yX2_spanWorked.desc).map (fun d => d.parameters.length) = some 2 := by decide +kernel
def fX2_spanWorked_152  (k0 : Nat) (I : TI) (J : TJ) : Option (Unit × SS) :=
  some ((), I, (uJ J 2 k0 (if (if 0 < (J 1 k0) then (J 1 k0) else -(J 1 k0)) < (if 0 < (J 0 k0) then (J 0 k0) else -(J 0 k0)) then (if 0 < (J 0 k0) then (J 0 k0) else -(J 0 k0)) else (if 0 < (J 1 k0) then (J 1 k0) else -(J 1 k0)))))
set_option maxHeartbeats 4000000 in
set_option maxRecDepth 100000 in
theorem tX2_spanWorked_152 {p : Program} {l : Launch} {e : Env} {s : State} {m : MethodId} {args : Array Value} {below : List Frame} {meth : Method} {c : Code} (C : KX p s m args meth c "BitTuner$Value" cX2_spanWorked 3 none) {D : va_G} {cI cJ cV : ClassId} {ad : Nat → Nat} {z : Unit × SS}   {H : Heap} {locs : List Loc} {ls : Array Slot} {I : TI} {J : TJ} {k0 : Nat} (hB : XB D cI cJ cV ad s H locs I J) (hk0 : k0 < 16) (hl : lv_has ls 3 [(0, .ref (ad (12 + k0)))]) (h : fX2_spanWorked_152 k0 I J = some z) : W p l e (rmd 2) s m args below meth c H locs 0 0 (MQ below (gQv D (xw cI cJ cV ad) (xt cI cJ cV) (xL ad) s.heap.size z) args s 0 0 (gA (xL ad) s.heap.size)) (F0 m 152 ls []) := by
  unfold fX2_spanWorked_152 at h
  refine lv_aload_n C.hx C.hb dX2_spanWorked_152 rfl (lv_at hl 0 rfl) ?_
  refine lv_aload_n C.hx C.hb dX2_spanWorked_153 rfl (lv_at hl 0 rfl) ?_
  refine xg_v_low C hB hk0 tw_90 dX2_spanWorked_154 ?_
  refine va_mabs_long C.hx C.hb (C.hml.trans hl.1.symm) C.hown (C.hts _ tw_220) (C.hts _ tw_221) (C.hts _ tw_39) (C.hts _ tw_222) (Nat.le_of_ble_eq_true rfl) (Nat.le_of_ble_eq_true rfl) (Nat.zero_le _) (Nat.zero_le _) dX2_spanWorked_157 ?_
  refine lv_aload_n C.hx C.hb dX2_spanWorked_160 rfl (lv_at hl 0 rfl) ?_
  refine xg_v_high C hB hk0 tw_93 dX2_spanWorked_161 ?_
  refine va_mabs_long C.hx C.hb (C.hml.trans hl.1.symm) C.hown (C.hts _ tw_220) (C.hts _ tw_221) (C.hts _ tw_39) (C.hts _ tw_222) (Nat.le_of_ble_eq_true rfl) (Nat.le_of_ble_eq_true rfl) (Nat.zero_le _) (Nat.zero_le _) dX2_spanWorked_164 ?_
  refine va_mmax_long C.hx C.hb (C.hml.trans hl.1.symm) C.hown (C.hts _ tw_223) (C.hts _ tw_224) (C.hts _ tw_39) (C.hts _ tw_225) (Nat.le_of_ble_eq_true rfl) (Nat.le_of_ble_eq_true rfl) (Nat.zero_le _) (Nat.zero_le _) dX2_spanWorked_167 ?_
  refine xp_v_reach C hB hk0 tw_96 dX2_spanWorked_170 (fun H locs hB => ?_)
  exact g_vret C hB h dX2_spanWorked_173
def fX2_spanWorked_32  (k0 : Nat) (k1 : Nat) (k2 : Nat) (w0 : Int32) (w1 : Nat) (I : TI) (J : TJ) : Option (Unit × SS) :=
  if (I 0 k0) = 3 then
  fX2_spanWorked_152 k0 (uI I 3 w1 w0) (uJ (uJ J 0 k0 ((J 0 k1) - (J 1 k2))) 1 k0 ((J 1 k1) - ((uJ J 0 k0 ((J 0 k1) - (J 1 k2))) 0 k2)))
  else
  if (I 0 k0) = 4 then
  bnd (fX2_spanProduct k0 k1 k2 (uI I 3 w1 w0) J) (fun q_4 I_4 J_4 =>
  fX2_spanWorked_152 k0 I_4 J_4)
  else
  if (I 0 k0) = 5 then
  bnd (fX4_result (I 0 k0) (J 0 k1) (J 0 k2) (uI I 3 w1 w0) J) (fun q_6 I_6 J_6 =>
  bnd (fX4_result (I_6 0 k0) (J_6 1 k1) (J_6 1 k2) I_6 (uJ J_6 0 k0 q_6)) (fun q_7 I_7 J_7 =>
  fX2_spanWorked_152 k0 I_7 (uJ J_7 1 k0 q_7)))
  else
  if (I 0 k0) = 6 then
  bnd (fX2_spanAmount k0 k1 (uI I 3 w1 w0) J) (fun q_9 I_9 J_9 =>
  fX2_spanWorked_152 k0 I_9 J_9)
  else
  bnd (fX4_result (I 0 k0) (J 0 k1) (J 0 k2) (uI I 3 w1 w0) J) (fun q_10 I_10 J_10 =>
  bnd (fX4_result (I_10 0 k0) (J_10 1 k1) (J_10 1 k2) I_10 (uJ J_10 0 k0 q_10)) (fun q_11 I_11 J_11 =>
  fX2_spanWorked_152 k0 I_11 (uJ J_11 1 k0 q_11)))
set_option maxHeartbeats 4000000 in
set_option maxRecDepth 100000 in
theorem tX2_spanWorked_32 {p : Program} {l : Launch} {e : Env} {s : State} {m : MethodId} {args : Array Value} {below : List Frame} {meth : Method} {c : Code} (C : KX p s m args meth c "BitTuner$Value" cX2_spanWorked 3 none) {D : va_G} {cI cJ cV : ClassId} {ad : Nat → Nat} {z : Unit × SS}   {H : Heap} {locs : List Loc} {ls : Array Slot} {I : TI} {J : TJ} {k0 : Nat} {k1 : Nat} {k2 : Nat} {w0 : Int32} {w1 : Nat} (hB : XB D cI cJ cV ad s H locs I J) (hk0 : k0 < 16) (hk1 : k1 < 16) (hk2 : k2 < 16) (hw1 : w1 < 16) (hl : lv_has ls 3 [(0, .ref (ad (12 + k0))), (1, .ref (ad (12 + k1))), (2, .ref (ad (12 + k2)))]) (h : fX2_spanWorked_32 k0 k1 k2 w0 w1 I J = some z) : W p l e (rmd 2) s m args below meth c H locs 0 0 (MQ below (gQv D (xw cI cJ cV ad) (xt cI cJ cV) (xL ad) s.heap.size z) args s 0 0 (gA (xL ad) s.heap.size)) (F0 m 32 ls [.int w0, .ref (ad (12 + w1))]) := by
  unfold fX2_spanWorked_32 at h
  refine xp_v_degree C hB hw1 tw_75 dX2_spanWorked_32 (fun H locs hB => ?_)
  refine lv_aload_n C.hx C.hb dX2_spanWorked_35 rfl (lv_at hl 0 rfl) ?_
  refine xg_v_kind C hB hk0 tw_62 dX2_spanWorked_36 ?_
  by_cases c_2 : (I 0 k0) = 3
  · replace h := (if_pos c_2).symm.trans h
    refine lv_tableIn (x := (I 0 k0)) (tgt := 68) (off := 29) C.hx C.hb dX2_spanWorked_39 (by rw [c_2]; decide) (by rw [c_2]; decide) (by rw [c_2]; rfl) (by decide) ?_
    refine lv_aload_n C.hx C.hb dX2_spanWorked_68 rfl (lv_at hl 0 rfl) ?_
    refine lv_aload_n C.hx C.hb dX2_spanWorked_69 rfl (lv_at hl 1 rfl) ?_
    refine xg_v_low C hB hk1 tw_90 dX2_spanWorked_70 ?_
    refine lv_aload_n C.hx C.hb dX2_spanWorked_73 rfl (lv_at hl 2 rfl) ?_
    refine xg_v_high C hB hk2 tw_93 dX2_spanWorked_74 ?_
    refine lv_lsub C.hx C.hb dX2_spanWorked_77 ?_
    refine xp_v_low C hB hk0 tw_90 dX2_spanWorked_78 (fun H locs hB => ?_)
    refine lv_aload_n C.hx C.hb dX2_spanWorked_81 rfl (lv_at hl 0 rfl) ?_
    refine lv_aload_n C.hx C.hb dX2_spanWorked_82 rfl (lv_at hl 1 rfl) ?_
    refine xg_v_high C hB hk1 tw_93 dX2_spanWorked_83 ?_
    refine lv_aload_n C.hx C.hb dX2_spanWorked_86 rfl (lv_at hl 2 rfl) ?_
    refine xg_v_low C hB hk2 tw_90 dX2_spanWorked_87 ?_
    refine lv_lsub C.hx C.hb dX2_spanWorked_90 ?_
    refine xp_v_high C hB hk0 tw_93 dX2_spanWorked_91 (fun H locs hB => ?_)
    refine lv_goto (tgt := 152) C.hx C.hb dX2_spanWorked_94 (by decide) ?_
    exact tX2_spanWorked_152 C  hB hk0 (lv_sub hl [0] rfl) h
  · replace h := (if_neg c_2).symm.trans h
    by_cases c_3 : (I 0 k0) = 4
    · replace h := (if_pos c_3).symm.trans h
      refine lv_tableIn (x := (I 0 k0)) (tgt := 97) (off := 58) C.hx C.hb dX2_spanWorked_39 (by rw [c_3]; decide) (by rw [c_3]; decide) (by rw [c_3]; rfl) (by decide) ?_
      refine lv_aload_n C.hx C.hb dX2_spanWorked_97 rfl (lv_at hl 0 rfl) ?_
      refine lv_aload_n C.hx C.hb dX2_spanWorked_98 rfl (lv_at hl 1 rfl) ?_
      refine lv_aload_n C.hx C.hb dX2_spanWorked_99 rfl (lv_at hl 2 rfl) ?_
      obtain ⟨q_4, I_4, J_4, hc_4, h⟩ := bnd_some h
      refine g_gov hB (g_runV C hB [.ref (ad (12 + k1)), .ref (ad (12 + k2))] [] (cnX2_spanProduct l D cI cJ cV ad H.size hk0 hk1 hk2  hc_4) (12 + k0) (xw_val hk0) rfl tw_253 tw_255 tw_0 tw_35 tw_256 ⟨rfl, rfl⟩ hdX2_spanProduct ⟨Nat.le_of_ble_eq_true rfl, Nat.le_of_ble_eq_true rfl⟩ hl.1 rfl (Nat.le_of_ble_eq_true rfl) dX2_spanWorked_100) (fun H locs hB => ?_)
      refine lv_goto (tgt := 152) C.hx C.hb dX2_spanWorked_103 (by decide) ?_
      exact tX2_spanWorked_152 C  hB hk0 (lv_sub hl [0] rfl) h
    · replace h := (if_neg c_3).symm.trans h
      by_cases c_5 : (I 0 k0) = 5
      · replace h := (if_pos c_5).symm.trans h
        refine lv_tableIn (x := (I 0 k0)) (tgt := 114) (off := 75) C.hx C.hb dX2_spanWorked_39 (by rw [c_5]; decide) (by rw [c_5]; decide) (by rw [c_5]; rfl) (by decide) ?_
        refine lv_aload_n C.hx C.hb dX2_spanWorked_114 rfl (lv_at hl 0 rfl) ?_
        refine lv_aload_n C.hx C.hb dX2_spanWorked_115 rfl (lv_at hl 0 rfl) ?_
        refine xg_v_kind C hB hk0 tw_62 dX2_spanWorked_116 ?_
        refine lv_aload_n C.hx C.hb dX2_spanWorked_119 rfl (lv_at hl 1 rfl) ?_
        refine xg_v_low C hB hk1 tw_90 dX2_spanWorked_120 ?_
        refine lv_aload_n C.hx C.hb dX2_spanWorked_123 rfl (lv_at hl 2 rfl) ?_
        refine xg_v_low C hB hk2 tw_90 dX2_spanWorked_124 ?_
        obtain ⟨q_6, I_6, J_6, hc_6, h⟩ := bnd_some h
        refine g_gol hB (g_runSN C hB [.int (I 0 k0), .long (J 0 k1), .long (J 0 k2)] [.ref (ad (12 + k0))] (host := "BitTuner") (cnX4_result l D cI cJ cV ad H.size  hc_6) hB.N.2.1 tw_265 tw_33 tw_266 ⟨rfl, rfl⟩ hdX4_result.2 ⟨Nat.le_of_ble_eq_true rfl, Nat.le_of_ble_eq_true rfl⟩ hl.1 rfl (Nat.le_of_ble_eq_true rfl) dX2_spanWorked_127) (fun H locs hB => ?_)
        refine xp_v_low C hB hk0 tw_90 dX2_spanWorked_130 (fun H locs hB => ?_)
        refine lv_aload_n C.hx C.hb dX2_spanWorked_133 rfl (lv_at hl 0 rfl) ?_
        refine lv_aload_n C.hx C.hb dX2_spanWorked_134 rfl (lv_at hl 0 rfl) ?_
        refine xg_v_kind C hB hk0 tw_62 dX2_spanWorked_135 ?_
        refine lv_aload_n C.hx C.hb dX2_spanWorked_138 rfl (lv_at hl 1 rfl) ?_
        refine xg_v_high C hB hk1 tw_93 dX2_spanWorked_139 ?_
        refine lv_aload_n C.hx C.hb dX2_spanWorked_142 rfl (lv_at hl 2 rfl) ?_
        refine xg_v_high C hB hk2 tw_93 dX2_spanWorked_143 ?_
        obtain ⟨q_7, I_7, J_7, hc_7, h⟩ := bnd_some h
        refine g_gol hB (g_runSN C hB [.int (I_6 0 k0), .long (J_6 1 k1), .long (J_6 1 k2)] [.ref (ad (12 + k0))] (host := "BitTuner") (cnX4_result l D cI cJ cV ad H.size  hc_7) hB.N.2.1 tw_265 tw_33 tw_266 ⟨rfl, rfl⟩ hdX4_result.2 ⟨Nat.le_of_ble_eq_true rfl, Nat.le_of_ble_eq_true rfl⟩ hl.1 rfl (Nat.le_of_ble_eq_true rfl) dX2_spanWorked_146) (fun H locs hB => ?_)
        refine xp_v_high C hB hk0 tw_93 dX2_spanWorked_149 (fun H locs hB => ?_)
        exact tX2_spanWorked_152 C  hB hk0 (lv_sub hl [0] rfl) h
      · replace h := (if_neg c_5).symm.trans h
        by_cases c_8 : (I 0 k0) = 6
        · replace h := (if_pos c_8).symm.trans h
          refine lv_tableIn (x := (I 0 k0)) (tgt := 106) (off := 67) C.hx C.hb dX2_spanWorked_39 (by rw [c_8]; decide) (by rw [c_8]; decide) (by rw [c_8]; rfl) (by decide) ?_
          refine lv_aload_n C.hx C.hb dX2_spanWorked_106 rfl (lv_at hl 0 rfl) ?_
          refine lv_aload_n C.hx C.hb dX2_spanWorked_107 rfl (lv_at hl 1 rfl) ?_
          obtain ⟨q_9, I_9, J_9, hc_9, h⟩ := bnd_some h
          refine g_gov hB (g_runV C hB [.ref (ad (12 + k1))] [] (cnX2_spanAmount l D cI cJ cV ad H.size hk0 hk1  hc_9) (12 + k0) (xw_val hk0) rfl tw_260 tw_262 tw_1 tw_35 tw_263 ⟨rfl, rfl⟩ hdX2_spanAmount ⟨Nat.le_of_ble_eq_true rfl, Nat.le_of_ble_eq_true rfl⟩ hl.1 rfl (Nat.le_of_ble_eq_true rfl) dX2_spanWorked_108) (fun H locs hB => ?_)
          refine lv_goto (tgt := 152) C.hx C.hb dX2_spanWorked_111 (by decide) ?_
          exact tX2_spanWorked_152 C  hB hk0 (lv_sub hl [0] rfl) h
        · replace h := (if_neg c_8).symm.trans h
          refine lv_tableOut (x := (I 0 k0)) (tgt := 114) C.hx C.hb dX2_spanWorked_39 (by have z0 := ts_ne (k := 3) (3 : Int32) rfl c_2; have z1 := ts_ne (k := 4) (4 : Int32) rfl c_3; have z2 := ts_ne (k := 5) (5 : Int32) rfl c_5; have z3 := ts_ne (k := 6) (6 : Int32) rfl c_8; omega) (by decide) ?_
          refine lv_aload_n C.hx C.hb dX2_spanWorked_114 rfl (lv_at hl 0 rfl) ?_
          refine lv_aload_n C.hx C.hb dX2_spanWorked_115 rfl (lv_at hl 0 rfl) ?_
          refine xg_v_kind C hB hk0 tw_62 dX2_spanWorked_116 ?_
          refine lv_aload_n C.hx C.hb dX2_spanWorked_119 rfl (lv_at hl 1 rfl) ?_
          refine xg_v_low C hB hk1 tw_90 dX2_spanWorked_120 ?_
          refine lv_aload_n C.hx C.hb dX2_spanWorked_123 rfl (lv_at hl 2 rfl) ?_
          refine xg_v_low C hB hk2 tw_90 dX2_spanWorked_124 ?_
          obtain ⟨q_10, I_10, J_10, hc_10, h⟩ := bnd_some h
          refine g_gol hB (g_runSN C hB [.int (I 0 k0), .long (J 0 k1), .long (J 0 k2)] [.ref (ad (12 + k0))] (host := "BitTuner") (cnX4_result l D cI cJ cV ad H.size  hc_10) hB.N.2.1 tw_265 tw_33 tw_266 ⟨rfl, rfl⟩ hdX4_result.2 ⟨Nat.le_of_ble_eq_true rfl, Nat.le_of_ble_eq_true rfl⟩ hl.1 rfl (Nat.le_of_ble_eq_true rfl) dX2_spanWorked_127) (fun H locs hB => ?_)
          refine xp_v_low C hB hk0 tw_90 dX2_spanWorked_130 (fun H locs hB => ?_)
          refine lv_aload_n C.hx C.hb dX2_spanWorked_133 rfl (lv_at hl 0 rfl) ?_
          refine lv_aload_n C.hx C.hb dX2_spanWorked_134 rfl (lv_at hl 0 rfl) ?_
          refine xg_v_kind C hB hk0 tw_62 dX2_spanWorked_135 ?_
          refine lv_aload_n C.hx C.hb dX2_spanWorked_138 rfl (lv_at hl 1 rfl) ?_
          refine xg_v_high C hB hk1 tw_93 dX2_spanWorked_139 ?_
          refine lv_aload_n C.hx C.hb dX2_spanWorked_142 rfl (lv_at hl 2 rfl) ?_
          refine xg_v_high C hB hk2 tw_93 dX2_spanWorked_143 ?_
          obtain ⟨q_11, I_11, J_11, hc_11, h⟩ := bnd_some h
          refine g_gol hB (g_runSN C hB [.int (I_10 0 k0), .long (J_10 1 k1), .long (J_10 1 k2)] [.ref (ad (12 + k0))] (host := "BitTuner") (cnX4_result l D cI cJ cV ad H.size  hc_11) hB.N.2.1 tw_265 tw_33 tw_266 ⟨rfl, rfl⟩ hdX4_result.2 ⟨Nat.le_of_ble_eq_true rfl, Nat.le_of_ble_eq_true rfl⟩ hl.1 rfl (Nat.le_of_ble_eq_true rfl) dX2_spanWorked_146) (fun H locs hB => ?_)
          refine xp_v_high C hB hk0 tw_93 dX2_spanWorked_149 (fun H locs hB => ?_)
          exact tX2_spanWorked_152 C  hB hk0 (lv_sub hl [0] rfl) h
def fX2_spanWorked  (k0 : Nat) (k1 : Nat) (k2 : Nat) (I : TI) (J : TJ) : Option (Unit × SS) :=
  if (I 0 k0) = (4 : Int32) then
  fX2_spanWorked_32 k0 k1 k2 ((I 3 k1) + (I 3 k2)) k0 I J
  else
  fX2_spanWorked_32 k0 k1 k2 (if (I 3 k1) < (I 3 k2) then (I 3 k2) else (I 3 k1)) k0 I J
set_option maxHeartbeats 4000000 in
set_option maxRecDepth 100000 in
theorem tX2_spanWorked {p : Program} {l : Launch} {e : Env} {s : State} {m : MethodId} {args : Array Value} {below : List Frame} {meth : Method} {c : Code} (C : KX p s m args meth c "BitTuner$Value" cX2_spanWorked 3 none) {D : va_G} {cI cJ cV : ClassId} {ad : Nat → Nat} {z : Unit × SS}   {H : Heap} {locs : List Loc} {ls : Array Slot} {I : TI} {J : TJ} {k0 : Nat} {k1 : Nat} {k2 : Nat} (hB : XB D cI cJ cV ad s H locs I J) (hk0 : k0 < 16) (hk1 : k1 < 16) (hk2 : k2 < 16) (hl : lv_has ls 3 [(0, .ref (ad (12 + k0))), (1, .ref (ad (12 + k1))), (2, .ref (ad (12 + k2)))]) (h : fX2_spanWorked k0 k1 k2 I J = some z) : W p l e (rmd 2) s m args below meth c H locs 0 0 (MQ below (gQv D (xw cI cJ cV ad) (xt cI cJ cV) (xL ad) s.heap.size z) args s 0 0 (gA (xL ad) s.heap.size)) (F0 m 0 ls []) := by
  unfold fX2_spanWorked at h
  refine lv_aload_n C.hx C.hb dX2_spanWorked_0 rfl (lv_at hl 0 rfl) ?_
  refine lv_aload_n C.hx C.hb dX2_spanWorked_1 rfl (lv_at hl 0 rfl) ?_
  refine xg_v_kind C hB hk0 tw_62 dX2_spanWorked_2 ?_
  refine lv_iconst (v := (4 : Int32)) C.hx C.hb dX2_spanWorked_5 (by decide) ?_
  refine lv_icmp_ne (tgt := 21) C.hx C.hb dX2_spanWorked_6 (by decide) (fun c_1 => ?_) (fun c_1 => ?_)
  · replace h := (if_neg c_1).symm.trans h
    refine lv_aload_n C.hx C.hb dX2_spanWorked_21 rfl (lv_at hl 1 rfl) ?_
    refine xg_v_degree C hB hk1 tw_75 dX2_spanWorked_22 ?_
    refine lv_aload_n C.hx C.hb dX2_spanWorked_25 rfl (lv_at hl 2 rfl) ?_
    refine xg_v_degree C hB hk2 tw_75 dX2_spanWorked_26 ?_
    refine va_mmax C.hx C.hb (C.hml.trans hl.1.symm) C.hown (C.hts _ tw_250) (C.hts _ tw_251) (C.hts _ tw_39) (C.hts _ tw_252) (Nat.le_of_ble_eq_true rfl) (Nat.le_of_ble_eq_true rfl) (Nat.zero_le _) (Nat.zero_le _) dX2_spanWorked_29 ?_
    exact tX2_spanWorked_32 C  hB hk0 hk1 hk2 hk0 (lv_sub hl [0, 1, 2] rfl) h
  · replace h := (if_pos c_1).symm.trans h
    refine lv_aload_n C.hx C.hb dX2_spanWorked_9 rfl (lv_at hl 1 rfl) ?_
    refine xg_v_degree C hB hk1 tw_75 dX2_spanWorked_10 ?_
    refine lv_aload_n C.hx C.hb dX2_spanWorked_13 rfl (lv_at hl 2 rfl) ?_
    refine xg_v_degree C hB hk2 tw_75 dX2_spanWorked_14 ?_
    refine lv_iadd C.hx C.hb dX2_spanWorked_17 ?_
    refine lv_goto (tgt := 32) C.hx C.hb dX2_spanWorked_18 (by decide) ?_
    exact tX2_spanWorked_32 C  hB hk0 hk1 hk2 hk0 (lv_sub hl [0, 1, 2] rfl) h
set_option maxHeartbeats 4000000 in
set_option maxRecDepth 100000 in
theorem cnX2_spanWorked (l : Launch) (D : va_G) (cI cJ cV : ClassId) (ad : Nat → Nat) (sz : Nat) {k0 : Nat} {k1 : Nat} {k2 : Nat} {I : TI} {J : TJ} {z : Unit × SS} (hk0 : k0 < 16) (hk1 : k1 < 16) (hk2 : k2 < 16) (h : fX2_spanWorked k0 k1 k2 I J = some z) : Met l yX2_spanWorked (wsm yX2_spanWorked cX2_spanWorked 3 none) (rmd 2) (va_Pc [.ref (ad (12 + k0)), .ref (ad (12 + k1)), .ref (ad (12 + k2))] (gPre D (xw cI cJ cV ad) (xt cI cJ cV) sz I J)) (gQv D (xw cI cJ cV ad) (xt cI cJ cV) (xL ad) sz z) 0 0 (gA (xL ad) sz) :=
  g_met (by decide) xw_WL (fun p e s m below meth c hsz C hB ls hl => by subst hsz; exact tX2_spanWorked C hB hk0 hk1 hk2 hl h) (Nat.le_of_ble_eq_true rfl)
theorem hdX2_isWithinLimits : yX2_isWithinLimits.cls = "BitTuner$Value" ∧ yX2_isWithinLimits.cls ≠ "java/lang/invoke/MethodHandle" ∧ yX2_isWithinLimits.cls ≠ "java/lang/invoke/VarHandle" ∧ (parseMethodDescriptor yX2_isWithinLimits.desc).map (fun d => d.parameters.length) = some 0 := by decide +kernel
def fX2_isWithinLimits  (k0 : Nat) (I : TI) (J : TJ) : Option (Int32 × SS) :=
  if (4 : Int32) < (I 3 k0) then
  some ((0 : Int32), I, J)
  else
  if (67108864 : Int64) < (J 2 k0) then
  some ((0 : Int32), I, J)
  else
  some ((1 : Int32), I, J)
set_option maxHeartbeats 4000000 in
set_option maxRecDepth 100000 in
theorem tX2_isWithinLimits {p : Program} {l : Launch} {e : Env} {s : State} {m : MethodId} {args : Array Value} {below : List Frame} {meth : Method} {c : Code} (C : KX p s m args meth c "BitTuner$Value" cX2_isWithinLimits 1 (some .boolean)) {D : va_G} {cI cJ cV : ClassId} {ad : Nat → Nat} {z : Int32 × SS}   {H : Heap} {locs : List Loc} {ls : Array Slot} {I : TI} {J : TJ} {k0 : Nat} (hB : XB D cI cJ cV ad s H locs I J) (hk0 : k0 < 16) (hl : lv_has ls 1 [(0, .ref (ad (12 + k0)))]) (h : fX2_isWithinLimits k0 I J = some z) : W p l e (rmd 0) s m args below meth c H locs 0 0 (MQ below (gQi D (xw cI cJ cV ad) (xt cI cJ cV) (xL ad) s.heap.size z) args s 0 0 (gA (xL ad) s.heap.size)) (F0 m 0 ls []) := by
  unfold fX2_isWithinLimits at h
  refine lv_aload_n C.hx C.hb dX2_isWithinLimits_0 rfl (lv_at hl 0 rfl) ?_
  refine xg_v_degree C hB hk0 tw_75 dX2_isWithinLimits_1 ?_
  refine lv_iconst (v := (4 : Int32)) C.hx C.hb dX2_isWithinLimits_4 (by decide) ?_
  refine lv_icmp_gt (tgt := 23) C.hx C.hb dX2_isWithinLimits_5 (by decide) (fun c_1 => ?_) (fun c_1 => ?_)
  · replace h := (if_pos c_1).symm.trans h
    refine lv_iconst (v := (0 : Int32)) C.hx C.hb dX2_isWithinLimits_23 (by decide) ?_
    exact g_zret C hB h (by decide) dX2_isWithinLimits_24
  · replace h := (if_neg c_1).symm.trans h
    refine lv_aload_n C.hx C.hb dX2_isWithinLimits_8 rfl (lv_at hl 0 rfl) ?_
    refine xg_v_reach C hB hk0 tw_96 dX2_isWithinLimits_9 ?_
    refine lv_ldc2 C.hx C.hb C.hown (C.hts _ tw_273) dX2_isWithinLimits_12 ?_
    refine g_lcmp_gt C (tgt := 23) dX2_isWithinLimits_15 dX2_isWithinLimits_16 (by decide) (fun c_2 => ?_) (fun c_2 => ?_)
    · replace h := (if_pos c_2).symm.trans h
      refine lv_iconst (v := (0 : Int32)) C.hx C.hb dX2_isWithinLimits_23 (by decide) ?_
      exact g_zret C hB h (by decide) dX2_isWithinLimits_24
    · replace h := (if_neg c_2).symm.trans h
      refine lv_iconst (v := (1 : Int32)) C.hx C.hb dX2_isWithinLimits_19 (by decide) ?_
      refine lv_goto (tgt := 24) C.hx C.hb dX2_isWithinLimits_20 (by decide) ?_
      exact g_zret C hB h (by decide) dX2_isWithinLimits_24
set_option maxHeartbeats 4000000 in
set_option maxRecDepth 100000 in
theorem cnX2_isWithinLimits (l : Launch) (D : va_G) (cI cJ cV : ClassId) (ad : Nat → Nat) (sz : Nat) {k0 : Nat} {I : TI} {J : TJ} {z : Int32 × SS} (hk0 : k0 < 16) (h : fX2_isWithinLimits k0 I J = some z) : Met l yX2_isWithinLimits (wsm yX2_isWithinLimits cX2_isWithinLimits 1 (some .boolean)) (rmd 0) (va_Pc [.ref (ad (12 + k0))] (gPre D (xw cI cJ cV ad) (xt cI cJ cV) sz I J)) (gQi D (xw cI cJ cV ad) (xt cI cJ cV) (xL ad) sz z) 0 0 (gA (xL ad) sz) :=
  g_met (by decide) xw_WL (fun p e s m below meth c hsz C hB ls hl => by subst hsz; exact tX2_isWithinLimits C hB hk0 hl h) (Nat.le_of_ble_eq_true rfl)
theorem hdX0_has : yX0_has.cls = "BitTuner$Program" ∧ yX0_has.cls ≠ "java/lang/invoke/MethodHandle" ∧ yX0_has.cls ≠ "java/lang/invoke/VarHandle" ∧ (parseMethodDescriptor yX0_has.desc).map (fun d => d.parameters.length) = some 1 := by decide +kernel
def fX0_has  (v1 : Int32) (I : TI) (J : TJ) : Option (Int32 × SS) :=
  if v1 < 0 then
  some ((0 : Int32), I, J)
  else
  if (I 12 0) ≤ v1 then
  some ((0 : Int32), I, J)
  else
  some ((1 : Int32), I, J)
set_option maxHeartbeats 4000000 in
set_option maxRecDepth 100000 in
theorem tX0_has {p : Program} {l : Launch} {e : Env} {s : State} {m : MethodId} {args : Array Value} {below : List Frame} {meth : Method} {c : Code} (C : KX p s m args meth c "BitTuner$Program" cX0_has 2 (some .boolean)) {D : va_G} {cI cJ cV : ClassId} {ad : Nat → Nat} {z : Int32 × SS}   {H : Heap} {locs : List Loc} {ls : Array Slot} {I : TI} {J : TJ} {v1 : Int32} (hB : XB D cI cJ cV ad s H locs I J)  (hl : lv_has ls 2 [(0, .ref (ad 1)), (1, .int v1)]) (h : fX0_has v1 I J = some z) : W p l e (rmd 0) s m args below meth c H locs 0 0 (MQ below (gQi D (xw cI cJ cV ad) (xt cI cJ cV) (xL ad) s.heap.size z) args s 0 0 (gA (xL ad) s.heap.size)) (F0 m 0 ls []) := by
  unfold fX0_has at h
  refine lv_iload_n C.hx C.hb dX0_has_0 rfl (lv_at hl 1 rfl) ?_
  refine lv_if_lt (tgt := 16) C.hx C.hb dX0_has_1 (by decide) (fun c_1 => ?_) (fun c_1 => ?_)
  · replace h := (if_pos c_1).symm.trans h
    refine lv_iconst (v := (0 : Int32)) C.hx C.hb dX0_has_16 (by decide) ?_
    exact g_zret C hB h (by decide) dX0_has_17
  · replace h := (if_neg c_1).symm.trans h
    refine lv_iload_n C.hx C.hb dX0_has_4 rfl (lv_at hl 1 rfl) ?_
    refine lv_aload_n C.hx C.hb dX0_has_5 rfl (lv_at hl 0 rfl) ?_
    refine xg_p_many C hB tw_128 dX0_has_6 ?_
    refine lv_icmp_ge (tgt := 16) C.hx C.hb dX0_has_9 (by decide) (fun c_2 => ?_) (fun c_2 => ?_)
    · replace h := (if_pos c_2).symm.trans h
      refine lv_iconst (v := (0 : Int32)) C.hx C.hb dX0_has_16 (by decide) ?_
      exact g_zret C hB h (by decide) dX0_has_17
    · replace h := (if_neg c_2).symm.trans h
      refine lv_iconst (v := (1 : Int32)) C.hx C.hb dX0_has_12 (by decide) ?_
      refine lv_goto (tgt := 17) C.hx C.hb dX0_has_13 (by decide) ?_
      exact g_zret C hB h (by decide) dX0_has_17
set_option maxHeartbeats 4000000 in
set_option maxRecDepth 100000 in
theorem cnX0_has (l : Launch) (D : va_G) (cI cJ cV : ClassId) (ad : Nat → Nat) (sz : Nat) {v1 : Int32} {I : TI} {J : TJ} {z : Int32 × SS}  (h : fX0_has v1 I J = some z) : Met l yX0_has (wsm yX0_has cX0_has 2 (some .boolean)) (rmd 0) (va_Pc [.ref (ad 1), .int v1] (gPre D (xw cI cJ cV ad) (xt cI cJ cV) sz I J)) (gQi D (xw cI cJ cV ad) (xt cI cJ cV) (xL ad) sz z) 0 0 (gA (xL ad) sz) :=
  g_met (by decide) xw_WL (fun p e s m below meth c hsz C hB ls hl => by subst hsz; exact tX0_has C hB  hl h) (Nat.le_of_ble_eq_true rfl)
theorem hdX0_isInput : yX0_isInput.cls = "BitTuner$Program" ∧ yX0_isInput.cls ≠ "java/lang/invoke/MethodHandle" ∧ yX0_isInput.cls ≠ "java/lang/invoke/VarHandle" ∧ (parseMethodDescriptor yX0_isInput.desc).map (fun d => d.parameters.length) = some 1 := by decide +kernel
def fX0_isInput  (v1 : Int32) (I : TI) (J : TJ) : Option (Int32 × SS) :=
  bnd (fX0_has v1 I J) (fun q_1 I_1 J_1 =>
  if q_1 = 0 then
  some ((0 : Int32), I_1, J_1)
  else
  if okx v1 then
  if (I_1 0 v1.toNatClampNeg) = 0 then
  some ((1 : Int32), I_1, J_1)
  else
  some ((0 : Int32), I_1, J_1)
  else none)
set_option maxHeartbeats 4000000 in
set_option maxRecDepth 100000 in
theorem tX0_isInput {p : Program} {l : Launch} {e : Env} {s : State} {m : MethodId} {args : Array Value} {below : List Frame} {meth : Method} {c : Code} (C : KX p s m args meth c "BitTuner$Program" cX0_isInput 2 (some .boolean)) {D : va_G} {cI cJ cV : ClassId} {ad : Nat → Nat} {z : Int32 × SS}   {H : Heap} {locs : List Loc} {ls : Array Slot} {I : TI} {J : TJ} {v1 : Int32} (hB : XB D cI cJ cV ad s H locs I J)  (hl : lv_has ls 2 [(0, .ref (ad 1)), (1, .int v1)]) (h : fX0_isInput v1 I J = some z) : W p l e (rmd 1) s m args below meth c H locs 0 0 (MQ below (gQi D (xw cI cJ cV ad) (xt cI cJ cV) (xL ad) s.heap.size z) args s 0 0 (gA (xL ad) s.heap.size)) (F0 m 0 ls []) := by
  unfold fX0_isInput at h
  refine lv_aload_n C.hx C.hb dX0_isInput_0 rfl (lv_at hl 0 rfl) ?_
  refine lv_iload_n C.hx C.hb dX0_isInput_1 rfl (lv_at hl 1 rfl) ?_
  obtain ⟨q_1, I_1, J_1, hc_1, h⟩ := bnd_some h
  refine g_goi hB (g_runV C hB [.int v1] [] (cnX0_has l D cI cJ cV ad H.size  hc_1) 1 rfl rfl tw_286 tw_235 tw_236 tw_34 tw_237 ⟨rfl, rfl⟩ hdX0_has ⟨Nat.le_of_ble_eq_true rfl, Nat.le_of_ble_eq_true rfl⟩ hl.1 rfl (Nat.le_of_ble_eq_true rfl) dX0_isInput_2) (fun H locs hB => ?_)
  refine lv_if_eq (tgt := 24) C.hx C.hb dX0_isInput_5 (by decide) (fun c_2 => ?_) (fun c_2 => ?_)
  · replace h := (if_pos c_2).symm.trans h
    refine lv_iconst (v := (0 : Int32)) C.hx C.hb dX0_isInput_24 (by decide) ?_
    exact g_zret C hB h (by decide) dX0_isInput_25
  · replace h := (if_neg c_2).symm.trans h
    refine lv_aload_n C.hx C.hb dX0_isInput_8 rfl (lv_at hl 0 rfl) ?_
    refine xg_p_values C hB tw_124 dX0_isInput_9 ?_
    refine lv_iload_n C.hx C.hb dX0_isInput_12 rfl (lv_at hl 1 rfl) ?_
    obtain ⟨c_3, h⟩ := ite_ck h
    refine xa_values_ld C hB c_3 dX0_isInput_13 ?_
    refine xg_v_kind C hB c_3.2 tw_63 dX0_isInput_14 ?_
    refine lv_if_ne (tgt := 24) C.hx C.hb dX0_isInput_17 (by decide) (fun c_4 => ?_) (fun c_4 => ?_)
    · replace h := (if_neg c_4).symm.trans h
      refine lv_iconst (v := (0 : Int32)) C.hx C.hb dX0_isInput_24 (by decide) ?_
      exact g_zret C hB h (by decide) dX0_isInput_25
    · replace h := (if_pos c_4).symm.trans h
      refine lv_iconst (v := (1 : Int32)) C.hx C.hb dX0_isInput_20 (by decide) ?_
      refine lv_goto (tgt := 25) C.hx C.hb dX0_isInput_21 (by decide) ?_
      exact g_zret C hB h (by decide) dX0_isInput_25
set_option maxHeartbeats 4000000 in
set_option maxRecDepth 100000 in
theorem cnX0_isInput (l : Launch) (D : va_G) (cI cJ cV : ClassId) (ad : Nat → Nat) (sz : Nat) {v1 : Int32} {I : TI} {J : TJ} {z : Int32 × SS}  (h : fX0_isInput v1 I J = some z) : Met l yX0_isInput (wsm yX0_isInput cX0_isInput 2 (some .boolean)) (rmd 1) (va_Pc [.ref (ad 1), .int v1] (gPre D (xw cI cJ cV ad) (xt cI cJ cV) sz I J)) (gQi D (xw cI cJ cV ad) (xt cI cJ cV) (xL ad) sz z) 0 0 (gA (xL ad) sz) :=
  g_met (by decide) xw_WL (fun p e s m below meth c hsz C hB ls hl => by subst hsz; exact tX0_isInput C hB  hl h) (Nat.le_of_ble_eq_true rfl)
theorem hdX0_isWorked : yX0_isWorked.cls = "BitTuner$Program" ∧ yX0_isWorked.cls ≠ "java/lang/invoke/MethodHandle" ∧ yX0_isWorked.cls ≠ "java/lang/invoke/VarHandle" ∧ (parseMethodDescriptor yX0_isWorked.desc).map (fun d => d.parameters.length) = some 1 := by decide +kernel
def fX0_isWorked  (v1 : Int32) (I : TI) (J : TJ) : Option (Int32 × SS) :=
  bnd (fX0_has v1 I J) (fun q_1 I_1 J_1 =>
  if q_1 = 0 then
  some ((0 : Int32), I_1, J_1)
  else
  if okx v1 then
  bnd (fX2_isGiven v1.toNatClampNeg I_1 J_1) (fun q_4 I_4 J_4 =>
  if q_4 = 0 then
  some ((1 : Int32), I_4, J_4)
  else
  some ((0 : Int32), I_4, J_4))
  else none)
set_option maxHeartbeats 4000000 in
set_option maxRecDepth 100000 in
theorem tX0_isWorked {p : Program} {l : Launch} {e : Env} {s : State} {m : MethodId} {args : Array Value} {below : List Frame} {meth : Method} {c : Code} (C : KX p s m args meth c "BitTuner$Program" cX0_isWorked 2 (some .boolean)) {D : va_G} {cI cJ cV : ClassId} {ad : Nat → Nat} {z : Int32 × SS}   {H : Heap} {locs : List Loc} {ls : Array Slot} {I : TI} {J : TJ} {v1 : Int32} (hB : XB D cI cJ cV ad s H locs I J)  (hl : lv_has ls 2 [(0, .ref (ad 1)), (1, .int v1)]) (h : fX0_isWorked v1 I J = some z) : W p l e (rmd 1) s m args below meth c H locs 0 0 (MQ below (gQi D (xw cI cJ cV ad) (xt cI cJ cV) (xL ad) s.heap.size z) args s 0 0 (gA (xL ad) s.heap.size)) (F0 m 0 ls []) := by
  unfold fX0_isWorked at h
  refine lv_aload_n C.hx C.hb dX0_isWorked_0 rfl (lv_at hl 0 rfl) ?_
  refine lv_iload_n C.hx C.hb dX0_isWorked_1 rfl (lv_at hl 1 rfl) ?_
  obtain ⟨q_1, I_1, J_1, hc_1, h⟩ := bnd_some h
  refine g_goi hB (g_runV C hB [.int v1] [] (cnX0_has l D cI cJ cV ad H.size  hc_1) 1 rfl rfl tw_286 tw_235 tw_236 tw_34 tw_237 ⟨rfl, rfl⟩ hdX0_has ⟨Nat.le_of_ble_eq_true rfl, Nat.le_of_ble_eq_true rfl⟩ hl.1 rfl (Nat.le_of_ble_eq_true rfl) dX0_isWorked_2) (fun H locs hB => ?_)
  refine lv_if_eq (tgt := 24) C.hx C.hb dX0_isWorked_5 (by decide) (fun c_2 => ?_) (fun c_2 => ?_)
  · replace h := (if_pos c_2).symm.trans h
    refine lv_iconst (v := (0 : Int32)) C.hx C.hb dX0_isWorked_24 (by decide) ?_
    exact g_zret C hB h (by decide) dX0_isWorked_25
  · replace h := (if_neg c_2).symm.trans h
    refine lv_aload_n C.hx C.hb dX0_isWorked_8 rfl (lv_at hl 0 rfl) ?_
    refine xg_p_values C hB tw_124 dX0_isWorked_9 ?_
    refine lv_iload_n C.hx C.hb dX0_isWorked_12 rfl (lv_at hl 1 rfl) ?_
    obtain ⟨c_3, h⟩ := ite_ck h
    refine xa_values_ld C hB c_3 dX0_isWorked_13 ?_
    obtain ⟨q_4, I_4, J_4, hc_4, h⟩ := bnd_some h
    refine g_goi hB (g_runV C hB [] [] (cnX2_isGiven l D cI cJ cV ad H.size c_3.2  hc_4) (12 + v1.toNatClampNeg) (xw_val c_3.2) rfl tw_287 tw_288 tw_289 tw_35 tw_290 ⟨rfl, rfl⟩ hdX2_isGiven ⟨Nat.le_of_ble_eq_true rfl, Nat.le_of_ble_eq_true rfl⟩ hl.1 rfl (Nat.le_of_ble_eq_true rfl) dX0_isWorked_14) (fun H locs hB => ?_)
    refine lv_if_ne (tgt := 24) C.hx C.hb dX0_isWorked_17 (by decide) (fun c_5 => ?_) (fun c_5 => ?_)
    · replace h := (if_neg c_5).symm.trans h
      refine lv_iconst (v := (0 : Int32)) C.hx C.hb dX0_isWorked_24 (by decide) ?_
      exact g_zret C hB h (by decide) dX0_isWorked_25
    · replace h := (if_pos c_5).symm.trans h
      refine lv_iconst (v := (1 : Int32)) C.hx C.hb dX0_isWorked_20 (by decide) ?_
      refine lv_goto (tgt := 25) C.hx C.hb dX0_isWorked_21 (by decide) ?_
      exact g_zret C hB h (by decide) dX0_isWorked_25
set_option maxHeartbeats 4000000 in
set_option maxRecDepth 100000 in
theorem cnX0_isWorked (l : Launch) (D : va_G) (cI cJ cV : ClassId) (ad : Nat → Nat) (sz : Nat) {v1 : Int32} {I : TI} {J : TJ} {z : Int32 × SS}  (h : fX0_isWorked v1 I J = some z) : Met l yX0_isWorked (wsm yX0_isWorked cX0_isWorked 2 (some .boolean)) (rmd 1) (va_Pc [.ref (ad 1), .int v1] (gPre D (xw cI cJ cV ad) (xt cI cJ cV) sz I J)) (gQi D (xw cI cJ cV ad) (xt cI cJ cV) (xL ad) sz z) 0 0 (gA (xL ad) sz) :=
  g_met (by decide) xw_WL (fun p e s m below meth c hsz C hB ls hl => by subst hsz; exact tX0_isWorked C hB  hl h) (Nat.le_of_ble_eq_true rfl)
theorem hdX0_addGiven : yX0_addGiven.cls = "BitTuner$Program" ∧ yX0_addGiven.cls ≠ "java/lang/invoke/MethodHandle" ∧ yX0_addGiven.cls ≠ "java/lang/invoke/VarHandle" ∧ (parseMethodDescriptor yX0_addGiven.desc).map (fun d => d.parameters.length) = some 3 := by decide +kernel
def fX0_addGiven  (v1 : Int32) (v2 : Int32) (v3 : Int32) (I : TI) (J : TJ) : Option (Int32 × SS) :=
  if (I 12 0) < (16 : Int32) then
  if okx (I 12 0) then
  bnd (fX2_begin ((I 12 0).toNatClampNeg) v1 v2 v3 I J) (fun q_3 I_3 J_3 =>
  bnd (fX2_spanGiven ((I 12 0).toNatClampNeg) I_3 J_3) (fun q_4 I_4 J_4 =>
  some (I_4 12 0, (uI I_4 12 0 ((I_4 12 0) + (1 : Int32))), J_4)))
  else none
  else
  some ((-3 : Int32), I, J)
set_option maxHeartbeats 4000000 in
set_option maxRecDepth 100000 in
theorem tX0_addGiven {p : Program} {l : Launch} {e : Env} {s : State} {m : MethodId} {args : Array Value} {below : List Frame} {meth : Method} {c : Code} (C : KX p s m args meth c "BitTuner$Program" cX0_addGiven 5 (some .int)) {D : va_G} {cI cJ cV : ClassId} {ad : Nat → Nat} {z : Int32 × SS}   {H : Heap} {locs : List Loc} {ls : Array Slot} {I : TI} {J : TJ} {v1 : Int32} {v2 : Int32} {v3 : Int32} (hB : XB D cI cJ cV ad s H locs I J)  (hl : lv_has ls 5 [(0, .ref (ad 1)), (1, .int v1), (2, .int v2), (3, .int v3)]) (h : fX0_addGiven v1 v2 v3 I J = some z) : W p l e (rmd 2) s m args below meth c H locs 0 0 (MQ below (gQi D (xw cI cJ cV ad) (xt cI cJ cV) (xL ad) s.heap.size z) args s 0 0 (gA (xL ad) s.heap.size)) (F0 m 0 ls []) := by
  unfold fX0_addGiven at h
  refine lv_aload_n C.hx C.hb dX0_addGiven_0 rfl (lv_at hl 0 rfl) ?_
  refine xg_p_many C hB tw_128 dX0_addGiven_1 ?_
  refine lv_bipush (v := (16 : Int32)) C.hx C.hb dX0_addGiven_4 (by decide) ?_
  refine lv_icmp_lt (tgt := 12) C.hx C.hb dX0_addGiven_6 (by decide) (fun c_1 => ?_) (fun c_1 => ?_)
  · replace h := (if_pos c_1).symm.trans h
    refine lv_aload_n C.hx C.hb dX0_addGiven_12 rfl (lv_at hl 0 rfl) ?_
    refine xg_p_values C hB tw_124 dX0_addGiven_13 ?_
    refine lv_aload_n C.hx C.hb dX0_addGiven_16 rfl (lv_at hl 0 rfl) ?_
    refine xg_p_many C hB tw_128 dX0_addGiven_17 ?_
    obtain ⟨c_2, h⟩ := ite_ck h
    refine xa_values_ld C hB c_2 dX0_addGiven_20 ?_
    refine lv_astore (lv' := [(4, .ref (ad (12 + (I 12 0).toNatClampNeg))), (0, .ref (ad 1)), (1, .int v1), (2, .int v2), (3, .int v3)]) C.hx C.hb dX0_addGiven_21 hl (by decide) rfl (fun ls hl => ?_)
    refine lv_aload C.hx C.hb dX0_addGiven_23 (lv_at hl 0 rfl) ?_
    refine lv_iload_n C.hx C.hb dX0_addGiven_25 rfl (lv_at hl 2 rfl) ?_
    refine lv_iload_n C.hx C.hb dX0_addGiven_26 rfl (lv_at hl 3 rfl) ?_
    refine lv_iload_n C.hx C.hb dX0_addGiven_27 rfl (lv_at hl 4 rfl) ?_
    obtain ⟨q_3, I_3, J_3, hc_3, h⟩ := bnd_some h
    refine g_gov hB (g_runV C hB [.int v1, .int v2, .int v3] [] (cnX2_begin l D cI cJ cV ad H.size c_2.2  hc_3) (12 + ((I 12 0).toNatClampNeg)) (xw_val c_2.2) rfl tw_212 tw_213 tw_214 tw_35 tw_215 ⟨rfl, rfl⟩ hdX2_begin ⟨Nat.le_of_ble_eq_true rfl, Nat.le_of_ble_eq_true rfl⟩ hl.1 rfl (Nat.le_of_ble_eq_true rfl) dX0_addGiven_28) (fun H locs hB => ?_)
    refine lv_aload C.hx C.hb dX0_addGiven_31 (lv_at hl 0 rfl) ?_
    obtain ⟨q_4, I_4, J_4, hc_4, h⟩ := bnd_some h
    refine g_gov hB (g_runV C hB [] [] (cnX2_spanGiven l D cI cJ cV ad H.size c_2.2  hc_4) (12 + ((I 12 0).toNatClampNeg)) (xw_val c_2.2) rfl tw_216 tw_217 tw_218 tw_35 tw_219 ⟨rfl, rfl⟩ hdX2_spanGiven ⟨Nat.le_of_ble_eq_true rfl, Nat.le_of_ble_eq_true rfl⟩ hl.1 rfl (Nat.le_of_ble_eq_true rfl) dX0_addGiven_33) (fun H locs hB => ?_)
    refine lv_aload_n C.hx C.hb dX0_addGiven_36 rfl (lv_at hl 1 rfl) ?_
    refine lv_dup C.hx C.hb dX0_addGiven_37 rfl ?_
    refine xg_p_many C hB tw_128 dX0_addGiven_38 ?_
    refine lv_dup_x1 C.hx C.hb dX0_addGiven_41 rfl rfl ?_
    refine lv_iconst (v := (1 : Int32)) C.hx C.hb dX0_addGiven_42 (by decide) ?_
    refine lv_iadd C.hx C.hb dX0_addGiven_43 ?_
    refine xp_p_many C hB tw_128 dX0_addGiven_44 (fun H locs hB => ?_)
    exact g_iret C hB h dX0_addGiven_47
  · replace h := (if_neg c_1).symm.trans h
    refine lv_bipush (v := (-3 : Int32)) C.hx C.hb dX0_addGiven_9 (by decide) ?_
    exact g_iret C hB h dX0_addGiven_11
set_option maxHeartbeats 4000000 in
set_option maxRecDepth 100000 in
theorem cnX0_addGiven (l : Launch) (D : va_G) (cI cJ cV : ClassId) (ad : Nat → Nat) (sz : Nat) {v1 : Int32} {v2 : Int32} {v3 : Int32} {I : TI} {J : TJ} {z : Int32 × SS}  (h : fX0_addGiven v1 v2 v3 I J = some z) : Met l yX0_addGiven (wsm yX0_addGiven cX0_addGiven 5 (some .int)) (rmd 2) (va_Pc [.ref (ad 1), .int v1, .int v2, .int v3] (gPre D (xw cI cJ cV ad) (xt cI cJ cV) sz I J)) (gQi D (xw cI cJ cV ad) (xt cI cJ cV) (xL ad) sz z) 0 0 (gA (xL ad) sz) :=
  g_met (by decide) xw_WL (fun p e s m below meth c hsz C hB ls hl => by subst hsz; exact tX0_addGiven C hB  hl h) (Nat.le_of_ble_eq_true rfl)
theorem hdX0_addWorked : yX0_addWorked.cls = "BitTuner$Program" ∧ yX0_addWorked.cls ≠ "java/lang/invoke/MethodHandle" ∧ yX0_addWorked.cls ≠ "java/lang/invoke/VarHandle" ∧ (parseMethodDescriptor yX0_addWorked.desc).map (fun d => d.parameters.length) = some 3 := by decide +kernel
def fX0_addWorked_55  (k4 : Nat) (w0 : Int32) (w2 : Nat) (w3 : Nat) (I : TI) (J : TJ) : Option (Int32 × SS) :=
  if okx w0 then
  bnd (fX2_spanWorked w3 w2 w0.toNatClampNeg I J) (fun q_8 I_8 J_8 =>
  bnd (fX2_isWithinLimits k4 I_8 J_8) (fun q_9 I_9 J_9 =>
  if q_9 = 0 then
  some ((-4 : Int32), I_9, J_9)
  else
  some (I_9 12 0, (uI I_9 12 0 ((I_9 12 0) + (1 : Int32))), J_9)))
  else none
set_option maxHeartbeats 4000000 in
set_option maxRecDepth 100000 in
theorem tX0_addWorked_55 {p : Program} {l : Launch} {e : Env} {s : State} {m : MethodId} {args : Array Value} {below : List Frame} {meth : Method} {c : Code} (C : KX p s m args meth c "BitTuner$Program" cX0_addWorked 5 (some .int)) {D : va_G} {cI cJ cV : ClassId} {ad : Nat → Nat} {z : Int32 × SS}   {H : Heap} {locs : List Loc} {ls : Array Slot} {I : TI} {J : TJ} {k4 : Nat} {w0 : Int32} {w2 : Nat} {w3 : Nat} (hB : XB D cI cJ cV ad s H locs I J) (hk4 : k4 < 16) (hw2 : w2 < 16) (hw3 : w3 < 16) (hl : lv_has ls 5 [(0, .ref (ad 1)), (4, .ref (ad (12 + k4)))]) (h : fX0_addWorked_55 k4 w0 w2 w3 I J = some z) : W p l e (rmd 3) s m args below meth c H locs 0 0 (MQ below (gQi D (xw cI cJ cV ad) (xt cI cJ cV) (xL ad) s.heap.size z) args s 0 0 (gA (xL ad) s.heap.size)) (F0 m 55 ls [.int w0, .ref (ad 2), .ref (ad (12 + w2)), .ref (ad (12 + w3))]) := by
  unfold fX0_addWorked_55 at h
  obtain ⟨c_7, h⟩ := ite_ck h
  refine xa_values_ld C hB c_7 dX0_addWorked_55 ?_
  obtain ⟨q_8, I_8, J_8, hc_8, h⟩ := bnd_some h
  refine g_gov hB (g_runV C hB [.ref (ad (12 + w2)), .ref (ad (12 + w0.toNatClampNeg))] [] (cnX2_spanWorked l D cI cJ cV ad H.size hw3 hw2 c_7.2  hc_8) (12 + w3) (xw_val hw3) rfl tw_246 tw_247 tw_248 tw_35 tw_249 ⟨rfl, rfl⟩ hdX2_spanWorked ⟨Nat.le_of_ble_eq_true rfl, Nat.le_of_ble_eq_true rfl⟩ hl.1 rfl (Nat.le_of_ble_eq_true rfl) dX0_addWorked_56) (fun H locs hB => ?_)
  refine lv_aload C.hx C.hb dX0_addWorked_59 (lv_at hl 1 rfl) ?_
  obtain ⟨q_9, I_9, J_9, hc_9, h⟩ := bnd_some h
  refine g_goi hB (g_runV C hB [] [] (cnX2_isWithinLimits l D cI cJ cV ad H.size hk4  hc_9) (12 + k4) (xw_val hk4) rfl tw_269 tw_270 tw_271 tw_35 tw_272 ⟨rfl, rfl⟩ hdX2_isWithinLimits ⟨Nat.le_of_ble_eq_true rfl, Nat.le_of_ble_eq_true rfl⟩ hl.1 rfl (Nat.le_of_ble_eq_true rfl) dX0_addWorked_61) (fun H locs hB => ?_)
  refine lv_if_eq (tgt := 81) C.hx C.hb dX0_addWorked_64 (by decide) (fun c_10 => ?_) (fun c_10 => ?_)
  · replace h := (if_pos c_10).symm.trans h
    refine lv_bipush (v := (-4 : Int32)) C.hx C.hb dX0_addWorked_81 (by decide) ?_
    exact g_iret C hB h dX0_addWorked_83
  · replace h := (if_neg c_10).symm.trans h
    refine lv_aload_n C.hx C.hb dX0_addWorked_67 rfl (lv_at hl 0 rfl) ?_
    refine lv_dup C.hx C.hb dX0_addWorked_68 rfl ?_
    refine xg_p_many C hB tw_128 dX0_addWorked_69 ?_
    refine lv_dup_x1 C.hx C.hb dX0_addWorked_72 rfl rfl ?_
    refine lv_iconst (v := (1 : Int32)) C.hx C.hb dX0_addWorked_73 (by decide) ?_
    refine lv_iadd C.hx C.hb dX0_addWorked_74 ?_
    refine xp_p_many C hB tw_128 dX0_addWorked_75 (fun H locs hB => ?_)
    refine lv_goto (tgt := 83) C.hx C.hb dX0_addWorked_78 (by decide) ?_
    exact g_iret C hB h dX0_addWorked_83
def fX0_addWorked  (v1 : Int32) (v2 : Int32) (v3 : Int32) (I : TI) (J : TJ) : Option (Int32 × SS) :=
  if (I 12 0) < (16 : Int32) then
  if okx (I 12 0) then
  bnd (fX2_begin ((I 12 0).toNatClampNeg) v1 v2 v3 I J) (fun q_3 I_3 J_3 =>
  if okx v2 then
  bnd (fX4_hasTwoParts v1 I_3 J_3) (fun q_5 I_5 J_5 =>
  if q_5 = 0 then
  fX0_addWorked_55 ((I 12 0).toNatClampNeg) v2 v2.toNatClampNeg ((I 12 0).toNatClampNeg) I_5 J_5
  else
  fX0_addWorked_55 ((I 12 0).toNatClampNeg) v3 v2.toNatClampNeg ((I 12 0).toNatClampNeg) I_5 J_5)
  else none)
  else none
  else
  some ((-3 : Int32), I, J)
set_option maxHeartbeats 4000000 in
set_option maxRecDepth 100000 in
theorem tX0_addWorked {p : Program} {l : Launch} {e : Env} {s : State} {m : MethodId} {args : Array Value} {below : List Frame} {meth : Method} {c : Code} (C : KX p s m args meth c "BitTuner$Program" cX0_addWorked 5 (some .int)) {D : va_G} {cI cJ cV : ClassId} {ad : Nat → Nat} {z : Int32 × SS}   {H : Heap} {locs : List Loc} {ls : Array Slot} {I : TI} {J : TJ} {v1 : Int32} {v2 : Int32} {v3 : Int32} (hB : XB D cI cJ cV ad s H locs I J)  (hl : lv_has ls 5 [(0, .ref (ad 1)), (1, .int v1), (2, .int v2), (3, .int v3)]) (h : fX0_addWorked v1 v2 v3 I J = some z) : W p l e (rmd 3) s m args below meth c H locs 0 0 (MQ below (gQi D (xw cI cJ cV ad) (xt cI cJ cV) (xL ad) s.heap.size z) args s 0 0 (gA (xL ad) s.heap.size)) (F0 m 0 ls []) := by
  unfold fX0_addWorked at h
  refine lv_aload_n C.hx C.hb dX0_addWorked_0 rfl (lv_at hl 0 rfl) ?_
  refine xg_p_many C hB tw_128 dX0_addWorked_1 ?_
  refine lv_bipush (v := (16 : Int32)) C.hx C.hb dX0_addWorked_4 (by decide) ?_
  refine lv_icmp_lt (tgt := 12) C.hx C.hb dX0_addWorked_6 (by decide) (fun c_1 => ?_) (fun c_1 => ?_)
  · replace h := (if_pos c_1).symm.trans h
    refine lv_aload_n C.hx C.hb dX0_addWorked_12 rfl (lv_at hl 0 rfl) ?_
    refine xg_p_values C hB tw_124 dX0_addWorked_13 ?_
    refine lv_aload_n C.hx C.hb dX0_addWorked_16 rfl (lv_at hl 0 rfl) ?_
    refine xg_p_many C hB tw_128 dX0_addWorked_17 ?_
    obtain ⟨c_2, h⟩ := ite_ck h
    refine xa_values_ld C hB c_2 dX0_addWorked_20 ?_
    refine lv_astore (lv' := [(4, .ref (ad (12 + (I 12 0).toNatClampNeg))), (0, .ref (ad 1)), (1, .int v1), (2, .int v2), (3, .int v3)]) C.hx C.hb dX0_addWorked_21 hl (by decide) rfl (fun ls hl => ?_)
    refine lv_aload C.hx C.hb dX0_addWorked_23 (lv_at hl 0 rfl) ?_
    refine lv_iload_n C.hx C.hb dX0_addWorked_25 rfl (lv_at hl 2 rfl) ?_
    refine lv_iload_n C.hx C.hb dX0_addWorked_26 rfl (lv_at hl 3 rfl) ?_
    refine lv_iload_n C.hx C.hb dX0_addWorked_27 rfl (lv_at hl 4 rfl) ?_
    obtain ⟨q_3, I_3, J_3, hc_3, h⟩ := bnd_some h
    refine g_gov hB (g_runV C hB [.int v1, .int v2, .int v3] [] (cnX2_begin l D cI cJ cV ad H.size c_2.2  hc_3) (12 + ((I 12 0).toNatClampNeg)) (xw_val c_2.2) rfl tw_212 tw_213 tw_214 tw_35 tw_215 ⟨rfl, rfl⟩ hdX2_begin ⟨Nat.le_of_ble_eq_true rfl, Nat.le_of_ble_eq_true rfl⟩ hl.1 rfl (Nat.le_of_ble_eq_true rfl) dX0_addWorked_28) (fun H locs hB => ?_)
    refine lv_aload C.hx C.hb dX0_addWorked_31 (lv_at hl 0 rfl) ?_
    refine lv_aload_n C.hx C.hb dX0_addWorked_33 rfl (lv_at hl 1 rfl) ?_
    refine xg_p_values C hB tw_124 dX0_addWorked_34 ?_
    refine lv_iload_n C.hx C.hb dX0_addWorked_37 rfl (lv_at hl 3 rfl) ?_
    obtain ⟨c_4, h⟩ := ite_ck h
    refine xa_values_ld C hB c_4 dX0_addWorked_38 ?_
    refine lv_aload_n C.hx C.hb dX0_addWorked_39 rfl (lv_at hl 1 rfl) ?_
    refine xg_p_values C hB tw_124 dX0_addWorked_40 ?_
    refine lv_iload_n C.hx C.hb dX0_addWorked_43 rfl (lv_at hl 2 rfl) ?_
    obtain ⟨q_5, I_5, J_5, hc_5, h⟩ := bnd_some h
    refine g_goi hB (g_runSN C hB [.int v1] [.ref (ad 2), .ref (ad (12 + v2.toNatClampNeg)), .ref (ad (12 + (I 12 0).toNatClampNeg))] (host := "BitTuner") (cnX4_hasTwoParts l D cI cJ cV ad H.size  hc_5) hB.N.1 tw_239 tw_33 tw_240 ⟨rfl, rfl⟩ hdX4_hasTwoParts.2 ⟨Nat.le_of_ble_eq_true rfl, Nat.le_of_ble_eq_true rfl⟩ hl.1 rfl (Nat.le_of_ble_eq_true rfl) dX0_addWorked_44) (fun H locs hB => ?_)
    refine lv_if_eq (tgt := 54) C.hx C.hb dX0_addWorked_47 (by decide) (fun c_6 => ?_) (fun c_6 => ?_)
    · replace h := (if_pos c_6).symm.trans h
      refine lv_iload_n C.hx C.hb dX0_addWorked_54 rfl (lv_at hl 3 rfl) ?_
      exact tX0_addWorked_55 C  hB c_2.2 c_4.2 c_2.2 (lv_sub hl [1, 0] rfl) h
    · replace h := (if_neg c_6).symm.trans h
      refine lv_iload_n C.hx C.hb dX0_addWorked_50 rfl (lv_at hl 4 rfl) ?_
      refine lv_goto (tgt := 55) C.hx C.hb dX0_addWorked_51 (by decide) ?_
      exact tX0_addWorked_55 C  hB c_2.2 c_4.2 c_2.2 (lv_sub hl [1, 0] rfl) h
  · replace h := (if_neg c_1).symm.trans h
    refine lv_bipush (v := (-3 : Int32)) C.hx C.hb dX0_addWorked_9 (by decide) ?_
    exact g_iret C hB h dX0_addWorked_11
set_option maxHeartbeats 4000000 in
set_option maxRecDepth 100000 in
theorem cnX0_addWorked (l : Launch) (D : va_G) (cI cJ cV : ClassId) (ad : Nat → Nat) (sz : Nat) {v1 : Int32} {v2 : Int32} {v3 : Int32} {I : TI} {J : TJ} {z : Int32 × SS}  (h : fX0_addWorked v1 v2 v3 I J = some z) : Met l yX0_addWorked (wsm yX0_addWorked cX0_addWorked 5 (some .int)) (rmd 3) (va_Pc [.ref (ad 1), .int v1, .int v2, .int v3] (gPre D (xw cI cJ cV ad) (xt cI cJ cV) sz I J)) (gQi D (xw cI cJ cV ad) (xt cI cJ cV) (xL ad) sz z) 0 0 (gA (xL ad) sz) :=
  g_met (by decide) xw_WL (fun p e s m below meth c hsz C hB ls hl => by subst hsz; exact tX0_addWorked C hB  hl h) (Nat.le_of_ble_eq_true rfl)
theorem hdX0_inputs : yX0_inputs.cls = "BitTuner$Program" ∧ yX0_inputs.cls ≠ "java/lang/invoke/MethodHandle" ∧ yX0_inputs.cls ≠ "java/lang/invoke/VarHandle" ∧ (parseMethodDescriptor yX0_inputs.desc).map (fun d => d.parameters.length) = some 0 := by decide +kernel
def fX0_inputs_4  : Nat → Int32 → Int32 → TI → TJ → Option (Int32 × SS)
  | 0, _, _, _, _ => none
  | n + 1, v1, v2, I, J =>
    if (I 12 0) ≤ v2 then
    some (v1, I, J)
    else
    if okx v2 then
    if (I 0 v2.toNatClampNeg) = 0 then
    fX0_inputs_4 n (v1 + (1 : Int32)) (v2 + (1 : Int32)) I J
    else
    fX0_inputs_4 n v1 (v2 + (1 : Int32)) I J
    else none
theorem eX0_inputs_4  (n : Nat) (v1 : Int32) (v2 : Int32) (I : TI) (J : TJ) : fX0_inputs_4 (n + 1) v1 v2 I J = (
    if (I 12 0) ≤ v2 then
    some (v1, I, J)
    else
    if okx v2 then
    if (I 0 v2.toNatClampNeg) = 0 then
    fX0_inputs_4 n (v1 + (1 : Int32)) (v2 + (1 : Int32)) I J
    else
    fX0_inputs_4 n v1 (v2 + (1 : Int32)) I J
    else none) := rfl
set_option maxHeartbeats 4000000 in
set_option maxRecDepth 100000 in
theorem tX0_inputs_4 {p : Program} {l : Launch} {e : Env} {s : State} {m : MethodId} {args : Array Value} {below : List Frame} {meth : Method} {c : Code} (C : KX p s m args meth c "BitTuner$Program" cX0_inputs 3 (some .int)) {D : va_G} {cI cJ cV : ClassId} {ad : Nat → Nat} {z : Int32 × SS}   : ∀ (n : Nat), ∀ {H : Heap} {locs : List Loc} {ls : Array Slot} {I : TI} {J : TJ} {v1 : Int32} {v2 : Int32}, XB D cI cJ cV ad s H locs I J → lv_has ls 3 [(0, .ref (ad 1)), (1, .int v1), (2, .int v2)] → fX0_inputs_4 n v1 v2 I J = some z → W p l e (rmd 0) s m args below meth c H locs 0 0 (MQ below (gQi D (xw cI cJ cV ad) (xt cI cJ cV) (xL ad) s.heap.size z) args s 0 0 (gA (xL ad) s.heap.size)) (F0 m 4 ls []) := by
  intro n
  induction n with
  | zero =>
    intro H locs ls I J v1 v2 hB  hl h
    have h : (none : Option (Int32 × SS)) = some z := h
    cases h
  | succ n ih =>
    intro H locs ls I J v1 v2 hB  hl h
    replace h := (eX0_inputs_4 n v1 v2 I J).symm.trans h
    refine lv_iload_n C.hx C.hb dX0_inputs_4 rfl (lv_at hl 2 rfl) ?_
    refine lv_aload_n C.hx C.hb dX0_inputs_5 rfl (lv_at hl 0 rfl) ?_
    refine xg_p_many C hB tw_128 dX0_inputs_6 ?_
    refine lv_icmp_ge (tgt := 33) C.hx C.hb dX0_inputs_9 (by decide) (fun c_1 => ?_) (fun c_1 => ?_)
    · replace h := (if_pos c_1).symm.trans h
      refine lv_iload_n C.hx C.hb dX0_inputs_33 rfl (lv_at hl 1 rfl) ?_
      exact g_iret C hB h dX0_inputs_34
    · replace h := (if_neg c_1).symm.trans h
      refine lv_aload_n C.hx C.hb dX0_inputs_12 rfl (lv_at hl 0 rfl) ?_
      refine xg_p_values C hB tw_124 dX0_inputs_13 ?_
      refine lv_iload_n C.hx C.hb dX0_inputs_16 rfl (lv_at hl 2 rfl) ?_
      obtain ⟨c_2, h⟩ := ite_ck h
      refine xa_values_ld C hB c_2 dX0_inputs_17 ?_
      refine xg_v_kind C hB c_2.2 tw_63 dX0_inputs_18 ?_
      refine lv_if_ne (tgt := 27) C.hx C.hb dX0_inputs_21 (by decide) (fun c_3 => ?_) (fun c_3 => ?_)
      · replace h := (if_neg c_3).symm.trans h
        refine lv_iinc (v := v2 + (1 : Int32)) (lv' := [(2, .int (v2 + (1 : Int32))), (0, .ref (ad 1)), (1, .int v1)]) C.hx C.hb dX0_inputs_27 hl (k := 2) rfl rfl (by decide) rfl (fun ls hl => ?_)
        refine lv_goto (tgt := 4) C.hx C.hb dX0_inputs_30 (by decide) ?_
        exact ih hB (lv_sub hl [1, 2, 0] rfl) h
      · replace h := (if_pos c_3).symm.trans h
        refine lv_iinc (v := v1 + (1 : Int32)) (lv' := [(1, .int (v1 + (1 : Int32))), (0, .ref (ad 1)), (2, .int v2)]) C.hx C.hb dX0_inputs_24 hl (k := 1) rfl rfl (by decide) rfl (fun ls hl => ?_)
        refine lv_iinc (v := v2 + (1 : Int32)) (lv' := [(2, .int (v2 + (1 : Int32))), (1, .int (v1 + (1 : Int32))), (0, .ref (ad 1))]) C.hx C.hb dX0_inputs_27 hl (k := 2) rfl rfl (by decide) rfl (fun ls hl => ?_)
        refine lv_goto (tgt := 4) C.hx C.hb dX0_inputs_30 (by decide) ?_
        exact ih hB (lv_sub hl [2, 1, 0] rfl) h
def fX0_inputs   (I : TI) (J : TJ) : Option (Int32 × SS) :=
  fX0_inputs_4 fuel (0 : Int32) (0 : Int32) I J
set_option maxHeartbeats 4000000 in
set_option maxRecDepth 100000 in
theorem tX0_inputs {p : Program} {l : Launch} {e : Env} {s : State} {m : MethodId} {args : Array Value} {below : List Frame} {meth : Method} {c : Code} (C : KX p s m args meth c "BitTuner$Program" cX0_inputs 3 (some .int)) {D : va_G} {cI cJ cV : ClassId} {ad : Nat → Nat} {z : Int32 × SS}   {H : Heap} {locs : List Loc} {ls : Array Slot} {I : TI} {J : TJ}  (hB : XB D cI cJ cV ad s H locs I J)  (hl : lv_has ls 3 [(0, .ref (ad 1))]) (h : fX0_inputs I J = some z) : W p l e (rmd 0) s m args below meth c H locs 0 0 (MQ below (gQi D (xw cI cJ cV ad) (xt cI cJ cV) (xL ad) s.heap.size z) args s 0 0 (gA (xL ad) s.heap.size)) (F0 m 0 ls []) := by
  unfold fX0_inputs at h
  refine lv_iconst (v := (0 : Int32)) C.hx C.hb dX0_inputs_0 (by decide) ?_
  refine lv_istore_n (lv' := [(1, .int (0 : Int32)), (0, .ref (ad 1))]) C.hx C.hb dX0_inputs_1 rfl hl (by decide) rfl (fun ls hl => ?_)
  refine lv_iconst (v := (0 : Int32)) C.hx C.hb dX0_inputs_2 (by decide) ?_
  refine lv_istore_n (lv' := [(2, .int (0 : Int32)), (1, .int (0 : Int32)), (0, .ref (ad 1))]) C.hx C.hb dX0_inputs_3 rfl hl (by decide) rfl (fun ls hl => ?_)
  exact tX0_inputs_4 C  fuel hB (lv_sub hl [2, 1, 0] rfl) h
set_option maxHeartbeats 4000000 in
set_option maxRecDepth 100000 in
theorem cnX0_inputs (l : Launch) (D : va_G) (cI cJ cV : ClassId) (ad : Nat → Nat) (sz : Nat)  {I : TI} {J : TJ} {z : Int32 × SS}  (h : fX0_inputs I J = some z) : Met l yX0_inputs (wsm yX0_inputs cX0_inputs 3 (some .int)) (rmd 0) (va_Pc [.ref (ad 1)] (gPre D (xw cI cJ cV ad) (xt cI cJ cV) sz I J)) (gQi D (xw cI cJ cV ad) (xt cI cJ cV) (xL ad) sz z) 0 0 (gA (xL ad) sz) :=
  g_met (by decide) xw_WL (fun p e s m below meth c hsz C hB ls hl => by subst hsz; exact tX0_inputs C hB  hl h) (Nat.le_of_ble_eq_true rfl)
theorem hdX0_workedOnes : yX0_workedOnes.cls = "BitTuner$Program" ∧ yX0_workedOnes.cls ≠ "java/lang/invoke/MethodHandle" ∧ yX0_workedOnes.cls ≠ "java/lang/invoke/VarHandle" ∧ (parseMethodDescriptor yX0_workedOnes.desc).map (fun d => d.parameters.length) = some 0 := by decide +kernel
def fX0_workedOnes_4  : Nat → Int32 → Int32 → TI → TJ → Option (Int32 × SS)
  | 0, _, _, _, _ => none
  | n + 1, v1, v2, I, J =>
    if (I 12 0) ≤ v2 then
    some (v1, I, J)
    else
    if okx v2 then
    bnd (fX2_isGiven v2.toNatClampNeg I J) (fun q_3 I_3 J_3 =>
    if q_3 = 0 then
    fX0_workedOnes_4 n (v1 + (1 : Int32)) (v2 + (1 : Int32)) I_3 J_3
    else
    fX0_workedOnes_4 n v1 (v2 + (1 : Int32)) I_3 J_3)
    else none
theorem eX0_workedOnes_4  (n : Nat) (v1 : Int32) (v2 : Int32) (I : TI) (J : TJ) : fX0_workedOnes_4 (n + 1) v1 v2 I J = (
    if (I 12 0) ≤ v2 then
    some (v1, I, J)
    else
    if okx v2 then
    bnd (fX2_isGiven v2.toNatClampNeg I J) (fun q_3 I_3 J_3 =>
    if q_3 = 0 then
    fX0_workedOnes_4 n (v1 + (1 : Int32)) (v2 + (1 : Int32)) I_3 J_3
    else
    fX0_workedOnes_4 n v1 (v2 + (1 : Int32)) I_3 J_3)
    else none) := rfl
set_option maxHeartbeats 4000000 in
set_option maxRecDepth 100000 in
theorem tX0_workedOnes_4 {p : Program} {l : Launch} {e : Env} {s : State} {m : MethodId} {args : Array Value} {below : List Frame} {meth : Method} {c : Code} (C : KX p s m args meth c "BitTuner$Program" cX0_workedOnes 3 (some .int)) {D : va_G} {cI cJ cV : ClassId} {ad : Nat → Nat} {z : Int32 × SS}   : ∀ (n : Nat), ∀ {H : Heap} {locs : List Loc} {ls : Array Slot} {I : TI} {J : TJ} {v1 : Int32} {v2 : Int32}, XB D cI cJ cV ad s H locs I J → lv_has ls 3 [(0, .ref (ad 1)), (1, .int v1), (2, .int v2)] → fX0_workedOnes_4 n v1 v2 I J = some z → W p l e (rmd 1) s m args below meth c H locs 0 0 (MQ below (gQi D (xw cI cJ cV ad) (xt cI cJ cV) (xL ad) s.heap.size z) args s 0 0 (gA (xL ad) s.heap.size)) (F0 m 4 ls []) := by
  intro n
  induction n with
  | zero =>
    intro H locs ls I J v1 v2 hB  hl h
    have h : (none : Option (Int32 × SS)) = some z := h
    cases h
  | succ n ih =>
    intro H locs ls I J v1 v2 hB  hl h
    replace h := (eX0_workedOnes_4 n v1 v2 I J).symm.trans h
    refine lv_iload_n C.hx C.hb dX0_workedOnes_4 rfl (lv_at hl 2 rfl) ?_
    refine lv_aload_n C.hx C.hb dX0_workedOnes_5 rfl (lv_at hl 0 rfl) ?_
    refine xg_p_many C hB tw_128 dX0_workedOnes_6 ?_
    refine lv_icmp_ge (tgt := 33) C.hx C.hb dX0_workedOnes_9 (by decide) (fun c_1 => ?_) (fun c_1 => ?_)
    · replace h := (if_pos c_1).symm.trans h
      refine lv_iload_n C.hx C.hb dX0_workedOnes_33 rfl (lv_at hl 1 rfl) ?_
      exact g_iret C hB h dX0_workedOnes_34
    · replace h := (if_neg c_1).symm.trans h
      refine lv_aload_n C.hx C.hb dX0_workedOnes_12 rfl (lv_at hl 0 rfl) ?_
      refine xg_p_values C hB tw_124 dX0_workedOnes_13 ?_
      refine lv_iload_n C.hx C.hb dX0_workedOnes_16 rfl (lv_at hl 2 rfl) ?_
      obtain ⟨c_2, h⟩ := ite_ck h
      refine xa_values_ld C hB c_2 dX0_workedOnes_17 ?_
      obtain ⟨q_3, I_3, J_3, hc_3, h⟩ := bnd_some h
      refine g_goi hB (g_runV C hB [] [] (cnX2_isGiven l D cI cJ cV ad H.size c_2.2  hc_3) (12 + v2.toNatClampNeg) (xw_val c_2.2) rfl tw_287 tw_288 tw_289 tw_35 tw_290 ⟨rfl, rfl⟩ hdX2_isGiven ⟨Nat.le_of_ble_eq_true rfl, Nat.le_of_ble_eq_true rfl⟩ hl.1 rfl (Nat.le_of_ble_eq_true rfl) dX0_workedOnes_18) (fun H locs hB => ?_)
      refine lv_if_ne (tgt := 27) C.hx C.hb dX0_workedOnes_21 (by decide) (fun c_4 => ?_) (fun c_4 => ?_)
      · replace h := (if_neg c_4).symm.trans h
        refine lv_iinc (v := v2 + (1 : Int32)) (lv' := [(2, .int (v2 + (1 : Int32))), (0, .ref (ad 1)), (1, .int v1)]) C.hx C.hb dX0_workedOnes_27 hl (k := 2) rfl rfl (by decide) rfl (fun ls hl => ?_)
        refine lv_goto (tgt := 4) C.hx C.hb dX0_workedOnes_30 (by decide) ?_
        exact ih hB (lv_sub hl [1, 2, 0] rfl) h
      · replace h := (if_pos c_4).symm.trans h
        refine lv_iinc (v := v1 + (1 : Int32)) (lv' := [(1, .int (v1 + (1 : Int32))), (0, .ref (ad 1)), (2, .int v2)]) C.hx C.hb dX0_workedOnes_24 hl (k := 1) rfl rfl (by decide) rfl (fun ls hl => ?_)
        refine lv_iinc (v := v2 + (1 : Int32)) (lv' := [(2, .int (v2 + (1 : Int32))), (1, .int (v1 + (1 : Int32))), (0, .ref (ad 1))]) C.hx C.hb dX0_workedOnes_27 hl (k := 2) rfl rfl (by decide) rfl (fun ls hl => ?_)
        refine lv_goto (tgt := 4) C.hx C.hb dX0_workedOnes_30 (by decide) ?_
        exact ih hB (lv_sub hl [2, 1, 0] rfl) h
def fX0_workedOnes   (I : TI) (J : TJ) : Option (Int32 × SS) :=
  fX0_workedOnes_4 fuel (0 : Int32) (0 : Int32) I J
set_option maxHeartbeats 4000000 in
set_option maxRecDepth 100000 in
theorem tX0_workedOnes {p : Program} {l : Launch} {e : Env} {s : State} {m : MethodId} {args : Array Value} {below : List Frame} {meth : Method} {c : Code} (C : KX p s m args meth c "BitTuner$Program" cX0_workedOnes 3 (some .int)) {D : va_G} {cI cJ cV : ClassId} {ad : Nat → Nat} {z : Int32 × SS}   {H : Heap} {locs : List Loc} {ls : Array Slot} {I : TI} {J : TJ}  (hB : XB D cI cJ cV ad s H locs I J)  (hl : lv_has ls 3 [(0, .ref (ad 1))]) (h : fX0_workedOnes I J = some z) : W p l e (rmd 1) s m args below meth c H locs 0 0 (MQ below (gQi D (xw cI cJ cV ad) (xt cI cJ cV) (xL ad) s.heap.size z) args s 0 0 (gA (xL ad) s.heap.size)) (F0 m 0 ls []) := by
  unfold fX0_workedOnes at h
  refine lv_iconst (v := (0 : Int32)) C.hx C.hb dX0_workedOnes_0 (by decide) ?_
  refine lv_istore_n (lv' := [(1, .int (0 : Int32)), (0, .ref (ad 1))]) C.hx C.hb dX0_workedOnes_1 rfl hl (by decide) rfl (fun ls hl => ?_)
  refine lv_iconst (v := (0 : Int32)) C.hx C.hb dX0_workedOnes_2 (by decide) ?_
  refine lv_istore_n (lv' := [(2, .int (0 : Int32)), (1, .int (0 : Int32)), (0, .ref (ad 1))]) C.hx C.hb dX0_workedOnes_3 rfl hl (by decide) rfl (fun ls hl => ?_)
  exact tX0_workedOnes_4 C  fuel hB (lv_sub hl [2, 1, 0] rfl) h
set_option maxHeartbeats 4000000 in
set_option maxRecDepth 100000 in
theorem cnX0_workedOnes (l : Launch) (D : va_G) (cI cJ cV : ClassId) (ad : Nat → Nat) (sz : Nat)  {I : TI} {J : TJ} {z : Int32 × SS}  (h : fX0_workedOnes I J = some z) : Met l yX0_workedOnes (wsm yX0_workedOnes cX0_workedOnes 3 (some .int)) (rmd 1) (va_Pc [.ref (ad 1)] (gPre D (xw cI cJ cV ad) (xt cI cJ cV) sz I J)) (gQi D (xw cI cJ cV ad) (xt cI cJ cV) (xL ad) sz z) 0 0 (gA (xL ad) sz) :=
  g_met (by decide) xw_WL (fun p e s m below meth c hsz C hB ls hl => by subst hsz; exact tX0_workedOnes C hB  hl h) (Nat.le_of_ble_eq_true rfl)
theorem hdX0_priceInAll : yX0_priceInAll.cls = "BitTuner$Program" ∧ yX0_priceInAll.cls ≠ "java/lang/invoke/MethodHandle" ∧ yX0_priceInAll.cls ≠ "java/lang/invoke/VarHandle" ∧ (parseMethodDescriptor yX0_priceInAll.desc).map (fun d => d.parameters.length) = some 0 := by decide +kernel
def fX0_priceInAll_4  : Nat → Int32 → Int32 → TI → TJ → Option (Int32 × SS)
  | 0, _, _, _, _ => none
  | n + 1, v1, v2, I, J =>
    if (I 12 0) ≤ v2 then
    some (v1, I, J)
    else
    if okx v2 then
    bnd (fX2_isGiven v2.toNatClampNeg I J) (fun q_3 I_3 J_3 =>
    if q_3 = 0 then
    fX0_priceInAll_4 n (v1 + ((I_3 6 v2.toNatClampNeg) * (I_3 4 v2.toNatClampNeg))) (v2 + (1 : Int32)) I_3 J_3
    else
    fX0_priceInAll_4 n v1 (v2 + (1 : Int32)) I_3 J_3)
    else none
theorem eX0_priceInAll_4  (n : Nat) (v1 : Int32) (v2 : Int32) (I : TI) (J : TJ) : fX0_priceInAll_4 (n + 1) v1 v2 I J = (
    if (I 12 0) ≤ v2 then
    some (v1, I, J)
    else
    if okx v2 then
    bnd (fX2_isGiven v2.toNatClampNeg I J) (fun q_3 I_3 J_3 =>
    if q_3 = 0 then
    fX0_priceInAll_4 n (v1 + ((I_3 6 v2.toNatClampNeg) * (I_3 4 v2.toNatClampNeg))) (v2 + (1 : Int32)) I_3 J_3
    else
    fX0_priceInAll_4 n v1 (v2 + (1 : Int32)) I_3 J_3)
    else none) := rfl
set_option maxHeartbeats 4000000 in
set_option maxRecDepth 100000 in
theorem tX0_priceInAll_4 {p : Program} {l : Launch} {e : Env} {s : State} {m : MethodId} {args : Array Value} {below : List Frame} {meth : Method} {c : Code} (C : KX p s m args meth c "BitTuner$Program" cX0_priceInAll 3 (some .int)) {D : va_G} {cI cJ cV : ClassId} {ad : Nat → Nat} {z : Int32 × SS}   : ∀ (n : Nat), ∀ {H : Heap} {locs : List Loc} {ls : Array Slot} {I : TI} {J : TJ} {v1 : Int32} {v2 : Int32}, XB D cI cJ cV ad s H locs I J → lv_has ls 3 [(0, .ref (ad 1)), (1, .int v1), (2, .int v2)] → fX0_priceInAll_4 n v1 v2 I J = some z → W p l e (rmd 1) s m args below meth c H locs 0 0 (MQ below (gQi D (xw cI cJ cV ad) (xt cI cJ cV) (xL ad) s.heap.size z) args s 0 0 (gA (xL ad) s.heap.size)) (F0 m 4 ls []) := by
  intro n
  induction n with
  | zero =>
    intro H locs ls I J v1 v2 hB  hl h
    have h : (none : Option (Int32 × SS)) = some z := h
    cases h
  | succ n ih =>
    intro H locs ls I J v1 v2 hB  hl h
    replace h := (eX0_priceInAll_4 n v1 v2 I J).symm.trans h
    refine lv_iload_n C.hx C.hb dX0_priceInAll_4 rfl (lv_at hl 2 rfl) ?_
    refine lv_aload_n C.hx C.hb dX0_priceInAll_5 rfl (lv_at hl 0 rfl) ?_
    refine xg_p_many C hB tw_128 dX0_priceInAll_6 ?_
    refine lv_icmp_ge (tgt := 52) C.hx C.hb dX0_priceInAll_9 (by decide) (fun c_1 => ?_) (fun c_1 => ?_)
    · replace h := (if_pos c_1).symm.trans h
      refine lv_iload_n C.hx C.hb dX0_priceInAll_52 rfl (lv_at hl 1 rfl) ?_
      exact g_iret C hB h dX0_priceInAll_53
    · replace h := (if_neg c_1).symm.trans h
      refine lv_aload_n C.hx C.hb dX0_priceInAll_12 rfl (lv_at hl 0 rfl) ?_
      refine xg_p_values C hB tw_124 dX0_priceInAll_13 ?_
      refine lv_iload_n C.hx C.hb dX0_priceInAll_16 rfl (lv_at hl 2 rfl) ?_
      obtain ⟨c_2, h⟩ := ite_ck h
      refine xa_values_ld C hB c_2 dX0_priceInAll_17 ?_
      obtain ⟨q_3, I_3, J_3, hc_3, h⟩ := bnd_some h
      refine g_goi hB (g_runV C hB [] [] (cnX2_isGiven l D cI cJ cV ad H.size c_2.2  hc_3) (12 + v2.toNatClampNeg) (xw_val c_2.2) rfl tw_287 tw_288 tw_289 tw_35 tw_290 ⟨rfl, rfl⟩ hdX2_isGiven ⟨Nat.le_of_ble_eq_true rfl, Nat.le_of_ble_eq_true rfl⟩ hl.1 rfl (Nat.le_of_ble_eq_true rfl) dX0_priceInAll_18) (fun H locs hB => ?_)
      refine lv_if_ne (tgt := 46) C.hx C.hb dX0_priceInAll_21 (by decide) (fun c_4 => ?_) (fun c_4 => ?_)
      · replace h := (if_neg c_4).symm.trans h
        refine lv_iinc (v := v2 + (1 : Int32)) (lv' := [(2, .int (v2 + (1 : Int32))), (0, .ref (ad 1)), (1, .int v1)]) C.hx C.hb dX0_priceInAll_46 hl (k := 2) rfl rfl (by decide) rfl (fun ls hl => ?_)
        refine lv_goto (tgt := 4) C.hx C.hb dX0_priceInAll_49 (by decide) ?_
        exact ih hB (lv_sub hl [1, 2, 0] rfl) h
      · replace h := (if_pos c_4).symm.trans h
        refine lv_iload_n C.hx C.hb dX0_priceInAll_24 rfl (lv_at hl 1 rfl) ?_
        refine lv_aload_n C.hx C.hb dX0_priceInAll_25 rfl (lv_at hl 0 rfl) ?_
        refine xg_p_values C hB tw_124 dX0_priceInAll_26 ?_
        refine lv_iload_n C.hx C.hb dX0_priceInAll_29 rfl (lv_at hl 2 rfl) ?_
        refine xa_values_ld C hB c_2 dX0_priceInAll_30 ?_
        refine xg_v_weight C hB c_2.2 tw_88 dX0_priceInAll_31 ?_
        refine lv_aload_n C.hx C.hb dX0_priceInAll_34 rfl (lv_at hl 0 rfl) ?_
        refine xg_p_values C hB tw_124 dX0_priceInAll_35 ?_
        refine lv_iload_n C.hx C.hb dX0_priceInAll_38 rfl (lv_at hl 2 rfl) ?_
        refine xa_values_ld C hB c_2 dX0_priceInAll_39 ?_
        refine xg_v_bits C hB c_2.2 tw_80 dX0_priceInAll_40 ?_
        refine lv_imul C.hx C.hb dX0_priceInAll_43 ?_
        refine lv_iadd C.hx C.hb dX0_priceInAll_44 ?_
        refine lv_istore_n (lv' := [(1, .int (v1 + ((I_3 6 v2.toNatClampNeg) * (I_3 4 v2.toNatClampNeg)))), (0, .ref (ad 1)), (2, .int v2)]) C.hx C.hb dX0_priceInAll_45 rfl hl (by decide) rfl (fun ls hl => ?_)
        refine lv_iinc (v := v2 + (1 : Int32)) (lv' := [(2, .int (v2 + (1 : Int32))), (1, .int (v1 + ((I_3 6 v2.toNatClampNeg) * (I_3 4 v2.toNatClampNeg)))), (0, .ref (ad 1))]) C.hx C.hb dX0_priceInAll_46 hl (k := 2) rfl rfl (by decide) rfl (fun ls hl => ?_)
        refine lv_goto (tgt := 4) C.hx C.hb dX0_priceInAll_49 (by decide) ?_
        exact ih hB (lv_sub hl [2, 1, 0] rfl) h
def fX0_priceInAll   (I : TI) (J : TJ) : Option (Int32 × SS) :=
  fX0_priceInAll_4 fuel (0 : Int32) (0 : Int32) I J
set_option maxHeartbeats 4000000 in
set_option maxRecDepth 100000 in
theorem tX0_priceInAll {p : Program} {l : Launch} {e : Env} {s : State} {m : MethodId} {args : Array Value} {below : List Frame} {meth : Method} {c : Code} (C : KX p s m args meth c "BitTuner$Program" cX0_priceInAll 3 (some .int)) {D : va_G} {cI cJ cV : ClassId} {ad : Nat → Nat} {z : Int32 × SS}   {H : Heap} {locs : List Loc} {ls : Array Slot} {I : TI} {J : TJ}  (hB : XB D cI cJ cV ad s H locs I J)  (hl : lv_has ls 3 [(0, .ref (ad 1))]) (h : fX0_priceInAll I J = some z) : W p l e (rmd 1) s m args below meth c H locs 0 0 (MQ below (gQi D (xw cI cJ cV ad) (xt cI cJ cV) (xL ad) s.heap.size z) args s 0 0 (gA (xL ad) s.heap.size)) (F0 m 0 ls []) := by
  unfold fX0_priceInAll at h
  refine lv_iconst (v := (0 : Int32)) C.hx C.hb dX0_priceInAll_0 (by decide) ?_
  refine lv_istore_n (lv' := [(1, .int (0 : Int32)), (0, .ref (ad 1))]) C.hx C.hb dX0_priceInAll_1 rfl hl (by decide) rfl (fun ls hl => ?_)
  refine lv_iconst (v := (0 : Int32)) C.hx C.hb dX0_priceInAll_2 (by decide) ?_
  refine lv_istore_n (lv' := [(2, .int (0 : Int32)), (1, .int (0 : Int32)), (0, .ref (ad 1))]) C.hx C.hb dX0_priceInAll_3 rfl hl (by decide) rfl (fun ls hl => ?_)
  exact tX0_priceInAll_4 C  fuel hB (lv_sub hl [2, 1, 0] rfl) h
set_option maxHeartbeats 4000000 in
set_option maxRecDepth 100000 in
theorem cnX0_priceInAll (l : Launch) (D : va_G) (cI cJ cV : ClassId) (ad : Nat → Nat) (sz : Nat)  {I : TI} {J : TJ} {z : Int32 × SS}  (h : fX0_priceInAll I J = some z) : Met l yX0_priceInAll (wsm yX0_priceInAll cX0_priceInAll 3 (some .int)) (rmd 1) (va_Pc [.ref (ad 1)] (gPre D (xw cI cJ cV ad) (xt cI cJ cV) sz I J)) (gQi D (xw cI cJ cV ad) (xt cI cJ cV) (xL ad) sz z) 0 0 (gA (xL ad) sz) :=
  g_met (by decide) xw_WL (fun p e s m below meth c hsz C hB ls hl => by subst hsz; exact tX0_priceInAll C hB  hl h) (Nat.le_of_ble_eq_true rfl)
