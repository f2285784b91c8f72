/-! BitTuner: pure functions out of the bytecode, and the rows that tie them to the machine (by wip/gen/decomp.py) -/
theorem hdX4_input : yX4_input.cls = "BitTuner" ∧ yX4_input.cls ≠ "java/lang/invoke/MethodHandle" ∧ yX4_input.cls ≠ "java/lang/invoke/VarHandle" ∧ (parseMethodDescriptor yX4_input.desc).map (fun d => d.parameters.length) = some 2 := by decide +kernel
def fX4_input  (v1 : Int32) (v2 : Int32) (I : TI) (J : TJ) : Option (Int32 × SS) :=
  bnd (fX4_isGivable v1 I J) (fun q_1 I_1 J_1 =>
  if q_1 = 0 then
  some ((-2 : Int32), I_1, J_1)
  else
  bnd (fX4_isGivable v2 I_1 J_1) (fun q_3 I_3 J_3 =>
  if q_3 = 0 then
  some ((-2 : Int32), I_3, J_3)
  else
  if v1 ≤ v2 then
  bnd (fX0_addGiven (0 : Int32) v1 v2 I_3 J_3) (fun q_6 I_6 J_6 =>
  some (q_6, I_6, J_6))
  else
  some ((-2 : Int32), I_3, J_3)))
set_option maxHeartbeats 4000000 in
set_option maxRecDepth 100000 in
theorem tX4_input {p : Program} {l : Launch} {e : Env} {s : State} {m : MethodId} {args : Array Value} {below : List Frame} {meth : Method} {c : Code} (C : KX p s m args meth c "BitTuner" cX4_input 3 (some .int)) {D : va_G} {cI cJ cV : ClassId} {ad : Nat → Nat} {z : Int32 × SS}   {H : Heap} {locs : List Loc} {ls : Array Slot} {I : TI} {J : TJ} {v1 : Int32} {v2 : Int32} (hB : XB D cI cJ cV ad s H locs I J)  (hl : lv_has ls 3 [(0, .ref (ad 0)), (1, .int v1), (2, .int v2)]) (h : fX4_input v1 v2 I J = some z) : W p l e (rmd 3) s m args below meth c H locs 0 0 (MQ below (gQi D (xw cI cJ cV ad) (xt cI cJ cV) (xL ad) s.heap.size z) args s 0 0 (gA (xL ad) s.heap.size)) (F0 m 0 ls []) := by
  unfold fX4_input at h
  refine lv_iload_n C.hx C.hb dX4_input_0 rfl (lv_at hl 1 rfl) ?_
  obtain ⟨q_1, I_1, J_1, hc_1, h⟩ := bnd_some h
  refine g_goi hB (g_runS C hB [.int v1] [] (cnX4_isGivable l D cI cJ cV ad H.size  hc_1) tw_200 tw_201 tw_33 tw_202 ⟨rfl, rfl⟩ hdX4_isGivable ⟨Nat.le_of_ble_eq_true rfl, Nat.le_of_ble_eq_true rfl⟩ hl.1 rfl (Nat.le_of_ble_eq_true rfl) dX4_input_1) (fun H locs hB => ?_)
  refine lv_if_eq (tgt := 19) C.hx C.hb dX4_input_4 (by decide) (fun c_2 => ?_) (fun c_2 => ?_)
  · replace h := (if_pos c_2).symm.trans h
    refine lv_bipush (v := (-2 : Int32)) C.hx C.hb dX4_input_19 (by decide) ?_
    exact g_iret C hB h dX4_input_21
  · replace h := (if_neg c_2).symm.trans h
    refine lv_iload_n C.hx C.hb dX4_input_7 rfl (lv_at hl 2 rfl) ?_
    obtain ⟨q_3, I_3, J_3, hc_3, h⟩ := bnd_some h
    refine g_goi hB (g_runS C hB [.int v2] [] (cnX4_isGivable l D cI cJ cV ad H.size  hc_3) tw_200 tw_201 tw_33 tw_202 ⟨rfl, rfl⟩ hdX4_isGivable ⟨Nat.le_of_ble_eq_true rfl, Nat.le_of_ble_eq_true rfl⟩ hl.1 rfl (Nat.le_of_ble_eq_true rfl) dX4_input_8) (fun H locs hB => ?_)
    refine lv_if_eq (tgt := 19) C.hx C.hb dX4_input_11 (by decide) (fun c_4 => ?_) (fun c_4 => ?_)
    · replace h := (if_pos c_4).symm.trans h
      refine lv_bipush (v := (-2 : Int32)) C.hx C.hb dX4_input_19 (by decide) ?_
      exact g_iret C hB h dX4_input_21
    · replace h := (if_neg c_4).symm.trans h
      refine lv_iload_n C.hx C.hb dX4_input_14 rfl (lv_at hl 1 rfl) ?_
      refine lv_iload_n C.hx C.hb dX4_input_15 rfl (lv_at hl 2 rfl) ?_
      refine lv_icmp_le (tgt := 22) C.hx C.hb dX4_input_16 (by decide) (fun c_5 => ?_) (fun c_5 => ?_)
      · replace h := (if_pos c_5).symm.trans h
        refine lv_aload_n C.hx C.hb dX4_input_22 rfl (lv_at hl 0 rfl) ?_
        refine xg_t_program C hB tw_186 dX4_input_23 ?_
        refine lv_iconst (v := (0 : Int32)) C.hx C.hb dX4_input_26 (by decide) ?_
        refine lv_iload_n C.hx C.hb dX4_input_27 rfl (lv_at hl 1 rfl) ?_
        refine lv_iload_n C.hx C.hb dX4_input_28 rfl (lv_at hl 2 rfl) ?_
        obtain ⟨q_6, I_6, J_6, hc_6, h⟩ := bnd_some h
        refine g_goi hB (g_runV C hB [.int (0 : Int32), .int v1, .int v2] [] (cnX0_addGiven l D cI cJ cV ad H.size  hc_6) 1 rfl rfl tw_208 tw_209 tw_210 tw_34 tw_211 ⟨rfl, rfl⟩ hdX0_addGiven ⟨Nat.le_of_ble_eq_true rfl, Nat.le_of_ble_eq_true rfl⟩ hl.1 rfl (Nat.le_of_ble_eq_true rfl) dX4_input_29) (fun H locs hB => ?_)
        exact g_iret C hB h dX4_input_32
      · replace h := (if_neg c_5).symm.trans h
        refine lv_bipush (v := (-2 : Int32)) C.hx C.hb dX4_input_19 (by decide) ?_
        exact g_iret C hB h dX4_input_21
set_option maxHeartbeats 4000000 in
set_option maxRecDepth 100000 in
theorem cnX4_input (l : Launch) (D : va_G) (cI cJ cV : ClassId) (ad : Nat → Nat) (sz : Nat) {v1 : Int32} {v2 : Int32} {I : TI} {J : TJ} {z : Int32 × SS}  (h : fX4_input v1 v2 I J = some z) : Met l yX4_input (wsm yX4_input cX4_input 3 (some .int)) (rmd 3) (va_Pc [.ref (ad 0), .int v1, .int v2] (gPre D (xw cI cJ cV ad) (xt cI cJ cV) sz I J)) (gQi D (xw cI cJ cV ad) (xt cI cJ cV) (xL ad) sz z) 0 0 (gA (xL ad) sz) :=
  g_met (by decide) xw_WL (fun p e s m below meth c hsz C hB ls hl => by subst hsz; exact tX4_input C hB  hl h) (Nat.le_of_ble_eq_true rfl)
theorem hdX4_fixed : yX4_fixed.cls = "BitTuner" ∧ yX4_fixed.cls ≠ "java/lang/invoke/MethodHandle" ∧ yX4_fixed.cls ≠ "java/lang/invoke/VarHandle" ∧ (parseMethodDescriptor yX4_fixed.desc).map (fun d => d.parameters.length) = some 1 := by decide +kernel
def fX4_fixed  (v1 : Int32) (I : TI) (J : TJ) : Option (Int32 × SS) :=
  bnd (fX4_isGivable v1 I J) (fun q_1 I_1 J_1 =>
  if q_1 = 0 then
  some ((-2 : Int32), I_1, J_1)
  else
  bnd (fX0_addGiven (1 : Int32) v1 (0 : Int32) I_1 J_1) (fun q_3 I_3 J_3 =>
  some (q_3, I_3, J_3)))
set_option maxHeartbeats 4000000 in
set_option maxRecDepth 100000 in
theorem tX4_fixed {p : Program} {l : Launch} {e : Env} {s : State} {m : MethodId} {args : Array Value} {below : List Frame} {meth : Method} {c : Code} (C : KX p s m args meth c "BitTuner" cX4_fixed 2 (some .int)) {D : va_G} {cI cJ cV : ClassId} {ad : Nat → Nat} {z : Int32 × SS}   {H : Heap} {locs : List Loc} {ls : Array Slot} {I : TI} {J : TJ} {v1 : Int32} (hB : XB D cI cJ cV ad s H locs I J)  (hl : lv_has ls 2 [(0, .ref (ad 0)), (1, .int v1)]) (h : fX4_fixed v1 I J = some z) : W p l e (rmd 3) s m args below meth c H locs 0 0 (MQ below (gQi D (xw cI cJ cV ad) (xt cI cJ cV) (xL ad) s.heap.size z) args s 0 0 (gA (xL ad) s.heap.size)) (F0 m 0 ls []) := by
  unfold fX4_fixed at h
  refine lv_iload_n C.hx C.hb dX4_fixed_0 rfl (lv_at hl 1 rfl) ?_
  obtain ⟨q_1, I_1, J_1, hc_1, h⟩ := bnd_some h
  refine g_goi hB (g_runS C hB [.int v1] [] (cnX4_isGivable l D cI cJ cV ad H.size  hc_1) tw_200 tw_201 tw_33 tw_202 ⟨rfl, rfl⟩ hdX4_isGivable ⟨Nat.le_of_ble_eq_true rfl, Nat.le_of_ble_eq_true rfl⟩ hl.1 rfl (Nat.le_of_ble_eq_true rfl) dX4_fixed_1) (fun H locs hB => ?_)
  refine lv_if_ne (tgt := 10) C.hx C.hb dX4_fixed_4 (by decide) (fun c_2 => ?_) (fun c_2 => ?_)
  · replace h := (if_neg c_2).symm.trans h
    refine lv_aload_n C.hx C.hb dX4_fixed_10 rfl (lv_at hl 0 rfl) ?_
    refine xg_t_program C hB tw_186 dX4_fixed_11 ?_
    refine lv_iconst (v := (1 : Int32)) C.hx C.hb dX4_fixed_14 (by decide) ?_
    refine lv_iload_n C.hx C.hb dX4_fixed_15 rfl (lv_at hl 1 rfl) ?_
    refine lv_iconst (v := (0 : Int32)) C.hx C.hb dX4_fixed_16 (by decide) ?_
    obtain ⟨q_3, I_3, J_3, hc_3, h⟩ := bnd_some h
    refine g_goi hB (g_runV C hB [.int (1 : Int32), .int v1, .int (0 : Int32)] [] (cnX0_addGiven l D cI cJ cV ad H.size  hc_3) 1 rfl rfl tw_208 tw_209 tw_210 tw_34 tw_211 ⟨rfl, rfl⟩ hdX0_addGiven ⟨Nat.le_of_ble_eq_true rfl, Nat.le_of_ble_eq_true rfl⟩ hl.1 rfl (Nat.le_of_ble_eq_true rfl) dX4_fixed_17) (fun H locs hB => ?_)
    exact g_iret C hB h dX4_fixed_20
  · replace h := (if_pos c_2).symm.trans h
    refine lv_bipush (v := (-2 : Int32)) C.hx C.hb dX4_fixed_7 (by decide) ?_
    exact g_iret C hB h dX4_fixed_9
set_option maxHeartbeats 4000000 in
set_option maxRecDepth 100000 in
theorem cnX4_fixed (l : Launch) (D : va_G) (cI cJ cV : ClassId) (ad : Nat → Nat) (sz : Nat) {v1 : Int32} {I : TI} {J : TJ} {z : Int32 × SS}  (h : fX4_fixed v1 I J = some z) : Met l yX4_fixed (wsm yX4_fixed cX4_fixed 2 (some .int)) (rmd 3) (va_Pc [.ref (ad 0), .int v1] (gPre D (xw cI cJ cV ad) (xt cI cJ cV) sz I J)) (gQi D (xw cI cJ cV ad) (xt cI cJ cV) (xL ad) sz z) 0 0 (gA (xL ad) sz) :=
  g_met (by decide) xw_WL (fun p e s m below meth c hsz C hB ls hl => by subst hsz; exact tX4_fixed C hB  hl h) (Nat.le_of_ble_eq_true rfl)
theorem hdX4_work : yX4_work.cls = "BitTuner" ∧ yX4_work.cls ≠ "java/lang/invoke/MethodHandle" ∧ yX4_work.cls ≠ "java/lang/invoke/VarHandle" ∧ (parseMethodDescriptor yX4_work.desc).map (fun d => d.parameters.length) = some 3 := by decide +kernel
def fX4_work_52  (v1 : Int32) (v2 : Int32) (v3 : Int32) (w0 : Int32) (I : TI) (J : TJ) : Option (Int32 × SS) :=
  if w0 = 0 then
  some ((-2 : Int32), I, J)
  else
  bnd (fX0_addWorked v1 v2 v3 I J) (fun q_9 I_9 J_9 =>
  some (q_9, I_9, J_9))
set_option maxHeartbeats 4000000 in
set_option maxRecDepth 100000 in
theorem tX4_work_52 {p : Program} {l : Launch} {e : Env} {s : State} {m : MethodId} {args : Array Value} {below : List Frame} {meth : Method} {c : Code} (C : KX p s m args meth c "BitTuner" cX4_work 5 (some .int)) {D : va_G} {cI cJ cV : ClassId} {ad : Nat → Nat} {z : Int32 × SS}   {H : Heap} {locs : List Loc} {ls : Array Slot} {I : TI} {J : TJ} {v1 : Int32} {v2 : Int32} {v3 : Int32} {w0 : Int32} (hB : XB D cI cJ cV ad s H locs I J)  (hl : lv_has ls 5 [(0, .ref (ad 0)), (1, .int v1), (2, .int v2), (3, .int v3)]) (h : fX4_work_52 v1 v2 v3 w0 I J = some z) : W p l e (rmd 4) s m args below meth c H locs 0 0 (MQ below (gQi D (xw cI cJ cV ad) (xt cI cJ cV) (xL ad) s.heap.size z) args s 0 0 (gA (xL ad) s.heap.size)) (F0 m 52 ls [.int w0]) := by
  unfold fX4_work_52 at h
  refine lv_istore (lv' := [(4, .int w0), (0, .ref (ad 0)), (1, .int v1), (2, .int v2), (3, .int v3)]) C.hx C.hb dX4_work_52 hl (by decide) rfl (fun ls hl => ?_)
  refine lv_iload C.hx C.hb dX4_work_54 (lv_at hl 0 rfl) ?_
  refine lv_if_eq (tgt := 72) C.hx C.hb dX4_work_56 (by decide) (fun c_8 => ?_) (fun c_8 => ?_)
  · replace h := (if_pos c_8).symm.trans h
    refine lv_bipush (v := (-2 : Int32)) C.hx C.hb dX4_work_72 (by decide) ?_
    exact g_iret C hB h dX4_work_74
  · replace h := (if_neg c_8).symm.trans h
    refine lv_aload_n C.hx C.hb dX4_work_59 rfl (lv_at hl 1 rfl) ?_
    refine xg_t_program C hB tw_186 dX4_work_60 ?_
    refine lv_iload_n C.hx C.hb dX4_work_63 rfl (lv_at hl 2 rfl) ?_
    refine lv_iload_n C.hx C.hb dX4_work_64 rfl (lv_at hl 3 rfl) ?_
    refine lv_iload_n C.hx C.hb dX4_work_65 rfl (lv_at hl 4 rfl) ?_
    obtain ⟨q_9, I_9, J_9, hc_9, h⟩ := bnd_some h
    refine g_goi hB (g_runV C hB [.int v1, .int v2, .int v3] [] (cnX0_addWorked l D cI cJ cV ad H.size  hc_9) 1 rfl rfl tw_241 tw_242 tw_243 tw_34 tw_244 ⟨rfl, rfl⟩ hdX0_addWorked ⟨Nat.le_of_ble_eq_true rfl, Nat.le_of_ble_eq_true rfl⟩ hl.1 rfl (Nat.le_of_ble_eq_true rfl) dX4_work_66) (fun H locs hB => ?_)
    refine lv_goto (tgt := 74) C.hx C.hb dX4_work_69 (by decide) ?_
    exact g_iret C hB h dX4_work_74
def fX4_work  (v1 : Int32) (v2 : Int32) (v3 : Int32) (I : TI) (J : TJ) : Option (Int32 × SS) :=
  if v1 < (2 : Int32) then
  some ((-2 : Int32), I, J)
  else
  if (7 : Int32) < v1 then
  some ((-2 : Int32), I, J)
  else
  bnd (fX0_has v2 I J) (fun q_3 I_3 J_3 =>
  if q_3 = 0 then
  some ((-2 : Int32), I_3, J_3)
  else
  bnd (fX4_hasTwoParts v1 I_3 J_3) (fun q_5 I_5 J_5 =>
  if q_5 = 0 then
  if v3 = 0 then
  fX4_work_52 v1 v2 v3 (1 : Int32) I_5 J_5
  else
  fX4_work_52 v1 v2 v3 (0 : Int32) I_5 J_5
  else
  bnd (fX0_has v3 I_5 J_5) (fun q_10 I_10 J_10 =>
  fX4_work_52 v1 v2 v3 q_10 I_10 J_10)))
set_option maxHeartbeats 4000000 in
set_option maxRecDepth 100000 in
theorem tX4_work {p : Program} {l : Launch} {e : Env} {s : State} {m : MethodId} {args : Array Value} {below : List Frame} {meth : Method} {c : Code} (C : KX p s m args meth c "BitTuner" cX4_work 5 (some .int)) {D : va_G} {cI cJ cV : ClassId} {ad : Nat → Nat} {z : Int32 × SS}   {H : Heap} {locs : List Loc} {ls : Array Slot} {I : TI} {J : TJ} {v1 : Int32} {v2 : Int32} {v3 : Int32} (hB : XB D cI cJ cV ad s H locs I J)  (hl : lv_has ls 5 [(0, .ref (ad 0)), (1, .int v1), (2, .int v2), (3, .int v3)]) (h : fX4_work v1 v2 v3 I J = some z) : W p l e (rmd 4) s m args below meth c H locs 0 0 (MQ below (gQi D (xw cI cJ cV ad) (xt cI cJ cV) (xL ad) s.heap.size z) args s 0 0 (gA (xL ad) s.heap.size)) (F0 m 0 ls []) := by
  unfold fX4_work at h
  refine lv_iload_n C.hx C.hb dX4_work_0 rfl (lv_at hl 1 rfl) ?_
  refine lv_iconst (v := (2 : Int32)) C.hx C.hb dX4_work_1 (by decide) ?_
  refine lv_icmp_lt (tgt := 22) C.hx C.hb dX4_work_2 (by decide) (fun c_1 => ?_) (fun c_1 => ?_)
  · replace h := (if_pos c_1).symm.trans h
    refine lv_bipush (v := (-2 : Int32)) C.hx C.hb dX4_work_22 (by decide) ?_
    exact g_iret C hB h dX4_work_24
  · replace h := (if_neg c_1).symm.trans h
    refine lv_iload_n C.hx C.hb dX4_work_5 rfl (lv_at hl 1 rfl) ?_
    refine lv_bipush (v := (7 : Int32)) C.hx C.hb dX4_work_6 (by decide) ?_
    refine lv_icmp_gt (tgt := 22) C.hx C.hb dX4_work_8 (by decide) (fun c_2 => ?_) (fun c_2 => ?_)
    · replace h := (if_pos c_2).symm.trans h
      refine lv_bipush (v := (-2 : Int32)) C.hx C.hb dX4_work_22 (by decide) ?_
      exact g_iret C hB h dX4_work_24
    · replace h := (if_neg c_2).symm.trans h
      refine lv_aload_n C.hx C.hb dX4_work_11 rfl (lv_at hl 0 rfl) ?_
      refine xg_t_program C hB tw_186 dX4_work_12 ?_
      refine lv_iload_n C.hx C.hb dX4_work_15 rfl (lv_at hl 2 rfl) ?_
      obtain ⟨q_3, I_3, J_3, hc_3, h⟩ := bnd_some h
      refine g_goi hB (g_runV C hB [.int v2] [] (cnX0_has l D cI cJ cV ad H.size  hc_3) 1 rfl rfl tw_234 tw_235 tw_236 tw_34 tw_237 ⟨rfl, rfl⟩ hdX0_has ⟨Nat.le_of_ble_eq_true rfl, Nat.le_of_ble_eq_true rfl⟩ hl.1 rfl (Nat.le_of_ble_eq_true rfl) dX4_work_16) (fun H locs hB => ?_)
      refine lv_if_ne (tgt := 25) C.hx C.hb dX4_work_19 (by decide) (fun c_4 => ?_) (fun c_4 => ?_)
      · replace h := (if_neg c_4).symm.trans h
        refine lv_iload_n C.hx C.hb dX4_work_25 rfl (lv_at hl 1 rfl) ?_
        obtain ⟨q_5, I_5, J_5, hc_5, h⟩ := bnd_some h
        refine g_goi hB (g_runS C hB [.int v1] [] (cnX4_hasTwoParts l D cI cJ cV ad H.size  hc_5) tw_238 tw_239 tw_33 tw_240 ⟨rfl, rfl⟩ hdX4_hasTwoParts ⟨Nat.le_of_ble_eq_true rfl, Nat.le_of_ble_eq_true rfl⟩ hl.1 rfl (Nat.le_of_ble_eq_true rfl) dX4_work_26) (fun H locs hB => ?_)
        refine lv_if_eq (tgt := 43) C.hx C.hb dX4_work_29 (by decide) (fun c_6 => ?_) (fun c_6 => ?_)
        · replace h := (if_pos c_6).symm.trans h
          refine lv_iload_n C.hx C.hb dX4_work_43 rfl (lv_at hl 3 rfl) ?_
          refine lv_if_ne (tgt := 51) C.hx C.hb dX4_work_44 (by decide) (fun c_7 => ?_) (fun c_7 => ?_)
          · replace h := (if_neg c_7).symm.trans h
            refine lv_iconst (v := (0 : Int32)) C.hx C.hb dX4_work_51 (by decide) ?_
            exact tX4_work_52 C  hB (lv_sub hl [0, 1, 2, 3] rfl) h
          · replace h := (if_pos c_7).symm.trans h
            refine lv_iconst (v := (1 : Int32)) C.hx C.hb dX4_work_47 (by decide) ?_
            refine lv_goto (tgt := 52) C.hx C.hb dX4_work_48 (by decide) ?_
            exact tX4_work_52 C  hB (lv_sub hl [0, 1, 2, 3] rfl) h
        · replace h := (if_neg c_6).symm.trans h
          refine lv_aload_n C.hx C.hb dX4_work_32 rfl (lv_at hl 0 rfl) ?_
          refine xg_t_program C hB tw_186 dX4_work_33 ?_
          refine lv_iload_n C.hx C.hb dX4_work_36 rfl (lv_at hl 3 rfl) ?_
          obtain ⟨q_10, I_10, J_10, hc_10, h⟩ := bnd_some h
          refine g_goi hB (g_runV C hB [.int v3] [] (cnX0_has l D cI cJ cV ad H.size  hc_10) 1 rfl rfl tw_234 tw_235 tw_236 tw_34 tw_237 ⟨rfl, rfl⟩ hdX0_has ⟨Nat.le_of_ble_eq_true rfl, Nat.le_of_ble_eq_true rfl⟩ hl.1 rfl (Nat.le_of_ble_eq_true rfl) dX4_work_37) (fun H locs hB => ?_)
          refine lv_goto (tgt := 52) C.hx C.hb dX4_work_40 (by decide) ?_
          exact tX4_work_52 C  hB (lv_sub hl [0, 1, 2, 3] rfl) h
      · replace h := (if_pos c_4).symm.trans h
        refine lv_bipush (v := (-2 : Int32)) C.hx C.hb dX4_work_22 (by decide) ?_
        exact g_iret C hB h dX4_work_24
set_option maxHeartbeats 4000000 in
set_option maxRecDepth 100000 in
theorem cnX4_work (l : Launch) (D : va_G) (cI cJ cV : ClassId) (ad : Nat → Nat) (sz : Nat) {v1 : Int32} {v2 : Int32} {v3 : Int32} {I : TI} {J : TJ} {z : Int32 × SS}  (h : fX4_work v1 v2 v3 I J = some z) : Met l yX4_work (wsm yX4_work cX4_work 5 (some .int)) (rmd 4) (va_Pc [.ref (ad 0), .int v1, .int v2, .int v3] (gPre D (xw cI cJ cV ad) (xt cI cJ cV) sz I J)) (gQi D (xw cI cJ cV ad) (xt cI cJ cV) (xL ad) sz z) 0 0 (gA (xL ad) sz) :=
  g_met (by decide) xw_WL (fun p e s m below meth c hsz C hB ls hl => by subst hsz; exact tX4_work C hB  hl h) (Nat.le_of_ble_eq_true rfl)
theorem hdX4_cut : yX4_cut.cls = "BitTuner" ∧ yX4_cut.cls ≠ "java/lang/invoke/MethodHandle" ∧ yX4_cut.cls ≠ "java/lang/invoke/VarHandle" ∧ (parseMethodDescriptor yX4_cut.desc).map (fun d => d.parameters.length) = some 1 := by decide +kernel
def fX4_cut  (v1 : Int32) (I : TI) (J : TJ) : Option (Int32 × SS) :=
  if v1 < 0 then
  some ((-2 : Int32), I, J)
  else
  if v1 ≤ (I 12 0) then
  some ((I 12 0) - v1, (uI I 12 0 v1), J)
  else
  some ((-2 : Int32), I, J)
set_option maxHeartbeats 4000000 in
set_option maxRecDepth 100000 in
theorem tX4_cut {p : Program} {l : Launch} {e : Env} {s : State} {m : MethodId} {args : Array Value} {below : List Frame} {meth : Method} {c : Code} (C : KX p s m args meth c "BitTuner" cX4_cut 3 (some .int)) {D : va_G} {cI cJ cV : ClassId} {ad : Nat → Nat} {z : Int32 × SS}   {H : Heap} {locs : List Loc} {ls : Array Slot} {I : TI} {J : TJ} {v1 : Int32} (hB : XB D cI cJ cV ad s H locs I J)  (hl : lv_has ls 3 [(0, .ref (ad 0)), (1, .int v1)]) (h : fX4_cut v1 I J = some z) : W p l e (rmd 0) s m args below meth c H locs 0 0 (MQ below (gQi D (xw cI cJ cV ad) (xt cI cJ cV) (xL ad) s.heap.size z) args s 0 0 (gA (xL ad) s.heap.size)) (F0 m 0 ls []) := by
  unfold fX4_cut at h
  refine lv_iload_n C.hx C.hb dX4_cut_0 rfl (lv_at hl 1 rfl) ?_
  refine lv_if_lt (tgt := 15) C.hx C.hb dX4_cut_1 (by decide) (fun c_1 => ?_) (fun c_1 => ?_)
  · replace h := (if_pos c_1).symm.trans h
    refine lv_bipush (v := (-2 : Int32)) C.hx C.hb dX4_cut_15 (by decide) ?_
    exact g_iret C hB h dX4_cut_17
  · replace h := (if_neg c_1).symm.trans h
    refine lv_iload_n C.hx C.hb dX4_cut_4 rfl (lv_at hl 1 rfl) ?_
    refine lv_aload_n C.hx C.hb dX4_cut_5 rfl (lv_at hl 0 rfl) ?_
    refine xg_t_program C hB tw_186 dX4_cut_6 ?_
    refine xg_p_many C hB tw_129 dX4_cut_9 ?_
    refine lv_icmp_le (tgt := 18) C.hx C.hb dX4_cut_12 (by decide) (fun c_2 => ?_) (fun c_2 => ?_)
    · replace h := (if_pos c_2).symm.trans h
      refine lv_aload_n C.hx C.hb dX4_cut_18 rfl (lv_at hl 0 rfl) ?_
      refine xg_t_program C hB tw_186 dX4_cut_19 ?_
      refine xg_p_many C hB tw_129 dX4_cut_22 ?_
      refine lv_iload_n C.hx C.hb dX4_cut_25 rfl (lv_at hl 1 rfl) ?_
      refine lv_isub C.hx C.hb dX4_cut_26 ?_
      refine lv_istore_n (lv' := [(2, .int ((I 12 0) - v1)), (0, .ref (ad 0)), (1, .int v1)]) C.hx C.hb dX4_cut_27 rfl hl (by decide) rfl (fun ls hl => ?_)
      refine lv_aload_n C.hx C.hb dX4_cut_28 rfl (lv_at hl 1 rfl) ?_
      refine xg_t_program C hB tw_186 dX4_cut_29 ?_
      refine lv_iload_n C.hx C.hb dX4_cut_32 rfl (lv_at hl 2 rfl) ?_
      refine xp_p_many C hB tw_129 dX4_cut_33 (fun H locs hB => ?_)
      refine lv_iload_n C.hx C.hb dX4_cut_36 rfl (lv_at hl 0 rfl) ?_
      exact g_iret C hB h dX4_cut_37
    · replace h := (if_neg c_2).symm.trans h
      refine lv_bipush (v := (-2 : Int32)) C.hx C.hb dX4_cut_15 (by decide) ?_
      exact g_iret C hB h dX4_cut_17
set_option maxHeartbeats 4000000 in
set_option maxRecDepth 100000 in
theorem cnX4_cut (l : Launch) (D : va_G) (cI cJ cV : ClassId) (ad : Nat → Nat) (sz : Nat) {v1 : Int32} {I : TI} {J : TJ} {z : Int32 × SS}  (h : fX4_cut v1 I J = some z) : Met l yX4_cut (wsm yX4_cut cX4_cut 3 (some .int)) (rmd 0) (va_Pc [.ref (ad 0), .int v1] (gPre D (xw cI cJ cV ad) (xt cI cJ cV) sz I J)) (gQi D (xw cI cJ cV ad) (xt cI cJ cV) (xL ad) sz z) 0 0 (gA (xL ad) sz) :=
  g_met (by decide) xw_WL (fun p e s m below meth c hsz C hB ls hl => by subst hsz; exact tX4_cut C hB  hl h) (Nat.le_of_ble_eq_true rfl)
theorem hdX4_bits : yX4_bits.cls = "BitTuner" ∧ yX4_bits.cls ≠ "java/lang/invoke/MethodHandle" ∧ yX4_bits.cls ≠ "java/lang/invoke/VarHandle" ∧ (parseMethodDescriptor yX4_bits.desc).map (fun d => d.parameters.length) = some 2 := by decide +kernel
def fX4_bits  (v1 : Int32) (v2 : Int32) (I : TI) (J : TJ) : Option (Int32 × SS) :=
  bnd (fX0_isWorked v1 I J) (fun q_1 I_1 J_1 =>
  if q_1 = 0 then
  some ((-2 : Int32), I_1, J_1)
  else
  if v2 < 0 then
  some ((-2 : Int32), I_1, J_1)
  else
  if v2 ≤ (16 : Int32) then
  if okx v1 then
  some (I_1 4 v1.toNatClampNeg, (uI I_1 4 v1.toNatClampNeg v2), J_1)
  else none
  else
  some ((-2 : Int32), I_1, J_1))
set_option maxHeartbeats 4000000 in
set_option maxRecDepth 100000 in
theorem tX4_bits {p : Program} {l : Launch} {e : Env} {s : State} {m : MethodId} {args : Array Value} {below : List Frame} {meth : Method} {c : Code} (C : KX p s m args meth c "BitTuner" cX4_bits 5 (some .int)) {D : va_G} {cI cJ cV : ClassId} {ad : Nat → Nat} {z : Int32 × SS}   {H : Heap} {locs : List Loc} {ls : Array Slot} {I : TI} {J : TJ} {v1 : Int32} {v2 : Int32} (hB : XB D cI cJ cV ad s H locs I J)  (hl : lv_has ls 5 [(0, .ref (ad 0)), (1, .int v1), (2, .int v2)]) (h : fX4_bits v1 v2 I J = some z) : W p l e (rmd 2) s m args below meth c H locs 0 0 (MQ below (gQi D (xw cI cJ cV ad) (xt cI cJ cV) (xL ad) s.heap.size z) args s 0 0 (gA (xL ad) s.heap.size)) (F0 m 0 ls []) := by
  unfold fX4_bits at h
  refine lv_aload_n C.hx C.hb dX4_bits_0 rfl (lv_at hl 0 rfl) ?_
  refine xg_t_program C hB tw_186 dX4_bits_1 ?_
  refine lv_iload_n C.hx C.hb dX4_bits_4 rfl (lv_at hl 1 rfl) ?_
  obtain ⟨q_1, I_1, J_1, hc_1, h⟩ := bnd_some h
  refine g_goi hB (g_runV C hB [.int v1] [] (cnX0_isWorked l D cI cJ cV ad H.size  hc_1) 1 rfl rfl tw_282 tw_283 tw_284 tw_34 tw_285 ⟨rfl, rfl⟩ hdX0_isWorked ⟨Nat.le_of_ble_eq_true rfl, Nat.le_of_ble_eq_true rfl⟩ hl.1 rfl (Nat.le_of_ble_eq_true rfl) dX4_bits_5) (fun H locs hB => ?_)
  refine lv_if_eq (tgt := 21) C.hx C.hb dX4_bits_8 (by decide) (fun c_2 => ?_) (fun c_2 => ?_)
  · replace h := (if_pos c_2).symm.trans h
    refine lv_bipush (v := (-2 : Int32)) C.hx C.hb dX4_bits_21 (by decide) ?_
    exact g_iret C hB h dX4_bits_23
  · replace h := (if_neg c_2).symm.trans h
    refine lv_iload_n C.hx C.hb dX4_bits_11 rfl (lv_at hl 2 rfl) ?_
    refine lv_if_lt (tgt := 21) C.hx C.hb dX4_bits_12 (by decide) (fun c_3 => ?_) (fun c_3 => ?_)
    · replace h := (if_pos c_3).symm.trans h
      refine lv_bipush (v := (-2 : Int32)) C.hx C.hb dX4_bits_21 (by decide) ?_
      exact g_iret C hB h dX4_bits_23
    · replace h := (if_neg c_3).symm.trans h
      refine lv_iload_n C.hx C.hb dX4_bits_15 rfl (lv_at hl 2 rfl) ?_
      refine lv_bipush (v := (16 : Int32)) C.hx C.hb dX4_bits_16 (by decide) ?_
      refine lv_icmp_le (tgt := 24) C.hx C.hb dX4_bits_18 (by decide) (fun c_4 => ?_) (fun c_4 => ?_)
      · replace h := (if_pos c_4).symm.trans h
        refine lv_aload_n C.hx C.hb dX4_bits_24 rfl (lv_at hl 0 rfl) ?_
        refine xg_t_program C hB tw_186 dX4_bits_25 ?_
        refine xg_p_values C hB tw_126 dX4_bits_28 ?_
        refine lv_iload_n C.hx C.hb dX4_bits_31 rfl (lv_at hl 1 rfl) ?_
        obtain ⟨c_5, h⟩ := ite_ck h
        refine xa_values_ld C hB c_5 dX4_bits_32 ?_
        refine lv_astore_n (lv' := [(3, .ref (ad (12 + v1.toNatClampNeg))), (0, .ref (ad 0)), (1, .int v1), (2, .int v2)]) C.hx C.hb dX4_bits_33 rfl hl (by decide) rfl (fun ls hl => ?_)
        refine lv_aload_n C.hx C.hb dX4_bits_34 rfl (lv_at hl 0 rfl) ?_
        refine xg_v_bits C hB c_5.2 tw_79 dX4_bits_35 ?_
        refine lv_istore (lv' := [(4, .int (I_1 4 v1.toNatClampNeg)), (3, .ref (ad (12 + v1.toNatClampNeg))), (0, .ref (ad 0)), (1, .int v1), (2, .int v2)]) C.hx C.hb dX4_bits_38 hl (by decide) rfl (fun ls hl => ?_)
        refine lv_aload_n C.hx C.hb dX4_bits_40 rfl (lv_at hl 1 rfl) ?_
        refine lv_iload_n C.hx C.hb dX4_bits_41 rfl (lv_at hl 4 rfl) ?_
        refine xp_v_bits C hB c_5.2 tw_79 dX4_bits_42 (fun H locs hB => ?_)
        refine lv_iload C.hx C.hb dX4_bits_45 (lv_at hl 0 rfl) ?_
        exact g_iret C hB h dX4_bits_47
      · replace h := (if_neg c_4).symm.trans h
        refine lv_bipush (v := (-2 : Int32)) C.hx C.hb dX4_bits_21 (by decide) ?_
        exact g_iret C hB h dX4_bits_23
set_option maxHeartbeats 4000000 in
set_option maxRecDepth 100000 in
theorem cnX4_bits (l : Launch) (D : va_G) (cI cJ cV : ClassId) (ad : Nat → Nat) (sz : Nat) {v1 : Int32} {v2 : Int32} {I : TI} {J : TJ} {z : Int32 × SS}  (h : fX4_bits v1 v2 I J = some z) : Met l yX4_bits (wsm yX4_bits cX4_bits 5 (some .int)) (rmd 2) (va_Pc [.ref (ad 0), .int v1, .int v2] (gPre D (xw cI cJ cV ad) (xt cI cJ cV) sz I J)) (gQi D (xw cI cJ cV ad) (xt cI cJ cV) (xL ad) sz z) 0 0 (gA (xL ad) sz) :=
  g_met (by decide) xw_WL (fun p e s m below meth c hsz C hB ls hl => by subst hsz; exact tX4_bits C hB  hl h) (Nat.le_of_ble_eq_true rfl)
theorem hdX4_rounding : yX4_rounding.cls = "BitTuner" ∧ yX4_rounding.cls ≠ "java/lang/invoke/MethodHandle" ∧ yX4_rounding.cls ≠ "java/lang/invoke/VarHandle" ∧ (parseMethodDescriptor yX4_rounding.desc).map (fun d => d.parameters.length) = some 2 := by decide +kernel
def fX4_rounding  (v1 : Int32) (v2 : Int32) (I : TI) (J : TJ) : Option (Int32 × SS) :=
  bnd (fX0_isWorked v1 I J) (fun q_1 I_1 J_1 =>
  if q_1 = 0 then
  some ((-2 : Int32), I_1, J_1)
  else
  if v2 < 0 then
  some ((-2 : Int32), I_1, J_1)
  else
  if v2 ≤ (2 : Int32) then
  if okx v1 then
  some (I_1 5 v1.toNatClampNeg, (uI I_1 5 v1.toNatClampNeg v2), J_1)
  else none
  else
  some ((-2 : Int32), I_1, J_1))
set_option maxHeartbeats 4000000 in
set_option maxRecDepth 100000 in
theorem tX4_rounding {p : Program} {l : Launch} {e : Env} {s : State} {m : MethodId} {args : Array Value} {below : List Frame} {meth : Method} {c : Code} (C : KX p s m args meth c "BitTuner" cX4_rounding 5 (some .int)) {D : va_G} {cI cJ cV : ClassId} {ad : Nat → Nat} {z : Int32 × SS}   {H : Heap} {locs : List Loc} {ls : Array Slot} {I : TI} {J : TJ} {v1 : Int32} {v2 : Int32} (hB : XB D cI cJ cV ad s H locs I J)  (hl : lv_has ls 5 [(0, .ref (ad 0)), (1, .int v1), (2, .int v2)]) (h : fX4_rounding v1 v2 I J = some z) : W p l e (rmd 2) s m args below meth c H locs 0 0 (MQ below (gQi D (xw cI cJ cV ad) (xt cI cJ cV) (xL ad) s.heap.size z) args s 0 0 (gA (xL ad) s.heap.size)) (F0 m 0 ls []) := by
  unfold fX4_rounding at h
  refine lv_aload_n C.hx C.hb dX4_rounding_0 rfl (lv_at hl 0 rfl) ?_
  refine xg_t_program C hB tw_186 dX4_rounding_1 ?_
  refine lv_iload_n C.hx C.hb dX4_rounding_4 rfl (lv_at hl 1 rfl) ?_
  obtain ⟨q_1, I_1, J_1, hc_1, h⟩ := bnd_some h
  refine g_goi hB (g_runV C hB [.int v1] [] (cnX0_isWorked l D cI cJ cV ad H.size  hc_1) 1 rfl rfl tw_282 tw_283 tw_284 tw_34 tw_285 ⟨rfl, rfl⟩ hdX0_isWorked ⟨Nat.le_of_ble_eq_true rfl, Nat.le_of_ble_eq_true rfl⟩ hl.1 rfl (Nat.le_of_ble_eq_true rfl) dX4_rounding_5) (fun H locs hB => ?_)
  refine lv_if_eq (tgt := 20) C.hx C.hb dX4_rounding_8 (by decide) (fun c_2 => ?_) (fun c_2 => ?_)
  · replace h := (if_pos c_2).symm.trans h
    refine lv_bipush (v := (-2 : Int32)) C.hx C.hb dX4_rounding_20 (by decide) ?_
    exact g_iret C hB h dX4_rounding_22
  · replace h := (if_neg c_2).symm.trans h
    refine lv_iload_n C.hx C.hb dX4_rounding_11 rfl (lv_at hl 2 rfl) ?_
    refine lv_if_lt (tgt := 20) C.hx C.hb dX4_rounding_12 (by decide) (fun c_3 => ?_) (fun c_3 => ?_)
    · replace h := (if_pos c_3).symm.trans h
      refine lv_bipush (v := (-2 : Int32)) C.hx C.hb dX4_rounding_20 (by decide) ?_
      exact g_iret C hB h dX4_rounding_22
    · replace h := (if_neg c_3).symm.trans h
      refine lv_iload_n C.hx C.hb dX4_rounding_15 rfl (lv_at hl 2 rfl) ?_
      refine lv_iconst (v := (2 : Int32)) C.hx C.hb dX4_rounding_16 (by decide) ?_
      refine lv_icmp_le (tgt := 23) C.hx C.hb dX4_rounding_17 (by decide) (fun c_4 => ?_) (fun c_4 => ?_)
      · replace h := (if_pos c_4).symm.trans h
        refine lv_aload_n C.hx C.hb dX4_rounding_23 rfl (lv_at hl 0 rfl) ?_
        refine xg_t_program C hB tw_186 dX4_rounding_24 ?_
        refine xg_p_values C hB tw_126 dX4_rounding_27 ?_
        refine lv_iload_n C.hx C.hb dX4_rounding_30 rfl (lv_at hl 1 rfl) ?_
        obtain ⟨c_5, h⟩ := ite_ck h
        refine xa_values_ld C hB c_5 dX4_rounding_31 ?_
        refine lv_astore_n (lv' := [(3, .ref (ad (12 + v1.toNatClampNeg))), (0, .ref (ad 0)), (1, .int v1), (2, .int v2)]) C.hx C.hb dX4_rounding_32 rfl hl (by decide) rfl (fun ls hl => ?_)
        refine lv_aload_n C.hx C.hb dX4_rounding_33 rfl (lv_at hl 0 rfl) ?_
        refine xg_v_rounding C hB c_5.2 tw_84 dX4_rounding_34 ?_
        refine lv_istore (lv' := [(4, .int (I_1 5 v1.toNatClampNeg)), (3, .ref (ad (12 + v1.toNatClampNeg))), (0, .ref (ad 0)), (1, .int v1), (2, .int v2)]) C.hx C.hb dX4_rounding_37 hl (by decide) rfl (fun ls hl => ?_)
        refine lv_aload_n C.hx C.hb dX4_rounding_39 rfl (lv_at hl 1 rfl) ?_
        refine lv_iload_n C.hx C.hb dX4_rounding_40 rfl (lv_at hl 4 rfl) ?_
        refine xp_v_rounding C hB c_5.2 tw_84 dX4_rounding_41 (fun H locs hB => ?_)
        refine lv_iload C.hx C.hb dX4_rounding_44 (lv_at hl 0 rfl) ?_
        exact g_iret C hB h dX4_rounding_46
      · replace h := (if_neg c_4).symm.trans h
        refine lv_bipush (v := (-2 : Int32)) C.hx C.hb dX4_rounding_20 (by decide) ?_
        exact g_iret C hB h dX4_rounding_22
set_option maxHeartbeats 4000000 in
set_option maxRecDepth 100000 in
theorem cnX4_rounding (l : Launch) (D : va_G) (cI cJ cV : ClassId) (ad : Nat → Nat) (sz : Nat) {v1 : Int32} {v2 : Int32} {I : TI} {J : TJ} {z : Int32 × SS}  (h : fX4_rounding v1 v2 I J = some z) : Met l yX4_rounding (wsm yX4_rounding cX4_rounding 5 (some .int)) (rmd 2) (va_Pc [.ref (ad 0), .int v1, .int v2] (gPre D (xw cI cJ cV ad) (xt cI cJ cV) sz I J)) (gQi D (xw cI cJ cV ad) (xt cI cJ cV) (xL ad) sz z) 0 0 (gA (xL ad) sz) :=
  g_met (by decide) xw_WL (fun p e s m below meth c hsz C hB ls hl => by subst hsz; exact tX4_rounding C hB  hl h) (Nat.le_of_ble_eq_true rfl)
theorem hdX4_weight : yX4_weight.cls = "BitTuner" ∧ yX4_weight.cls ≠ "java/lang/invoke/MethodHandle" ∧ yX4_weight.cls ≠ "java/lang/invoke/VarHandle" ∧ (parseMethodDescriptor yX4_weight.desc).map (fun d => d.parameters.length) = some 2 := by decide +kernel
def fX4_weight  (v1 : Int32) (v2 : Int32) (I : TI) (J : TJ) : Option (Int32 × SS) :=
  bnd (fX0_isWorked v1 I J) (fun q_1 I_1 J_1 =>
  if q_1 = 0 then
  some ((-2 : Int32), I_1, J_1)
  else
  if v2 < 0 then
  some ((-2 : Int32), I_1, J_1)
  else
  if v2 ≤ (100 : Int32) then
  if okx v1 then
  some (I_1 6 v1.toNatClampNeg, (uI I_1 6 v1.toNatClampNeg v2), J_1)
  else none
  else
  some ((-2 : Int32), I_1, J_1))
set_option maxHeartbeats 4000000 in
set_option maxRecDepth 100000 in
theorem tX4_weight {p : Program} {l : Launch} {e : Env} {s : State} {m : MethodId} {args : Array Value} {below : List Frame} {meth : Method} {c : Code} (C : KX p s m args meth c "BitTuner" cX4_weight 5 (some .int)) {D : va_G} {cI cJ cV : ClassId} {ad : Nat → Nat} {z : Int32 × SS}   {H : Heap} {locs : List Loc} {ls : Array Slot} {I : TI} {J : TJ} {v1 : Int32} {v2 : Int32} (hB : XB D cI cJ cV ad s H locs I J)  (hl : lv_has ls 5 [(0, .ref (ad 0)), (1, .int v1), (2, .int v2)]) (h : fX4_weight v1 v2 I J = some z) : W p l e (rmd 2) s m args below meth c H locs 0 0 (MQ below (gQi D (xw cI cJ cV ad) (xt cI cJ cV) (xL ad) s.heap.size z) args s 0 0 (gA (xL ad) s.heap.size)) (F0 m 0 ls []) := by
  unfold fX4_weight at h
  refine lv_aload_n C.hx C.hb dX4_weight_0 rfl (lv_at hl 0 rfl) ?_
  refine xg_t_program C hB tw_186 dX4_weight_1 ?_
  refine lv_iload_n C.hx C.hb dX4_weight_4 rfl (lv_at hl 1 rfl) ?_
  obtain ⟨q_1, I_1, J_1, hc_1, h⟩ := bnd_some h
  refine g_goi hB (g_runV C hB [.int v1] [] (cnX0_isWorked l D cI cJ cV ad H.size  hc_1) 1 rfl rfl tw_282 tw_283 tw_284 tw_34 tw_285 ⟨rfl, rfl⟩ hdX0_isWorked ⟨Nat.le_of_ble_eq_true rfl, Nat.le_of_ble_eq_true rfl⟩ hl.1 rfl (Nat.le_of_ble_eq_true rfl) dX4_weight_5) (fun H locs hB => ?_)
  refine lv_if_eq (tgt := 21) C.hx C.hb dX4_weight_8 (by decide) (fun c_2 => ?_) (fun c_2 => ?_)
  · replace h := (if_pos c_2).symm.trans h
    refine lv_bipush (v := (-2 : Int32)) C.hx C.hb dX4_weight_21 (by decide) ?_
    exact g_iret C hB h dX4_weight_23
  · replace h := (if_neg c_2).symm.trans h
    refine lv_iload_n C.hx C.hb dX4_weight_11 rfl (lv_at hl 2 rfl) ?_
    refine lv_if_lt (tgt := 21) C.hx C.hb dX4_weight_12 (by decide) (fun c_3 => ?_) (fun c_3 => ?_)
    · replace h := (if_pos c_3).symm.trans h
      refine lv_bipush (v := (-2 : Int32)) C.hx C.hb dX4_weight_21 (by decide) ?_
      exact g_iret C hB h dX4_weight_23
    · replace h := (if_neg c_3).symm.trans h
      refine lv_iload_n C.hx C.hb dX4_weight_15 rfl (lv_at hl 2 rfl) ?_
      refine lv_bipush (v := (100 : Int32)) C.hx C.hb dX4_weight_16 (by decide) ?_
      refine lv_icmp_le (tgt := 24) C.hx C.hb dX4_weight_18 (by decide) (fun c_4 => ?_) (fun c_4 => ?_)
      · replace h := (if_pos c_4).symm.trans h
        refine lv_aload_n C.hx C.hb dX4_weight_24 rfl (lv_at hl 0 rfl) ?_
        refine xg_t_program C hB tw_186 dX4_weight_25 ?_
        refine xg_p_values C hB tw_126 dX4_weight_28 ?_
        refine lv_iload_n C.hx C.hb dX4_weight_31 rfl (lv_at hl 1 rfl) ?_
        obtain ⟨c_5, h⟩ := ite_ck h
        refine xa_values_ld C hB c_5 dX4_weight_32 ?_
        refine lv_astore_n (lv' := [(3, .ref (ad (12 + v1.toNatClampNeg))), (0, .ref (ad 0)), (1, .int v1), (2, .int v2)]) C.hx C.hb dX4_weight_33 rfl hl (by decide) rfl (fun ls hl => ?_)
        refine lv_aload_n C.hx C.hb dX4_weight_34 rfl (lv_at hl 0 rfl) ?_
        refine xg_v_weight C hB c_5.2 tw_87 dX4_weight_35 ?_
        refine lv_istore (lv' := [(4, .int (I_1 6 v1.toNatClampNeg)), (3, .ref (ad (12 + v1.toNatClampNeg))), (0, .ref (ad 0)), (1, .int v1), (2, .int v2)]) C.hx C.hb dX4_weight_38 hl (by decide) rfl (fun ls hl => ?_)
        refine lv_aload_n C.hx C.hb dX4_weight_40 rfl (lv_at hl 1 rfl) ?_
        refine lv_iload_n C.hx C.hb dX4_weight_41 rfl (lv_at hl 4 rfl) ?_
        refine xp_v_weight C hB c_5.2 tw_87 dX4_weight_42 (fun H locs hB => ?_)
        refine lv_iload C.hx C.hb dX4_weight_45 (lv_at hl 0 rfl) ?_
        exact g_iret C hB h dX4_weight_47
      · replace h := (if_neg c_4).symm.trans h
        refine lv_bipush (v := (-2 : Int32)) C.hx C.hb dX4_weight_21 (by decide) ?_
        exact g_iret C hB h dX4_weight_23
set_option maxHeartbeats 4000000 in
set_option maxRecDepth 100000 in
theorem cnX4_weight (l : Launch) (D : va_G) (cI cJ cV : ClassId) (ad : Nat → Nat) (sz : Nat) {v1 : Int32} {v2 : Int32} {I : TI} {J : TJ} {z : Int32 × SS}  (h : fX4_weight v1 v2 I J = some z) : Met l yX4_weight (wsm yX4_weight cX4_weight 5 (some .int)) (rmd 2) (va_Pc [.ref (ad 0), .int v1, .int v2] (gPre D (xw cI cJ cV ad) (xt cI cJ cV) sz I J)) (gQi D (xw cI cJ cV ad) (xt cI cJ cV) (xL ad) sz z) 0 0 (gA (xL ad) sz) :=
  g_met (by decide) xw_WL (fun p e s m below meth c hsz C hB ls hl => by subst hsz; exact tX4_weight C hB  hl h) (Nat.le_of_ble_eq_true rfl)
theorem hdX4_about : yX4_about.cls = "BitTuner" ∧ yX4_about.cls ≠ "java/lang/invoke/MethodHandle" ∧ yX4_about.cls ≠ "java/lang/invoke/VarHandle" ∧ (parseMethodDescriptor yX4_about.desc).map (fun d => d.parameters.length) = some 2 := by decide +kernel
def fX4_about  (v1 : Int32) (v2 : Int32) (I : TI) (J : TJ) : Option (Int64 × SS) :=
  bnd (fX0_has v1 I J) (fun q_1 I_1 J_1 =>
  if q_1 = 0 then
  bnd (fX4_refusal (-2 : Int32) I_1 J_1) (fun q_16 I_16 J_16 =>
  some (q_16, I_16, J_16))
  else
  if okx v1 then
  if v2 = 0 then
  some ((I_1 0 v1.toNatClampNeg).toInt64, I_1, J_1)
  else
  if v2 = 1 then
  some ((I_1 1 v1.toNatClampNeg).toInt64, I_1, J_1)
  else
  if v2 = 2 then
  some ((I_1 2 v1.toNatClampNeg).toInt64, I_1, J_1)
  else
  if v2 = 3 then
  some ((I_1 3 v1.toNatClampNeg).toInt64, I_1, J_1)
  else
  if v2 = 4 then
  some ((I_1 4 v1.toNatClampNeg).toInt64, I_1, J_1)
  else
  if v2 = 5 then
  some ((I_1 5 v1.toNatClampNeg).toInt64, I_1, J_1)
  else
  if v2 = 6 then
  some ((I_1 6 v1.toNatClampNeg).toInt64, I_1, J_1)
  else
  if v2 = 7 then
  some (J_1 0 v1.toNatClampNeg, I_1, J_1)
  else
  if v2 = 8 then
  some (J_1 1 v1.toNatClampNeg, I_1, J_1)
  else
  if v2 = 9 then
  bnd (fX3_boundAsTold v1 I_1 J_1) (fun q_14 I_14 J_14 =>
  some (q_14, I_14, J_14))
  else
  bnd (fX4_refusal (-2 : Int32) I_1 J_1) (fun q_15 I_15 J_15 =>
  some (q_15, I_15, J_15))
  else none)
set_option maxHeartbeats 4000000 in
set_option maxRecDepth 100000 in
theorem tX4_about {p : Program} {l : Launch} {e : Env} {s : State} {m : MethodId} {args : Array Value} {below : List Frame} {meth : Method} {c : Code} (C : KX p s m args meth c "BitTuner" cX4_about 4 (some .long)) {D : va_G} {cI cJ cV : ClassId} {ad : Nat → Nat} {z : Int64 × SS}   {H : Heap} {locs : List Loc} {ls : Array Slot} {I : TI} {J : TJ} {v1 : Int32} {v2 : Int32} (hB : XB D cI cJ cV ad s H locs I J)  (hl : lv_has ls 4 [(0, .ref (ad 0)), (1, .int v1), (2, .int v2)]) (h : fX4_about v1 v2 I J = some z) : W p l e (rmd 4) s m args below meth c H locs 0 0 (MQ below (gQl D (xw cI cJ cV ad) (xt cI cJ cV) (xL ad) s.heap.size z) args s 0 0 (gA (xL ad) s.heap.size)) (F0 m 0 ls []) := by
  unfold fX4_about at h
  refine lv_aload_n C.hx C.hb dX4_about_0 rfl (lv_at hl 0 rfl) ?_
  refine xg_t_program C hB tw_186 dX4_about_1 ?_
  refine lv_iload_n C.hx C.hb dX4_about_4 rfl (lv_at hl 1 rfl) ?_
  obtain ⟨q_1, I_1, J_1, hc_1, h⟩ := bnd_some h
  refine g_goi hB (g_runV C hB [.int v1] [] (cnX0_has l D cI cJ cV ad H.size  hc_1) 1 rfl rfl tw_234 tw_235 tw_236 tw_34 tw_237 ⟨rfl, rfl⟩ hdX0_has ⟨Nat.le_of_ble_eq_true rfl, Nat.le_of_ble_eq_true rfl⟩ hl.1 rfl (Nat.le_of_ble_eq_true rfl) dX4_about_5) (fun H locs hB => ?_)
  refine lv_if_ne (tgt := 17) C.hx C.hb dX4_about_8 (by decide) (fun c_2 => ?_) (fun c_2 => ?_)
  · replace h := (if_neg c_2).symm.trans h
    refine lv_aload_n C.hx C.hb dX4_about_17 rfl (lv_at hl 0 rfl) ?_
    refine xg_t_program C hB tw_186 dX4_about_18 ?_
    refine xg_p_values C hB tw_126 dX4_about_21 ?_
    refine lv_iload_n C.hx C.hb dX4_about_24 rfl (lv_at hl 1 rfl) ?_
    obtain ⟨c_3, h⟩ := ite_ck h
    refine xa_values_ld C hB c_3 dX4_about_25 ?_
    refine lv_astore_n (lv' := [(3, .ref (ad (12 + v1.toNatClampNeg))), (0, .ref (ad 0)), (1, .int v1), (2, .int v2)]) C.hx C.hb dX4_about_26 rfl hl (by decide) rfl (fun ls hl => ?_)
    refine lv_iload_n C.hx C.hb dX4_about_27 rfl (lv_at hl 3 rfl) ?_
    by_cases c_4 : v2 = 0
    · replace h := (if_pos c_4).symm.trans h
      refine lv_tableIn (x := v2) (tgt := 84) (off := 56) C.hx C.hb dX4_about_28 (by rw [c_4]; decide) (by rw [c_4]; decide) (by rw [c_4]; rfl) (by decide) ?_
      refine lv_aload_n C.hx C.hb dX4_about_84 rfl (lv_at hl 0 rfl) ?_
      refine xg_v_kind C hB c_3.2 tw_65 dX4_about_85 ?_
      refine lv_i2l C.hx C.hb dX4_about_88 rfl ?_
      exact g_lret C hB h dX4_about_89
    · replace h := (if_neg c_4).symm.trans h
      by_cases c_5 : v2 = 1
      · replace h := (if_pos c_5).symm.trans h
        refine lv_tableIn (x := v2) (tgt := 90) (off := 62) C.hx C.hb dX4_about_28 (by rw [c_5]; decide) (by rw [c_5]; decide) (by rw [c_5]; rfl) (by decide) ?_
        refine lv_aload_n C.hx C.hb dX4_about_90 rfl (lv_at hl 0 rfl) ?_
        refine xg_v_a C hB c_3.2 tw_69 dX4_about_91 ?_
        refine lv_i2l C.hx C.hb dX4_about_94 rfl ?_
        exact g_lret C hB h dX4_about_95
      · replace h := (if_neg c_5).symm.trans h
        by_cases c_6 : v2 = 2
        · replace h := (if_pos c_6).symm.trans h
          refine lv_tableIn (x := v2) (tgt := 96) (off := 68) C.hx C.hb dX4_about_28 (by rw [c_6]; decide) (by rw [c_6]; decide) (by rw [c_6]; rfl) (by decide) ?_
          refine lv_aload_n C.hx C.hb dX4_about_96 rfl (lv_at hl 0 rfl) ?_
          refine xg_v_b C hB c_3.2 tw_73 dX4_about_97 ?_
          refine lv_i2l C.hx C.hb dX4_about_100 rfl ?_
          exact g_lret C hB h dX4_about_101
        · replace h := (if_neg c_6).symm.trans h
          by_cases c_7 : v2 = 3
          · replace h := (if_pos c_7).symm.trans h
            refine lv_tableIn (x := v2) (tgt := 102) (off := 74) C.hx C.hb dX4_about_28 (by rw [c_7]; decide) (by rw [c_7]; decide) (by rw [c_7]; rfl) (by decide) ?_
            refine lv_aload_n C.hx C.hb dX4_about_102 rfl (lv_at hl 0 rfl) ?_
            refine xg_v_degree C hB c_3.2 tw_76 dX4_about_103 ?_
            refine lv_i2l C.hx C.hb dX4_about_106 rfl ?_
            exact g_lret C hB h dX4_about_107
          · replace h := (if_neg c_7).symm.trans h
            by_cases c_8 : v2 = 4
            · replace h := (if_pos c_8).symm.trans h
              refine lv_tableIn (x := v2) (tgt := 108) (off := 80) C.hx C.hb dX4_about_28 (by rw [c_8]; decide) (by rw [c_8]; decide) (by rw [c_8]; rfl) (by decide) ?_
              refine lv_aload_n C.hx C.hb dX4_about_108 rfl (lv_at hl 0 rfl) ?_
              refine xg_v_bits C hB c_3.2 tw_79 dX4_about_109 ?_
              refine lv_i2l C.hx C.hb dX4_about_112 rfl ?_
              exact g_lret C hB h dX4_about_113
            · replace h := (if_neg c_8).symm.trans h
              by_cases c_9 : v2 = 5
              · replace h := (if_pos c_9).symm.trans h
                refine lv_tableIn (x := v2) (tgt := 114) (off := 86) C.hx C.hb dX4_about_28 (by rw [c_9]; decide) (by rw [c_9]; decide) (by rw [c_9]; rfl) (by decide) ?_
                refine lv_aload_n C.hx C.hb dX4_about_114 rfl (lv_at hl 0 rfl) ?_
                refine xg_v_rounding C hB c_3.2 tw_84 dX4_about_115 ?_
                refine lv_i2l C.hx C.hb dX4_about_118 rfl ?_
                exact g_lret C hB h dX4_about_119
              · replace h := (if_neg c_9).symm.trans h
                by_cases c_10 : v2 = 6
                · replace h := (if_pos c_10).symm.trans h
                  refine lv_tableIn (x := v2) (tgt := 120) (off := 92) C.hx C.hb dX4_about_28 (by rw [c_10]; decide) (by rw [c_10]; decide) (by rw [c_10]; rfl) (by decide) ?_
                  refine lv_aload_n C.hx C.hb dX4_about_120 rfl (lv_at hl 0 rfl) ?_
                  refine xg_v_weight C hB c_3.2 tw_87 dX4_about_121 ?_
                  refine lv_i2l C.hx C.hb dX4_about_124 rfl ?_
                  exact g_lret C hB h dX4_about_125
                · replace h := (if_neg c_10).symm.trans h
                  by_cases c_11 : v2 = 7
                  · replace h := (if_pos c_11).symm.trans h
                    refine lv_tableIn (x := v2) (tgt := 126) (off := 98) C.hx C.hb dX4_about_28 (by rw [c_11]; decide) (by rw [c_11]; decide) (by rw [c_11]; rfl) (by decide) ?_
                    refine lv_aload_n C.hx C.hb dX4_about_126 rfl (lv_at hl 0 rfl) ?_
                    refine xg_v_low C hB c_3.2 tw_92 dX4_about_127 ?_
                    exact g_lret C hB h dX4_about_130
                  · replace h := (if_neg c_11).symm.trans h
                    by_cases c_12 : v2 = 8
                    · replace h := (if_pos c_12).symm.trans h
                      refine lv_tableIn (x := v2) (tgt := 131) (off := 103) C.hx C.hb dX4_about_28 (by rw [c_12]; decide) (by rw [c_12]; decide) (by rw [c_12]; rfl) (by decide) ?_
                      refine lv_aload_n C.hx C.hb dX4_about_131 rfl (lv_at hl 0 rfl) ?_
                      refine xg_v_high C hB c_3.2 tw_95 dX4_about_132 ?_
                      exact g_lret C hB h dX4_about_135
                    · replace h := (if_neg c_12).symm.trans h
                      by_cases c_13 : v2 = 9
                      · replace h := (if_pos c_13).symm.trans h
                        refine lv_tableIn (x := v2) (tgt := 136) (off := 108) C.hx C.hb dX4_about_28 (by rw [c_13]; decide) (by rw [c_13]; decide) (by rw [c_13]; rfl) (by decide) ?_
                        refine lv_aload_n C.hx C.hb dX4_about_136 rfl (lv_at hl 1 rfl) ?_
                        refine xg_t_widths C hB tw_188 dX4_about_137 ?_
                        refine lv_iload_n C.hx C.hb dX4_about_140 rfl (lv_at hl 2 rfl) ?_
                        obtain ⟨q_14, I_14, J_14, hc_14, h⟩ := bnd_some h
                        refine g_gol hB (g_runV C hB [.int v1] [] (cnX3_boundAsTold l D cI cJ cV ad H.size  hc_14) 4 rfl rfl tw_307 tw_308 tw_309 tw_37 tw_310 ⟨rfl, rfl⟩ hdX3_boundAsTold ⟨Nat.le_of_ble_eq_true rfl, Nat.le_of_ble_eq_true rfl⟩ hl.1 rfl (Nat.le_of_ble_eq_true rfl) dX4_about_141) (fun H locs hB => ?_)
                        exact g_lret C hB h dX4_about_144
                      · replace h := (if_neg c_13).symm.trans h
                        refine lv_tableOut (x := v2) (tgt := 145) C.hx C.hb dX4_about_28 (by have z0 := ts_ne (k := 0) (0 : Int32) rfl c_4; have z1 := ts_ne (k := 1) (1 : Int32) rfl c_5; have z2 := ts_ne (k := 2) (2 : Int32) rfl c_6; have z3 := ts_ne (k := 3) (3 : Int32) rfl c_7; have z4 := ts_ne (k := 4) (4 : Int32) rfl c_8; have z5 := ts_ne (k := 5) (5 : Int32) rfl c_9; have z6 := ts_ne (k := 6) (6 : Int32) rfl c_10; have z7 := ts_ne (k := 7) (7 : Int32) rfl c_11; have z8 := ts_ne (k := 8) (8 : Int32) rfl c_12; have z9 := ts_ne (k := 9) (9 : Int32) rfl c_13; omega) (by decide) ?_
                        refine lv_bipush (v := (-2 : Int32)) C.hx C.hb dX4_about_145 (by decide) ?_
                        obtain ⟨q_15, I_15, J_15, hc_15, h⟩ := bnd_some h
                        refine g_gol hB (g_runS C hB [.int (-2 : Int32)] [] (cnX4_refusal l D cI cJ cV ad H.size  hc_15) tw_303 tw_304 tw_33 tw_305 ⟨rfl, rfl⟩ hdX4_refusal ⟨Nat.le_of_ble_eq_true rfl, Nat.le_of_ble_eq_true rfl⟩ hl.1 rfl (Nat.le_of_ble_eq_true rfl) dX4_about_147) (fun H locs hB => ?_)
                        exact g_lret C hB h dX4_about_150
  · replace h := (if_pos c_2).symm.trans h
    refine lv_bipush (v := (-2 : Int32)) C.hx C.hb dX4_about_11 (by decide) ?_
    obtain ⟨q_16, I_16, J_16, hc_16, h⟩ := bnd_some h
    refine g_gol hB (g_runS C hB [.int (-2 : Int32)] [] (cnX4_refusal l D cI cJ cV ad H.size  hc_16) tw_303 tw_304 tw_33 tw_305 ⟨rfl, rfl⟩ hdX4_refusal ⟨Nat.le_of_ble_eq_true rfl, Nat.le_of_ble_eq_true rfl⟩ hl.1 rfl (Nat.le_of_ble_eq_true rfl) dX4_about_13) (fun H locs hB => ?_)
    exact g_lret C hB h dX4_about_16
set_option maxHeartbeats 4000000 in
set_option maxRecDepth 100000 in
theorem cnX4_about (l : Launch) (D : va_G) (cI cJ cV : ClassId) (ad : Nat → Nat) (sz : Nat) {v1 : Int32} {v2 : Int32} {I : TI} {J : TJ} {z : Int64 × SS}  (h : fX4_about v1 v2 I J = some z) : Met l yX4_about (wsm yX4_about cX4_about 4 (some .long)) (rmd 4) (va_Pc [.ref (ad 0), .int v1, .int v2] (gPre D (xw cI cJ cV ad) (xt cI cJ cV) sz I J)) (gQl D (xw cI cJ cV ad) (xt cI cJ cV) (xL ad) sz z) 0 0 (gA (xL ad) sz) :=
  g_met (by decide) xw_WL (fun p e s m below meth c hsz C hB ls hl => by subst hsz; exact tX4_about C hB  hl h) (Nat.le_of_ble_eq_true rfl)
theorem hdX4_price : yX4_price.cls = "BitTuner" ∧ yX4_price.cls ≠ "java/lang/invoke/MethodHandle" ∧ yX4_price.cls ≠ "java/lang/invoke/VarHandle" ∧ (parseMethodDescriptor yX4_price.desc).map (fun d => d.parameters.length) = some 0 := by decide +kernel
def fX4_price   (I : TI) (J : TJ) : Option (Int32 × SS) :=
  bnd (fX0_priceInAll I J) (fun q_1 I_1 J_1 =>
  some (q_1, I_1, J_1))
set_option maxHeartbeats 4000000 in
set_option maxRecDepth 100000 in
theorem tX4_price {p : Program} {l : Launch} {e : Env} {s : State} {m : MethodId} {args : Array Value} {below : List Frame} {meth : Method} {c : Code} (C : KX p s m args meth c "BitTuner" cX4_price 1 (some .int)) {D : va_G} {cI cJ cV : ClassId} {ad : Nat → Nat} {z : Int32 × SS}   {H : Heap} {locs : List Loc} {ls : Array Slot} {I : TI} {J : TJ}  (hB : XB D cI cJ cV ad s H locs I J)  (hl : lv_has ls 1 [(0, .ref (ad 0))]) (h : fX4_price I J = some z) : W p l e (rmd 2) s m args below meth c H locs 0 0 (MQ below (gQi D (xw cI cJ cV ad) (xt cI cJ cV) (xL ad) s.heap.size z) args s 0 0 (gA (xL ad) s.heap.size)) (F0 m 0 ls []) := by
  unfold fX4_price at h
  refine lv_aload_n C.hx C.hb dX4_price_0 rfl (lv_at hl 0 rfl) ?_
  refine xg_t_program C hB tw_186 dX4_price_1 ?_
  obtain ⟨q_1, I_1, J_1, hc_1, h⟩ := bnd_some h
  refine g_goi hB (g_runV C hB [] [] (cnX0_priceInAll l D cI cJ cV ad H.size  hc_1) 1 rfl rfl tw_342 tw_343 tw_344 tw_34 tw_345 ⟨rfl, rfl⟩ hdX0_priceInAll ⟨Nat.le_of_ble_eq_true rfl, Nat.le_of_ble_eq_true rfl⟩ hl.1 rfl (Nat.le_of_ble_eq_true rfl) dX4_price_4) (fun H locs hB => ?_)
  exact g_iret C hB h dX4_price_7
set_option maxHeartbeats 4000000 in
set_option maxRecDepth 100000 in
theorem cnX4_price (l : Launch) (D : va_G) (cI cJ cV : ClassId) (ad : Nat → Nat) (sz : Nat)  {I : TI} {J : TJ} {z : Int32 × SS}  (h : fX4_price I J = some z) : Met l yX4_price (wsm yX4_price cX4_price 1 (some .int)) (rmd 2) (va_Pc [.ref (ad 0)] (gPre D (xw cI cJ cV ad) (xt cI cJ cV) sz I J)) (gQi D (xw cI cJ cV ad) (xt cI cJ cV) (xL ad) sz z) 0 0 (gA (xL ad) sz) :=
  g_met (by decide) xw_WL (fun p e s m below meth c hsz C hB ls hl => by subst hsz; exact tX4_price C hB  hl h) (Nat.le_of_ble_eq_true rfl)
theorem hdX4_set : yX4_set.cls = "BitTuner" ∧ yX4_set.cls ≠ "java/lang/invoke/MethodHandle" ∧ yX4_set.cls ≠ "java/lang/invoke/VarHandle" ∧ (parseMethodDescriptor yX4_set.desc).map (fun d => d.parameters.length) = some 2 := by decide +kernel
def fX4_set  (v1 : Int32) (v2 : Int32) (I : TI) (J : TJ) : Option (Int32 × SS) :=
  bnd (fX0_isInput v1 I J) (fun q_1 I_1 J_1 =>
  if q_1 = 0 then
  some ((-2 : Int32), I_1, J_1)
  else
  bnd (fX4_isStep v2 I_1 J_1) (fun q_3 I_3 J_3 =>
  if q_3 = 0 then
  some ((-2 : Int32), I_3, J_3)
  else
  if okx v1 then
  if v2.toInt64 < (J_3 0 v1.toNatClampNeg) then
  some ((-2 : Int32), I_3, J_3)
  else
  if v2.toInt64 ≤ (J_3 1 v1.toNatClampNeg) then
  some ((1 : Int32), (uI I_3 7 v1.toNatClampNeg v2), J_3)
  else
  some ((-2 : Int32), I_3, J_3)
  else none))
set_option maxHeartbeats 4000000 in
set_option maxRecDepth 100000 in
theorem tX4_set {p : Program} {l : Launch} {e : Env} {s : State} {m : MethodId} {args : Array Value} {below : List Frame} {meth : Method} {c : Code} (C : KX p s m args meth c "BitTuner" cX4_set 4 (some .int)) {D : va_G} {cI cJ cV : ClassId} {ad : Nat → Nat} {z : Int32 × SS}   {H : Heap} {locs : List Loc} {ls : Array Slot} {I : TI} {J : TJ} {v1 : Int32} {v2 : Int32} (hB : XB D cI cJ cV ad s H locs I J)  (hl : lv_has ls 4 [(0, .ref (ad 0)), (1, .int v1), (2, .int v2)]) (h : fX4_set v1 v2 I J = some z) : W p l e (rmd 2) s m args below meth c H locs 0 0 (MQ below (gQi D (xw cI cJ cV ad) (xt cI cJ cV) (xL ad) s.heap.size z) args s 0 0 (gA (xL ad) s.heap.size)) (F0 m 0 ls []) := by
  unfold fX4_set at h
  refine lv_aload_n C.hx C.hb dX4_set_0 rfl (lv_at hl 0 rfl) ?_
  refine xg_t_program C hB tw_186 dX4_set_1 ?_
  refine lv_iload_n C.hx C.hb dX4_set_4 rfl (lv_at hl 1 rfl) ?_
  obtain ⟨q_1, I_1, J_1, hc_1, h⟩ := bnd_some h
  refine g_goi hB (g_runV C hB [.int v1] [] (cnX0_isInput l D cI cJ cV ad H.size  hc_1) 1 rfl rfl tw_350 tw_351 tw_352 tw_34 tw_353 ⟨rfl, rfl⟩ hdX0_isInput ⟨Nat.le_of_ble_eq_true rfl, Nat.le_of_ble_eq_true rfl⟩ hl.1 rfl (Nat.le_of_ble_eq_true rfl) dX4_set_5) (fun H locs hB => ?_)
  refine lv_if_eq (tgt := 18) C.hx C.hb dX4_set_8 (by decide) (fun c_2 => ?_) (fun c_2 => ?_)
  · replace h := (if_pos c_2).symm.trans h
    refine lv_bipush (v := (-2 : Int32)) C.hx C.hb dX4_set_18 (by decide) ?_
    exact g_iret C hB h dX4_set_20
  · replace h := (if_neg c_2).symm.trans h
    refine lv_iload_n C.hx C.hb dX4_set_11 rfl (lv_at hl 2 rfl) ?_
    obtain ⟨q_3, I_3, J_3, hc_3, h⟩ := bnd_some h
    refine g_goi hB (g_runS C hB [.int v2] [] (cnX4_isStep l D cI cJ cV ad H.size  hc_3) tw_203 tw_204 tw_33 tw_205 ⟨rfl, rfl⟩ hdX4_isStep ⟨Nat.le_of_ble_eq_true rfl, Nat.le_of_ble_eq_true rfl⟩ hl.1 rfl (Nat.le_of_ble_eq_true rfl) dX4_set_12) (fun H locs hB => ?_)
    refine lv_if_ne (tgt := 21) C.hx C.hb dX4_set_15 (by decide) (fun c_4 => ?_) (fun c_4 => ?_)
    · replace h := (if_neg c_4).symm.trans h
      refine lv_aload_n C.hx C.hb dX4_set_21 rfl (lv_at hl 0 rfl) ?_
      refine xg_t_program C hB tw_186 dX4_set_22 ?_
      refine xg_p_values C hB tw_126 dX4_set_25 ?_
      refine lv_iload_n C.hx C.hb dX4_set_28 rfl (lv_at hl 1 rfl) ?_
      obtain ⟨c_5, h⟩ := ite_ck h
      refine xa_values_ld C hB c_5 dX4_set_29 ?_
      refine lv_astore_n (lv' := [(3, .ref (ad (12 + v1.toNatClampNeg))), (0, .ref (ad 0)), (1, .int v1), (2, .int v2)]) C.hx C.hb dX4_set_30 rfl hl (by decide) rfl (fun ls hl => ?_)
      refine lv_iload_n C.hx C.hb dX4_set_31 rfl (lv_at hl 3 rfl) ?_
      refine lv_i2l C.hx C.hb dX4_set_32 rfl ?_
      refine lv_aload_n C.hx C.hb dX4_set_33 rfl (lv_at hl 0 rfl) ?_
      refine xg_v_low C hB c_5.2 tw_92 dX4_set_34 ?_
      refine g_lcmp_lt C (tgt := 51) dX4_set_37 dX4_set_38 (by decide) (fun c_6 => ?_) (fun c_6 => ?_)
      · replace h := (if_pos c_6).symm.trans h
        refine lv_bipush (v := (-2 : Int32)) C.hx C.hb dX4_set_51 (by decide) ?_
        exact g_iret C hB h dX4_set_53
      · replace h := (if_neg c_6).symm.trans h
        refine lv_iload_n C.hx C.hb dX4_set_41 rfl (lv_at hl 3 rfl) ?_
        refine lv_i2l C.hx C.hb dX4_set_42 rfl ?_
        refine lv_aload_n C.hx C.hb dX4_set_43 rfl (lv_at hl 0 rfl) ?_
        refine xg_v_high C hB c_5.2 tw_95 dX4_set_44 ?_
        refine g_lcmp_le C (tgt := 54) dX4_set_47 dX4_set_48 (by decide) (fun c_7 => ?_) (fun c_7 => ?_)
        · replace h := (if_pos c_7).symm.trans h
          refine lv_aload_n C.hx C.hb dX4_set_54 rfl (lv_at hl 0 rfl) ?_
          refine lv_iload_n C.hx C.hb dX4_set_55 rfl (lv_at hl 3 rfl) ?_
          refine xp_v_units C hB c_5.2 tw_100 dX4_set_56 (fun H locs hB => ?_)
          refine lv_iconst (v := (1 : Int32)) C.hx C.hb dX4_set_59 (by decide) ?_
          exact g_iret C hB h dX4_set_60
        · replace h := (if_neg c_7).symm.trans h
          refine lv_bipush (v := (-2 : Int32)) C.hx C.hb dX4_set_51 (by decide) ?_
          exact g_iret C hB h dX4_set_53
    · replace h := (if_pos c_4).symm.trans h
      refine lv_bipush (v := (-2 : Int32)) C.hx C.hb dX4_set_18 (by decide) ?_
      exact g_iret C hB h dX4_set_20
set_option maxHeartbeats 4000000 in
set_option maxRecDepth 100000 in
theorem cnX4_set (l : Launch) (D : va_G) (cI cJ cV : ClassId) (ad : Nat → Nat) (sz : Nat) {v1 : Int32} {v2 : Int32} {I : TI} {J : TJ} {z : Int32 × SS}  (h : fX4_set v1 v2 I J = some z) : Met l yX4_set (wsm yX4_set cX4_set 4 (some .int)) (rmd 2) (va_Pc [.ref (ad 0), .int v1, .int v2] (gPre D (xw cI cJ cV ad) (xt cI cJ cV) sz I J)) (gQi D (xw cI cJ cV ad) (xt cI cJ cV) (xL ad) sz z) 0 0 (gA (xL ad) sz) :=
  g_met (by decide) xw_WL (fun p e s m below meth c hsz C hB ls hl => by subst hsz; exact tX4_set C hB  hl h) (Nat.le_of_ble_eq_true rfl)
theorem hdX4_enter : yX4_enter.cls = "BitTuner" ∧ yX4_enter.cls ≠ "java/lang/invoke/MethodHandle" ∧ yX4_enter.cls ≠ "java/lang/invoke/VarHandle" ∧ (parseMethodDescriptor yX4_enter.desc).map (fun d => d.parameters.length) = some 2 := by decide +kernel
def fX4_enter  (v1 : Int32) (v2 : UInt64) (I : TI) (J : TJ) : Option (Int32 × SS) :=
  if (Op.cmpValue (FP.dcmp v2 (13857576053419016192 : UInt64)) CmpOp.l) < 0 then
  some ((-2 : Int32), I, J)
  else
  if (Op.cmpValue (FP.dcmp v2 (4634204016564240384 : UInt64)) CmpOp.g) ≤ 0 then
  if okd (FP.dmul v2 (4625196817309499392 : UInt64)) then
  if (Op.cmpValue (FP.dcmp (FP.i2d (FP.d2i (FP.dmul v2 (4625196817309499392 : UInt64)))) (FP.dmul v2 (4625196817309499392 : UInt64))) CmpOp.l) = 0 then
  bnd (fX4_set v1 ((FP.d2i (FP.dmul v2 (4625196817309499392 : UInt64))) * (4096 : Int32)) I J) (fun q_5 I_5 J_5 =>
  some (q_5, I_5, J_5))
  else
  some ((-2 : Int32), I, J)
  else none
  else
  some ((-2 : Int32), I, J)
set_option maxHeartbeats 4000000 in
set_option maxRecDepth 100000 in
theorem tX4_enter {p : Program} {l : Launch} {e : Env} {s : State} {m : MethodId} {args : Array Value} {below : List Frame} {meth : Method} {c : Code} (C : KX p s m args meth c "BitTuner" cX4_enter 7 (some .int)) {D : va_G} {cI cJ cV : ClassId} {ad : Nat → Nat} {z : Int32 × SS}   {H : Heap} {locs : List Loc} {ls : Array Slot} {I : TI} {J : TJ} {v1 : Int32} {v2 : UInt64} (hB : XB D cI cJ cV ad s H locs I J)  (hl : lv_has ls 7 [(0, .ref (ad 0)), (1, .int v1), (2, .double v2)]) (h : fX4_enter v1 v2 I J = some z) : W p l e (rmd 3) s m args below meth c H locs 0 0 (MQ below (gQi D (xw cI cJ cV ad) (xt cI cJ cV) (xL ad) s.heap.size z) args s 0 0 (gA (xL ad) s.heap.size)) (F0 m 0 ls []) := by
  unfold fX4_enter at h
  refine lv_dload_n C.hx C.hb dX4_enter_0 rfl (lv_at hl 2 rfl) ?_
  refine lv_ldc2d C.hx C.hb C.hown (C.hts _ tw_358) dX4_enter_1 ?_
  refine lv_dcmp C.hx C.hb dX4_enter_4 ?_
  refine lv_if_lt (tgt := 16) C.hx C.hb dX4_enter_5 (by decide) (fun c_1 => ?_) (fun c_1 => ?_)
  · replace h := (if_pos c_1).symm.trans h
    refine lv_bipush (v := (-2 : Int32)) C.hx C.hb dX4_enter_16 (by decide) ?_
    exact g_iret C hB h dX4_enter_18
  · replace h := (if_neg c_1).symm.trans h
    refine lv_dload_n C.hx C.hb dX4_enter_8 rfl (lv_at hl 2 rfl) ?_
    refine lv_ldc2d C.hx C.hb C.hown (C.hts _ tw_359) dX4_enter_9 ?_
    refine lv_dcmp C.hx C.hb dX4_enter_12 ?_
    refine lv_if_le (tgt := 19) C.hx C.hb dX4_enter_13 (by decide) (fun c_2 => ?_) (fun c_2 => ?_)
    · replace h := (if_pos c_2).symm.trans h
      refine lv_dload_n C.hx C.hb dX4_enter_19 rfl (lv_at hl 2 rfl) ?_
      refine lv_ldc2d C.hx C.hb C.hown (C.hts _ tw_360) dX4_enter_20 ?_
      obtain ⟨c_3, h⟩ := ite_ck h
      refine lv_dmul C.hx C.hb dX4_enter_23 c_3 ?_
      refine lv_dstore (lv' := [(4, .double (FP.dmul v2 (4625196817309499392 : UInt64))), (0, .ref (ad 0)), (1, .int v1), (2, .double v2)]) C.hx C.hb dX4_enter_24 hl (by decide) rfl (fun ls hl => ?_)
      refine lv_dload C.hx C.hb dX4_enter_26 (lv_at hl 0 rfl) ?_
      refine lv_d2i C.hx C.hb dX4_enter_28 ?_
      refine lv_istore (lv' := [(6, .int (FP.d2i (FP.dmul v2 (4625196817309499392 : UInt64)))), (4, .double (FP.dmul v2 (4625196817309499392 : UInt64))), (0, .ref (ad 0)), (1, .int v1), (2, .double v2)]) C.hx C.hb dX4_enter_29 hl (by decide) rfl (fun ls hl => ?_)
      refine lv_iload C.hx C.hb dX4_enter_31 (lv_at hl 0 rfl) ?_
      refine lv_i2d C.hx C.hb dX4_enter_33 ?_
      refine lv_dload C.hx C.hb dX4_enter_34 (lv_at hl 1 rfl) ?_
      refine lv_dcmp C.hx C.hb dX4_enter_36 ?_
      refine lv_if_eq (tgt := 43) C.hx C.hb dX4_enter_37 (by decide) (fun c_4 => ?_) (fun c_4 => ?_)
      · replace h := (if_pos c_4).symm.trans h
        refine lv_aload_n C.hx C.hb dX4_enter_43 rfl (lv_at hl 2 rfl) ?_
        refine lv_iload_n C.hx C.hb dX4_enter_44 rfl (lv_at hl 3 rfl) ?_
        refine lv_iload C.hx C.hb dX4_enter_45 (lv_at hl 0 rfl) ?_
        refine lv_sipush (v := (4096 : Int32)) C.hx C.hb dX4_enter_47 (by decide) ?_
        refine lv_imul C.hx C.hb dX4_enter_50 ?_
        obtain ⟨q_5, I_5, J_5, hc_5, h⟩ := bnd_some h
        refine g_goi hB (g_runV C hB [.int v1, .int ((FP.d2i (FP.dmul v2 (4625196817309499392 : UInt64))) * (4096 : Int32))] [] (cnX4_set l D cI cJ cV ad H.size  hc_5) 0 rfl rfl tw_361 tw_347 tw_348 tw_33 tw_349 ⟨rfl, rfl⟩ hdX4_set ⟨Nat.le_of_ble_eq_true rfl, Nat.le_of_ble_eq_true rfl⟩ hl.1 rfl (Nat.le_of_ble_eq_true rfl) dX4_enter_51) (fun H locs hB => ?_)
        exact g_iret C hB h dX4_enter_54
      · replace h := (if_neg c_4).symm.trans h
        refine lv_bipush (v := (-2 : Int32)) C.hx C.hb dX4_enter_40 (by decide) ?_
        exact g_iret C hB h dX4_enter_42
    · replace h := (if_neg c_2).symm.trans h
      refine lv_bipush (v := (-2 : Int32)) C.hx C.hb dX4_enter_16 (by decide) ?_
      exact g_iret C hB h dX4_enter_18
set_option maxHeartbeats 4000000 in
set_option maxRecDepth 100000 in
theorem cnX4_enter (l : Launch) (D : va_G) (cI cJ cV : ClassId) (ad : Nat → Nat) (sz : Nat) {v1 : Int32} {v2 : UInt64} {I : TI} {J : TJ} {z : Int32 × SS}  (h : fX4_enter v1 v2 I J = some z) : Met l yX4_enter (wsm yX4_enter cX4_enter 7 (some .int)) (rmd 3) (va_Pc [.ref (ad 0), .int v1, .double v2] (gPre D (xw cI cJ cV ad) (xt cI cJ cV) sz I J)) (gQi D (xw cI cJ cV ad) (xt cI cJ cV) (xL ad) sz z) 0 0 (gA (xL ad) sz) :=
  g_met (by decide) xw_WL (fun p e s m below meth c hsz C hB ls hl => by subst hsz; exact tX4_enter C hB  hl h) (Nat.le_of_ble_eq_true rfl)
theorem hdX4_exact : yX4_exact.cls = "BitTuner" ∧ yX4_exact.cls ≠ "java/lang/invoke/MethodHandle" ∧ yX4_exact.cls ≠ "java/lang/invoke/VarHandle" ∧ (parseMethodDescriptor yX4_exact.desc).map (fun d => d.parameters.length) = some 1 := by decide +kernel
def fX4_exact  (v1 : Int32) (I : TI) (J : TJ) : Option (Int64 × SS) :=
  bnd (fX0_has v1 I J) (fun q_1 I_1 J_1 =>
  if q_1 = 0 then
  bnd (fX4_refusal (-2 : Int32) I_1 J_1) (fun q_5 I_5 J_5 =>
  some (q_5, I_5, J_5))
  else
  bnd (fX1_workOutAsSet v1 I_1 J_1) (fun q_3 I_3 J_3 =>
  if okx v1 then
  some (J_3 3 v1.toNatClampNeg, I_3, J_3)
  else none))
set_option maxHeartbeats 4000000 in
set_option maxRecDepth 100000 in
theorem tX4_exact {p : Program} {l : Launch} {e : Env} {s : State} {m : MethodId} {args : Array Value} {below : List Frame} {meth : Method} {c : Code} (C : KX p s m args meth c "BitTuner" cX4_exact 2 (some .long)) {D : va_G} {cI cJ cV : ClassId} {ad : Nat → Nat} {z : Int64 × SS}   {H : Heap} {locs : List Loc} {ls : Array Slot} {I : TI} {J : TJ} {v1 : Int32} (hB : XB D cI cJ cV ad s H locs I J)  (hl : lv_has ls 2 [(0, .ref (ad 0)), (1, .int v1)]) (h : fX4_exact v1 I J = some z) : W p l e (rmd 5) s m args below meth c H locs 0 0 (MQ below (gQl D (xw cI cJ cV ad) (xt cI cJ cV) (xL ad) s.heap.size z) args s 0 0 (gA (xL ad) s.heap.size)) (F0 m 0 ls []) := by
  unfold fX4_exact at h
  refine lv_aload_n C.hx C.hb dX4_exact_0 rfl (lv_at hl 0 rfl) ?_
  refine xg_t_program C hB tw_186 dX4_exact_1 ?_
  refine lv_iload_n C.hx C.hb dX4_exact_4 rfl (lv_at hl 1 rfl) ?_
  obtain ⟨q_1, I_1, J_1, hc_1, h⟩ := bnd_some h
  refine g_goi hB (g_runV C hB [.int v1] [] (cnX0_has l D cI cJ cV ad H.size  hc_1) 1 rfl rfl tw_234 tw_235 tw_236 tw_34 tw_237 ⟨rfl, rfl⟩ hdX0_has ⟨Nat.le_of_ble_eq_true rfl, Nat.le_of_ble_eq_true rfl⟩ hl.1 rfl (Nat.le_of_ble_eq_true rfl) dX4_exact_5) (fun H locs hB => ?_)
  refine lv_if_ne (tgt := 17) C.hx C.hb dX4_exact_8 (by decide) (fun c_2 => ?_) (fun c_2 => ?_)
  · replace h := (if_neg c_2).symm.trans h
    refine lv_aload_n C.hx C.hb dX4_exact_17 rfl (lv_at hl 0 rfl) ?_
    refine xg_t_runs C hB tw_187 dX4_exact_18 ?_
    refine lv_iload_n C.hx C.hb dX4_exact_21 rfl (lv_at hl 1 rfl) ?_
    obtain ⟨q_3, I_3, J_3, hc_3, h⟩ := bnd_some h
    refine g_gov hB (g_runV C hB [.int v1] [] (cnX1_workOutAsSet l D cI cJ cV ad H.size  hc_3) 3 rfl rfl tw_366 tw_367 tw_368 tw_36 tw_369 ⟨rfl, rfl⟩ hdX1_workOutAsSet ⟨Nat.le_of_ble_eq_true rfl, Nat.le_of_ble_eq_true rfl⟩ hl.1 rfl (Nat.le_of_ble_eq_true rfl) dX4_exact_22) (fun H locs hB => ?_)
    refine lv_aload_n C.hx C.hb dX4_exact_25 rfl (lv_at hl 0 rfl) ?_
    refine xg_t_runs C hB tw_187 dX4_exact_26 ?_
    refine xg_r_exacts C hB tw_146 dX4_exact_29 ?_
    refine lv_iload_n C.hx C.hb dX4_exact_32 rfl (lv_at hl 1 rfl) ?_
    obtain ⟨c_4, h⟩ := ite_ck h
    refine xa_exacts_ld C hB c_4 dX4_exact_33 ?_
    exact g_lret C hB h dX4_exact_34
  · replace h := (if_pos c_2).symm.trans h
    refine lv_bipush (v := (-2 : Int32)) C.hx C.hb dX4_exact_11 (by decide) ?_
    obtain ⟨q_5, I_5, J_5, hc_5, h⟩ := bnd_some h
    refine g_gol hB (g_runS C hB [.int (-2 : Int32)] [] (cnX4_refusal l D cI cJ cV ad H.size  hc_5) tw_303 tw_304 tw_33 tw_305 ⟨rfl, rfl⟩ hdX4_refusal ⟨Nat.le_of_ble_eq_true rfl, Nat.le_of_ble_eq_true rfl⟩ hl.1 rfl (Nat.le_of_ble_eq_true rfl) dX4_exact_13) (fun H locs hB => ?_)
    exact g_lret C hB h dX4_exact_16
set_option maxHeartbeats 4000000 in
set_option maxRecDepth 100000 in
theorem cnX4_exact (l : Launch) (D : va_G) (cI cJ cV : ClassId) (ad : Nat → Nat) (sz : Nat) {v1 : Int32} {I : TI} {J : TJ} {z : Int64 × SS}  (h : fX4_exact v1 I J = some z) : Met l yX4_exact (wsm yX4_exact cX4_exact 2 (some .long)) (rmd 5) (va_Pc [.ref (ad 0), .int v1] (gPre D (xw cI cJ cV ad) (xt cI cJ cV) sz I J)) (gQl D (xw cI cJ cV ad) (xt cI cJ cV) (xL ad) sz z) 0 0 (gA (xL ad) sz) :=
  g_met (by decide) xw_WL (fun p e s m below meth c hsz C hB ls hl => by subst hsz; exact tX4_exact C hB  hl h) (Nat.le_of_ble_eq_true rfl)
theorem hdX4_tuned : yX4_tuned.cls = "BitTuner" ∧ yX4_tuned.cls ≠ "java/lang/invoke/MethodHandle" ∧ yX4_tuned.cls ≠ "java/lang/invoke/VarHandle" ∧ (parseMethodDescriptor yX4_tuned.desc).map (fun d => d.parameters.length) = some 1 := by decide +kernel
def fX4_tuned  (v1 : Int32) (I : TI) (J : TJ) : Option (Int64 × SS) :=
  bnd (fX0_has v1 I J) (fun q_1 I_1 J_1 =>
  if q_1 = 0 then
  bnd (fX4_refusal (-2 : Int32) I_1 J_1) (fun q_5 I_5 J_5 =>
  some (q_5, I_5, J_5))
  else
  bnd (fX1_workOutAsSet v1 I_1 J_1) (fun q_3 I_3 J_3 =>
  if okx v1 then
  some (J_3 4 v1.toNatClampNeg, I_3, J_3)
  else none))
set_option maxHeartbeats 4000000 in
set_option maxRecDepth 100000 in
theorem tX4_tuned {p : Program} {l : Launch} {e : Env} {s : State} {m : MethodId} {args : Array Value} {below : List Frame} {meth : Method} {c : Code} (C : KX p s m args meth c "BitTuner" cX4_tuned 2 (some .long)) {D : va_G} {cI cJ cV : ClassId} {ad : Nat → Nat} {z : Int64 × SS}   {H : Heap} {locs : List Loc} {ls : Array Slot} {I : TI} {J : TJ} {v1 : Int32} (hB : XB D cI cJ cV ad s H locs I J)  (hl : lv_has ls 2 [(0, .ref (ad 0)), (1, .int v1)]) (h : fX4_tuned v1 I J = some z) : W p l e (rmd 5) s m args below meth c H locs 0 0 (MQ below (gQl D (xw cI cJ cV ad) (xt cI cJ cV) (xL ad) s.heap.size z) args s 0 0 (gA (xL ad) s.heap.size)) (F0 m 0 ls []) := by
  unfold fX4_tuned at h
  refine lv_aload_n C.hx C.hb dX4_tuned_0 rfl (lv_at hl 0 rfl) ?_
  refine xg_t_program C hB tw_186 dX4_tuned_1 ?_
  refine lv_iload_n C.hx C.hb dX4_tuned_4 rfl (lv_at hl 1 rfl) ?_
  obtain ⟨q_1, I_1, J_1, hc_1, h⟩ := bnd_some h
  refine g_goi hB (g_runV C hB [.int v1] [] (cnX0_has l D cI cJ cV ad H.size  hc_1) 1 rfl rfl tw_234 tw_235 tw_236 tw_34 tw_237 ⟨rfl, rfl⟩ hdX0_has ⟨Nat.le_of_ble_eq_true rfl, Nat.le_of_ble_eq_true rfl⟩ hl.1 rfl (Nat.le_of_ble_eq_true rfl) dX4_tuned_5) (fun H locs hB => ?_)
  refine lv_if_ne (tgt := 17) C.hx C.hb dX4_tuned_8 (by decide) (fun c_2 => ?_) (fun c_2 => ?_)
  · replace h := (if_neg c_2).symm.trans h
    refine lv_aload_n C.hx C.hb dX4_tuned_17 rfl (lv_at hl 0 rfl) ?_
    refine xg_t_runs C hB tw_187 dX4_tuned_18 ?_
    refine lv_iload_n C.hx C.hb dX4_tuned_21 rfl (lv_at hl 1 rfl) ?_
    obtain ⟨q_3, I_3, J_3, hc_3, h⟩ := bnd_some h
    refine g_gov hB (g_runV C hB [.int v1] [] (cnX1_workOutAsSet l D cI cJ cV ad H.size  hc_3) 3 rfl rfl tw_366 tw_367 tw_368 tw_36 tw_369 ⟨rfl, rfl⟩ hdX1_workOutAsSet ⟨Nat.le_of_ble_eq_true rfl, Nat.le_of_ble_eq_true rfl⟩ hl.1 rfl (Nat.le_of_ble_eq_true rfl) dX4_tuned_22) (fun H locs hB => ?_)
    refine lv_aload_n C.hx C.hb dX4_tuned_25 rfl (lv_at hl 0 rfl) ?_
    refine xg_t_runs C hB tw_187 dX4_tuned_26 ?_
    refine xg_r_tuneds C hB tw_148 dX4_tuned_29 ?_
    refine lv_iload_n C.hx C.hb dX4_tuned_32 rfl (lv_at hl 1 rfl) ?_
    obtain ⟨c_4, h⟩ := ite_ck h
    refine xa_tuneds_ld C hB c_4 dX4_tuned_33 ?_
    exact g_lret C hB h dX4_tuned_34
  · replace h := (if_pos c_2).symm.trans h
    refine lv_bipush (v := (-2 : Int32)) C.hx C.hb dX4_tuned_11 (by decide) ?_
    obtain ⟨q_5, I_5, J_5, hc_5, h⟩ := bnd_some h
    refine g_gol hB (g_runS C hB [.int (-2 : Int32)] [] (cnX4_refusal l D cI cJ cV ad H.size  hc_5) tw_303 tw_304 tw_33 tw_305 ⟨rfl, rfl⟩ hdX4_refusal ⟨Nat.le_of_ble_eq_true rfl, Nat.le_of_ble_eq_true rfl⟩ hl.1 rfl (Nat.le_of_ble_eq_true rfl) dX4_tuned_13) (fun H locs hB => ?_)
    exact g_lret C hB h dX4_tuned_16
set_option maxHeartbeats 4000000 in
set_option maxRecDepth 100000 in
theorem cnX4_tuned (l : Launch) (D : va_G) (cI cJ cV : ClassId) (ad : Nat → Nat) (sz : Nat) {v1 : Int32} {I : TI} {J : TJ} {z : Int64 × SS}  (h : fX4_tuned v1 I J = some z) : Met l yX4_tuned (wsm yX4_tuned cX4_tuned 2 (some .long)) (rmd 5) (va_Pc [.ref (ad 0), .int v1] (gPre D (xw cI cJ cV ad) (xt cI cJ cV) sz I J)) (gQl D (xw cI cJ cV ad) (xt cI cJ cV) (xL ad) sz z) 0 0 (gA (xL ad) sz) :=
  g_met (by decide) xw_WL (fun p e s m below meth c hsz C hB ls hl => by subst hsz; exact tX4_tuned C hB  hl h) (Nat.le_of_ble_eq_true rfl)
theorem hdX4_miss : yX4_miss.cls = "BitTuner" ∧ yX4_miss.cls ≠ "java/lang/invoke/MethodHandle" ∧ yX4_miss.cls ≠ "java/lang/invoke/VarHandle" ∧ (parseMethodDescriptor yX4_miss.desc).map (fun d => d.parameters.length) = some 1 := by decide +kernel
def fX4_miss  (v1 : Int32) (I : TI) (J : TJ) : Option (Int64 × SS) :=
  bnd (fX0_has v1 I J) (fun q_1 I_1 J_1 =>
  if q_1 = 0 then
  bnd (fX4_refusal (-2 : Int32) I_1 J_1) (fun q_5 I_5 J_5 =>
  some (q_5, I_5, J_5))
  else
  bnd (fX1_workOutAsSet v1 I_1 J_1) (fun q_3 I_3 J_3 =>
  bnd (fX1_missOf v1 I_3 J_3) (fun q_4 I_4 J_4 =>
  some (q_4, I_4, J_4))))
set_option maxHeartbeats 4000000 in
set_option maxRecDepth 100000 in
theorem tX4_miss {p : Program} {l : Launch} {e : Env} {s : State} {m : MethodId} {args : Array Value} {below : List Frame} {meth : Method} {c : Code} (C : KX p s m args meth c "BitTuner" cX4_miss 2 (some .long)) {D : va_G} {cI cJ cV : ClassId} {ad : Nat → Nat} {z : Int64 × SS}   {H : Heap} {locs : List Loc} {ls : Array Slot} {I : TI} {J : TJ} {v1 : Int32} (hB : XB D cI cJ cV ad s H locs I J)  (hl : lv_has ls 2 [(0, .ref (ad 0)), (1, .int v1)]) (h : fX4_miss v1 I J = some z) : W p l e (rmd 5) s m args below meth c H locs 0 0 (MQ below (gQl D (xw cI cJ cV ad) (xt cI cJ cV) (xL ad) s.heap.size z) args s 0 0 (gA (xL ad) s.heap.size)) (F0 m 0 ls []) := by
  unfold fX4_miss at h
  refine lv_aload_n C.hx C.hb dX4_miss_0 rfl (lv_at hl 0 rfl) ?_
  refine xg_t_program C hB tw_186 dX4_miss_1 ?_
  refine lv_iload_n C.hx C.hb dX4_miss_4 rfl (lv_at hl 1 rfl) ?_
  obtain ⟨q_1, I_1, J_1, hc_1, h⟩ := bnd_some h
  refine g_goi hB (g_runV C hB [.int v1] [] (cnX0_has l D cI cJ cV ad H.size  hc_1) 1 rfl rfl tw_234 tw_235 tw_236 tw_34 tw_237 ⟨rfl, rfl⟩ hdX0_has ⟨Nat.le_of_ble_eq_true rfl, Nat.le_of_ble_eq_true rfl⟩ hl.1 rfl (Nat.le_of_ble_eq_true rfl) dX4_miss_5) (fun H locs hB => ?_)
  refine lv_if_ne (tgt := 17) C.hx C.hb dX4_miss_8 (by decide) (fun c_2 => ?_) (fun c_2 => ?_)
  · replace h := (if_neg c_2).symm.trans h
    refine lv_aload_n C.hx C.hb dX4_miss_17 rfl (lv_at hl 0 rfl) ?_
    refine xg_t_runs C hB tw_187 dX4_miss_18 ?_
    refine lv_iload_n C.hx C.hb dX4_miss_21 rfl (lv_at hl 1 rfl) ?_
    obtain ⟨q_3, I_3, J_3, hc_3, h⟩ := bnd_some h
    refine g_gov hB (g_runV C hB [.int v1] [] (cnX1_workOutAsSet l D cI cJ cV ad H.size  hc_3) 3 rfl rfl tw_366 tw_367 tw_368 tw_36 tw_369 ⟨rfl, rfl⟩ hdX1_workOutAsSet ⟨Nat.le_of_ble_eq_true rfl, Nat.le_of_ble_eq_true rfl⟩ hl.1 rfl (Nat.le_of_ble_eq_true rfl) dX4_miss_22) (fun H locs hB => ?_)
    refine lv_aload_n C.hx C.hb dX4_miss_25 rfl (lv_at hl 0 rfl) ?_
    refine xg_t_runs C hB tw_187 dX4_miss_26 ?_
    refine lv_iload_n C.hx C.hb dX4_miss_29 rfl (lv_at hl 1 rfl) ?_
    obtain ⟨q_4, I_4, J_4, hc_4, h⟩ := bnd_some h
    refine g_gol hB (g_runV C hB [.int v1] [] (cnX1_missOf l D cI cJ cV ad H.size  hc_4) 3 rfl rfl tw_398 tw_399 tw_400 tw_36 tw_401 ⟨rfl, rfl⟩ hdX1_missOf ⟨Nat.le_of_ble_eq_true rfl, Nat.le_of_ble_eq_true rfl⟩ hl.1 rfl (Nat.le_of_ble_eq_true rfl) dX4_miss_30) (fun H locs hB => ?_)
    exact g_lret C hB h dX4_miss_33
  · replace h := (if_pos c_2).symm.trans h
    refine lv_bipush (v := (-2 : Int32)) C.hx C.hb dX4_miss_11 (by decide) ?_
    obtain ⟨q_5, I_5, J_5, hc_5, h⟩ := bnd_some h
    refine g_gol hB (g_runS C hB [.int (-2 : Int32)] [] (cnX4_refusal l D cI cJ cV ad H.size  hc_5) tw_303 tw_304 tw_33 tw_305 ⟨rfl, rfl⟩ hdX4_refusal ⟨Nat.le_of_ble_eq_true rfl, Nat.le_of_ble_eq_true rfl⟩ hl.1 rfl (Nat.le_of_ble_eq_true rfl) dX4_miss_13) (fun H locs hB => ?_)
    exact g_lret C hB h dX4_miss_16
set_option maxHeartbeats 4000000 in
set_option maxRecDepth 100000 in
theorem cnX4_miss (l : Launch) (D : va_G) (cI cJ cV : ClassId) (ad : Nat → Nat) (sz : Nat) {v1 : Int32} {I : TI} {J : TJ} {z : Int64 × SS}  (h : fX4_miss v1 I J = some z) : Met l yX4_miss (wsm yX4_miss cX4_miss 2 (some .long)) (rmd 5) (va_Pc [.ref (ad 0), .int v1] (gPre D (xw cI cJ cV ad) (xt cI cJ cV) sz I J)) (gQl D (xw cI cJ cV ad) (xt cI cJ cV) (xL ad) sz z) 0 0 (gA (xL ad) sz) :=
  g_met (by decide) xw_WL (fun p e s m below meth c hsz C hB ls hl => by subst hsz; exact tX4_miss C hB  hl h) (Nat.le_of_ble_eq_true rfl)
theorem hdX4_leave : yX4_leave.cls = "BitTuner" ∧ yX4_leave.cls ≠ "java/lang/invoke/MethodHandle" ∧ yX4_leave.cls ≠ "java/lang/invoke/VarHandle" ∧ (parseMethodDescriptor yX4_leave.desc).map (fun d => d.parameters.length) = some 1 := by decide +kernel
def fX4_leave  (v1 : Int32) (I : TI) (J : TJ) : Option (UInt64 × SS) :=
  bnd (fX0_has v1 I J) (fun q_1 I_1 J_1 =>
  if q_1 = 0 then
  some (FP.dconst0, I_1, J_1)
  else
  bnd (fX1_workOutAsSet v1 I_1 J_1) (fun q_3 I_3 J_3 =>
  if okx v1 then
  if okd (FP.ddiv (FP.l2d (J_3 4 v1.toNatClampNeg)) (4679240012837945344 : UInt64)) then
  some (FP.ddiv (FP.l2d (J_3 4 v1.toNatClampNeg)) (4679240012837945344 : UInt64), I_3, J_3)
  else none
  else none))
set_option maxHeartbeats 4000000 in
set_option maxRecDepth 100000 in
theorem tX4_leave {p : Program} {l : Launch} {e : Env} {s : State} {m : MethodId} {args : Array Value} {below : List Frame} {meth : Method} {c : Code} (C : KX p s m args meth c "BitTuner" cX4_leave 2 (some .double)) {D : va_G} {cI cJ cV : ClassId} {ad : Nat → Nat} {z : UInt64 × SS}   {H : Heap} {locs : List Loc} {ls : Array Slot} {I : TI} {J : TJ} {v1 : Int32} (hB : XB D cI cJ cV ad s H locs I J)  (hl : lv_has ls 2 [(0, .ref (ad 0)), (1, .int v1)]) (h : fX4_leave v1 I J = some z) : W p l e (rmd 5) s m args below meth c H locs 0 0 (MQ below (gQd D (xw cI cJ cV ad) (xt cI cJ cV) (xL ad) s.heap.size z) args s 0 0 (gA (xL ad) s.heap.size)) (F0 m 0 ls []) := by
  unfold fX4_leave at h
  refine lv_aload_n C.hx C.hb dX4_leave_0 rfl (lv_at hl 0 rfl) ?_
  refine xg_t_program C hB tw_186 dX4_leave_1 ?_
  refine lv_iload_n C.hx C.hb dX4_leave_4 rfl (lv_at hl 1 rfl) ?_
  obtain ⟨q_1, I_1, J_1, hc_1, h⟩ := bnd_some h
  refine g_goi hB (g_runV C hB [.int v1] [] (cnX0_has l D cI cJ cV ad H.size  hc_1) 1 rfl rfl tw_234 tw_235 tw_236 tw_34 tw_237 ⟨rfl, rfl⟩ hdX0_has ⟨Nat.le_of_ble_eq_true rfl, Nat.le_of_ble_eq_true rfl⟩ hl.1 rfl (Nat.le_of_ble_eq_true rfl) dX4_leave_5) (fun H locs hB => ?_)
  refine lv_if_ne (tgt := 13) C.hx C.hb dX4_leave_8 (by decide) (fun c_2 => ?_) (fun c_2 => ?_)
  · replace h := (if_neg c_2).symm.trans h
    refine lv_aload_n C.hx C.hb dX4_leave_13 rfl (lv_at hl 0 rfl) ?_
    refine xg_t_runs C hB tw_187 dX4_leave_14 ?_
    refine lv_iload_n C.hx C.hb dX4_leave_17 rfl (lv_at hl 1 rfl) ?_
    obtain ⟨q_3, I_3, J_3, hc_3, h⟩ := bnd_some h
    refine g_gov hB (g_runV C hB [.int v1] [] (cnX1_workOutAsSet l D cI cJ cV ad H.size  hc_3) 3 rfl rfl tw_366 tw_367 tw_368 tw_36 tw_369 ⟨rfl, rfl⟩ hdX1_workOutAsSet ⟨Nat.le_of_ble_eq_true rfl, Nat.le_of_ble_eq_true rfl⟩ hl.1 rfl (Nat.le_of_ble_eq_true rfl) dX4_leave_18) (fun H locs hB => ?_)
    refine lv_aload_n C.hx C.hb dX4_leave_21 rfl (lv_at hl 0 rfl) ?_
    refine xg_t_runs C hB tw_187 dX4_leave_22 ?_
    refine xg_r_tuneds C hB tw_148 dX4_leave_25 ?_
    refine lv_iload_n C.hx C.hb dX4_leave_28 rfl (lv_at hl 1 rfl) ?_
    obtain ⟨c_4, h⟩ := ite_ck h
    refine xa_tuneds_ld C hB c_4 dX4_leave_29 ?_
    refine lv_l2d C.hx C.hb dX4_leave_30 ?_
    refine lv_ldc2d C.hx C.hb C.hown (C.hts _ tw_407) dX4_leave_31 ?_
    obtain ⟨c_5, h⟩ := ite_ck h
    refine lv_ddiv C.hx C.hb dX4_leave_34 c_5 ?_
    exact g_dret C hB h dX4_leave_35
  · replace h := (if_pos c_2).symm.trans h
    refine lv_dconst0 C.hx C.hb dX4_leave_11 ?_
    exact g_dret C hB h dX4_leave_12
set_option maxHeartbeats 4000000 in
set_option maxRecDepth 100000 in
theorem cnX4_leave (l : Launch) (D : va_G) (cI cJ cV : ClassId) (ad : Nat → Nat) (sz : Nat) {v1 : Int32} {I : TI} {J : TJ} {z : UInt64 × SS}  (h : fX4_leave v1 I J = some z) : Met l yX4_leave (wsm yX4_leave cX4_leave 2 (some .double)) (rmd 5) (va_Pc [.ref (ad 0), .int v1] (gPre D (xw cI cJ cV ad) (xt cI cJ cV) sz I J)) (gQd D (xw cI cJ cV ad) (xt cI cJ cV) (xL ad) sz z) 0 0 (gA (xL ad) sz) :=
  g_met (by decide) xw_WL (fun p e s m below meth c hsz C hB ls hl => by subst hsz; exact tX4_leave C hB  hl h) (Nat.le_of_ble_eq_true rfl)
theorem hdX4_narrow : yX4_narrow.cls = "BitTuner" ∧ yX4_narrow.cls ≠ "java/lang/invoke/MethodHandle" ∧ yX4_narrow.cls ≠ "java/lang/invoke/VarHandle" ∧ (parseMethodDescriptor yX4_narrow.desc).map (fun d => d.parameters.length) = some 1 := by decide +kernel
def fX4_narrow  (v1 : Int32) (I : TI) (J : TJ) : Option (UInt32 × SS) :=
  bnd (fX4_leave v1 I J) (fun q_1 I_1 J_1 =>
  if okf (FP.d2f q_1) then
  some (FP.d2f q_1, I_1, J_1)
  else none)
set_option maxHeartbeats 4000000 in
set_option maxRecDepth 100000 in
theorem tX4_narrow {p : Program} {l : Launch} {e : Env} {s : State} {m : MethodId} {args : Array Value} {below : List Frame} {meth : Method} {c : Code} (C : KX p s m args meth c "BitTuner" cX4_narrow 2 (some .float)) {D : va_G} {cI cJ cV : ClassId} {ad : Nat → Nat} {z : UInt32 × SS}   {H : Heap} {locs : List Loc} {ls : Array Slot} {I : TI} {J : TJ} {v1 : Int32} (hB : XB D cI cJ cV ad s H locs I J)  (hl : lv_has ls 2 [(0, .ref (ad 0)), (1, .int v1)]) (h : fX4_narrow v1 I J = some z) : W p l e (rmd 6) s m args below meth c H locs 0 0 (MQ below (gQf D (xw cI cJ cV ad) (xt cI cJ cV) (xL ad) s.heap.size z) args s 0 0 (gA (xL ad) s.heap.size)) (F0 m 0 ls []) := by
  unfold fX4_narrow at h
  refine lv_aload_n C.hx C.hb dX4_narrow_0 rfl (lv_at hl 0 rfl) ?_
  refine lv_iload_n C.hx C.hb dX4_narrow_1 rfl (lv_at hl 1 rfl) ?_
  obtain ⟨q_1, I_1, J_1, hc_1, h⟩ := bnd_some h
  refine g_god hB (g_runV C hB [.int v1] [] (cnX4_leave l D cI cJ cV ad H.size  hc_1) 0 rfl rfl tw_412 tw_404 tw_405 tw_33 tw_406 ⟨rfl, rfl⟩ hdX4_leave ⟨Nat.le_of_ble_eq_true rfl, Nat.le_of_ble_eq_true rfl⟩ hl.1 rfl (Nat.le_of_ble_eq_true rfl) dX4_narrow_2) (fun H locs hB => ?_)
  obtain ⟨c_2, h⟩ := ite_ck h
  refine lv_d2f C.hx C.hb dX4_narrow_5 c_2 ?_
  exact g_fret C hB h dX4_narrow_6
set_option maxHeartbeats 4000000 in
set_option maxRecDepth 100000 in
theorem cnX4_narrow (l : Launch) (D : va_G) (cI cJ cV : ClassId) (ad : Nat → Nat) (sz : Nat) {v1 : Int32} {I : TI} {J : TJ} {z : UInt32 × SS}  (h : fX4_narrow v1 I J = some z) : Met l yX4_narrow (wsm yX4_narrow cX4_narrow 2 (some .float)) (rmd 6) (va_Pc [.ref (ad 0), .int v1] (gPre D (xw cI cJ cV ad) (xt cI cJ cV) sz I J)) (gQf D (xw cI cJ cV ad) (xt cI cJ cV) (xL ad) sz z) 0 0 (gA (xL ad) sz) :=
  g_met (by decide) xw_WL (fun p e s m below meth c hsz C hB ls hl => by subst hsz; exact tX4_narrow C hB  hl h) (Nat.le_of_ble_eq_true rfl)
theorem hdX4_rows : yX4_rows.cls = "BitTuner" ∧ yX4_rows.cls ≠ "java/lang/invoke/MethodHandle" ∧ yX4_rows.cls ≠ "java/lang/invoke/VarHandle" ∧ (parseMethodDescriptor yX4_rows.desc).map (fun d => d.parameters.length) = some 0 := by decide +kernel
def fX4_rows   (I : TI) (J : TJ) : Option (Int32 × SS) :=
  bnd (fX1_rowsInAll I J) (fun q_1 I_1 J_1 =>
  some (q_1, I_1, J_1))
set_option maxHeartbeats 4000000 in
set_option maxRecDepth 100000 in
theorem tX4_rows {p : Program} {l : Launch} {e : Env} {s : State} {m : MethodId} {args : Array Value} {below : List Frame} {meth : Method} {c : Code} (C : KX p s m args meth c "BitTuner" cX4_rows 1 (some .int)) {D : va_G} {cI cJ cV : ClassId} {ad : Nat → Nat} {z : Int32 × SS}   {H : Heap} {locs : List Loc} {ls : Array Slot} {I : TI} {J : TJ}  (hB : XB D cI cJ cV ad s H locs I J)  (hl : lv_has ls 1 [(0, .ref (ad 0))]) (h : fX4_rows I J = some z) : W p l e (rmd 2) s m args below meth c H locs 0 0 (MQ below (gQi D (xw cI cJ cV ad) (xt cI cJ cV) (xL ad) s.heap.size z) args s 0 0 (gA (xL ad) s.heap.size)) (F0 m 0 ls []) := by
  unfold fX4_rows at h
  refine lv_aload_n C.hx C.hb dX4_rows_0 rfl (lv_at hl 0 rfl) ?_
  refine xg_t_runs C hB tw_187 dX4_rows_1 ?_
  obtain ⟨q_1, I_1, J_1, hc_1, h⟩ := bnd_some h
  refine g_goi hB (g_runV C hB [] [] (cnX1_rowsInAll l D cI cJ cV ad H.size  hc_1) 3 rfl rfl tw_417 tw_418 tw_419 tw_36 tw_420 ⟨rfl, rfl⟩ hdX1_rowsInAll ⟨Nat.le_of_ble_eq_true rfl, Nat.le_of_ble_eq_true rfl⟩ hl.1 rfl (Nat.le_of_ble_eq_true rfl) dX4_rows_4) (fun H locs hB => ?_)
  exact g_iret C hB h dX4_rows_7
set_option maxHeartbeats 4000000 in
set_option maxRecDepth 100000 in
theorem cnX4_rows (l : Launch) (D : va_G) (cI cJ cV : ClassId) (ad : Nat → Nat) (sz : Nat)  {I : TI} {J : TJ} {z : Int32 × SS}  (h : fX4_rows I J = some z) : Met l yX4_rows (wsm yX4_rows cX4_rows 1 (some .int)) (rmd 2) (va_Pc [.ref (ad 0)] (gPre D (xw cI cJ cV ad) (xt cI cJ cV) sz I J)) (gQi D (xw cI cJ cV ad) (xt cI cJ cV) (xL ad) sz z) 0 0 (gA (xL ad) sz) :=
  g_met (by decide) xw_WL (fun p e s m below meth c hsz C hB ls hl => by subst hsz; exact tX4_rows C hB  hl h) (Nat.le_of_ble_eq_true rfl)
theorem hdX4_worst : yX4_worst.cls = "BitTuner" ∧ yX4_worst.cls ≠ "java/lang/invoke/MethodHandle" ∧ yX4_worst.cls ≠ "java/lang/invoke/VarHandle" ∧ (parseMethodDescriptor yX4_worst.desc).map (fun d => d.parameters.length) = some 1 := by decide +kernel
def fX4_worst  (v1 : Int32) (I : TI) (J : TJ) : Option (Int64 × SS) :=
  bnd (fX0_has v1 I J) (fun q_1 I_1 J_1 =>
  if q_1 = 0 then
  bnd (fX4_refusal (-2 : Int32) I_1 J_1) (fun q_7 I_7 J_7 =>
  some (q_7, I_7, J_7))
  else
  bnd (fX1_areFew I_1 J_1) (fun q_3 I_3 J_3 =>
  if q_3 = 0 then
  bnd (fX4_refusal (-5 : Int32) I_3 J_3) (fun q_6 I_6 J_6 =>
  some (q_6, I_6, J_6))
  else
  bnd (fX1_greatestMiss v1 I_3 J_3) (fun q_5 I_5 J_5 =>
  some (q_5, I_5, J_5))))
set_option maxHeartbeats 4000000 in
set_option maxRecDepth 100000 in
theorem tX4_worst {p : Program} {l : Launch} {e : Env} {s : State} {m : MethodId} {args : Array Value} {below : List Frame} {meth : Method} {c : Code} (C : KX p s m args meth c "BitTuner" cX4_worst 2 (some .long)) {D : va_G} {cI cJ cV : ClassId} {ad : Nat → Nat} {z : Int64 × SS}   {H : Heap} {locs : List Loc} {ls : Array Slot} {I : TI} {J : TJ} {v1 : Int32} (hB : XB D cI cJ cV ad s H locs I J)  (hl : lv_has ls 2 [(0, .ref (ad 0)), (1, .int v1)]) (h : fX4_worst v1 I J = some z) : W p l e (rmd 5) s m args below meth c H locs 0 0 (MQ below (gQl D (xw cI cJ cV ad) (xt cI cJ cV) (xL ad) s.heap.size z) args s 0 0 (gA (xL ad) s.heap.size)) (F0 m 0 ls []) := by
  unfold fX4_worst at h
  refine lv_aload_n C.hx C.hb dX4_worst_0 rfl (lv_at hl 0 rfl) ?_
  refine xg_t_program C hB tw_186 dX4_worst_1 ?_
  refine lv_iload_n C.hx C.hb dX4_worst_4 rfl (lv_at hl 1 rfl) ?_
  obtain ⟨q_1, I_1, J_1, hc_1, h⟩ := bnd_some h
  refine g_goi hB (g_runV C hB [.int v1] [] (cnX0_has l D cI cJ cV ad H.size  hc_1) 1 rfl rfl tw_234 tw_235 tw_236 tw_34 tw_237 ⟨rfl, rfl⟩ hdX0_has ⟨Nat.le_of_ble_eq_true rfl, Nat.le_of_ble_eq_true rfl⟩ hl.1 rfl (Nat.le_of_ble_eq_true rfl) dX4_worst_5) (fun H locs hB => ?_)
  refine lv_if_ne (tgt := 17) C.hx C.hb dX4_worst_8 (by decide) (fun c_2 => ?_) (fun c_2 => ?_)
  · replace h := (if_neg c_2).symm.trans h
    refine lv_aload_n C.hx C.hb dX4_worst_17 rfl (lv_at hl 0 rfl) ?_
    refine xg_t_runs C hB tw_187 dX4_worst_18 ?_
    obtain ⟨q_3, I_3, J_3, hc_3, h⟩ := bnd_some h
    refine g_goi hB (g_runV C hB [] [] (cnX1_areFew l D cI cJ cV ad H.size  hc_3) 3 rfl rfl tw_427 tw_428 tw_429 tw_36 tw_430 ⟨rfl, rfl⟩ hdX1_areFew ⟨Nat.le_of_ble_eq_true rfl, Nat.le_of_ble_eq_true rfl⟩ hl.1 rfl (Nat.le_of_ble_eq_true rfl) dX4_worst_21) (fun H locs hB => ?_)
    refine lv_if_ne (tgt := 33) C.hx C.hb dX4_worst_24 (by decide) (fun c_4 => ?_) (fun c_4 => ?_)
    · replace h := (if_neg c_4).symm.trans h
      refine lv_aload_n C.hx C.hb dX4_worst_33 rfl (lv_at hl 0 rfl) ?_
      refine xg_t_runs C hB tw_187 dX4_worst_34 ?_
      refine lv_iload_n C.hx C.hb dX4_worst_37 rfl (lv_at hl 1 rfl) ?_
      obtain ⟨q_5, I_5, J_5, hc_5, h⟩ := bnd_some h
      refine g_gol hB (g_runV C hB [.int v1] [] (cnX1_greatestMiss l D cI cJ cV ad H.size  hc_5) 3 rfl rfl tw_432 tw_433 tw_434 tw_36 tw_435 ⟨rfl, rfl⟩ hdX1_greatestMiss ⟨Nat.le_of_ble_eq_true rfl, Nat.le_of_ble_eq_true rfl⟩ hl.1 rfl (Nat.le_of_ble_eq_true rfl) dX4_worst_38) (fun H locs hB => ?_)
      exact g_lret C hB h dX4_worst_41
    · replace h := (if_pos c_4).symm.trans h
      refine lv_bipush (v := (-5 : Int32)) C.hx C.hb dX4_worst_27 (by decide) ?_
      obtain ⟨q_6, I_6, J_6, hc_6, h⟩ := bnd_some h
      refine g_gol hB (g_runS C hB [.int (-5 : Int32)] [] (cnX4_refusal l D cI cJ cV ad H.size  hc_6) tw_303 tw_304 tw_33 tw_305 ⟨rfl, rfl⟩ hdX4_refusal ⟨Nat.le_of_ble_eq_true rfl, Nat.le_of_ble_eq_true rfl⟩ hl.1 rfl (Nat.le_of_ble_eq_true rfl) dX4_worst_29) (fun H locs hB => ?_)
      exact g_lret C hB h dX4_worst_32
  · replace h := (if_pos c_2).symm.trans h
    refine lv_bipush (v := (-2 : Int32)) C.hx C.hb dX4_worst_11 (by decide) ?_
    obtain ⟨q_7, I_7, J_7, hc_7, h⟩ := bnd_some h
    refine g_gol hB (g_runS C hB [.int (-2 : Int32)] [] (cnX4_refusal l D cI cJ cV ad H.size  hc_7) tw_303 tw_304 tw_33 tw_305 ⟨rfl, rfl⟩ hdX4_refusal ⟨Nat.le_of_ble_eq_true rfl, Nat.le_of_ble_eq_true rfl⟩ hl.1 rfl (Nat.le_of_ble_eq_true rfl) dX4_worst_13) (fun H locs hB => ?_)
    exact g_lret C hB h dX4_worst_16
set_option maxHeartbeats 4000000 in
set_option maxRecDepth 100000 in
theorem cnX4_worst (l : Launch) (D : va_G) (cI cJ cV : ClassId) (ad : Nat → Nat) (sz : Nat) {v1 : Int32} {I : TI} {J : TJ} {z : Int64 × SS}  (h : fX4_worst v1 I J = some z) : Met l yX4_worst (wsm yX4_worst cX4_worst 2 (some .long)) (rmd 5) (va_Pc [.ref (ad 0), .int v1] (gPre D (xw cI cJ cV ad) (xt cI cJ cV) sz I J)) (gQl D (xw cI cJ cV ad) (xt cI cJ cV) (xL ad) sz z) 0 0 (gA (xL ad) sz) :=
  g_met (by decide) xw_WL (fun p e s m below meth c hsz C hB ls hl => by subst hsz; exact tX4_worst C hB  hl h) (Nat.le_of_ble_eq_true rfl)
theorem hdX4_worstAt : yX4_worstAt.cls = "BitTuner" ∧ yX4_worstAt.cls ≠ "java/lang/invoke/MethodHandle" ∧ yX4_worstAt.cls ≠ "java/lang/invoke/VarHandle" ∧ (parseMethodDescriptor yX4_worstAt.desc).map (fun d => d.parameters.length) = some 1 := by decide +kernel
def fX4_worstAt  (v1 : Int32) (I : TI) (J : TJ) : Option (Int32 × SS) :=
  if v1 < 0 then
  some ((-2 : Int32), I, J)
  else
  if (16 : Int32) ≤ v1 then
  some ((-2 : Int32), I, J)
  else
  if okx v1 then
  some (I 9 v1.toNatClampNeg, I, J)
  else none
set_option maxHeartbeats 4000000 in
set_option maxRecDepth 100000 in
theorem tX4_worstAt {p : Program} {l : Launch} {e : Env} {s : State} {m : MethodId} {args : Array Value} {below : List Frame} {meth : Method} {c : Code} (C : KX p s m args meth c "BitTuner" cX4_worstAt 2 (some .int)) {D : va_G} {cI cJ cV : ClassId} {ad : Nat → Nat} {z : Int32 × SS}   {H : Heap} {locs : List Loc} {ls : Array Slot} {I : TI} {J : TJ} {v1 : Int32} (hB : XB D cI cJ cV ad s H locs I J)  (hl : lv_has ls 2 [(0, .ref (ad 0)), (1, .int v1)]) (h : fX4_worstAt v1 I J = some z) : W p l e (rmd 0) s m args below meth c H locs 0 0 (MQ below (gQi D (xw cI cJ cV ad) (xt cI cJ cV) (xL ad) s.heap.size z) args s 0 0 (gA (xL ad) s.heap.size)) (F0 m 0 ls []) := by
  unfold fX4_worstAt at h
  refine lv_iload_n C.hx C.hb dX4_worstAt_0 rfl (lv_at hl 1 rfl) ?_
  refine lv_if_lt (tgt := 22) C.hx C.hb dX4_worstAt_1 (by decide) (fun c_1 => ?_) (fun c_1 => ?_)
  · replace h := (if_pos c_1).symm.trans h
    refine lv_bipush (v := (-2 : Int32)) C.hx C.hb dX4_worstAt_22 (by decide) ?_
    exact g_iret C hB h dX4_worstAt_24
  · replace h := (if_neg c_1).symm.trans h
    refine lv_iload_n C.hx C.hb dX4_worstAt_4 rfl (lv_at hl 1 rfl) ?_
    refine lv_bipush (v := (16 : Int32)) C.hx C.hb dX4_worstAt_5 (by decide) ?_
    refine lv_icmp_ge (tgt := 22) C.hx C.hb dX4_worstAt_7 (by decide) (fun c_2 => ?_) (fun c_2 => ?_)
    · replace h := (if_pos c_2).symm.trans h
      refine lv_bipush (v := (-2 : Int32)) C.hx C.hb dX4_worstAt_22 (by decide) ?_
      exact g_iret C hB h dX4_worstAt_24
    · replace h := (if_neg c_2).symm.trans h
      refine lv_aload_n C.hx C.hb dX4_worstAt_10 rfl (lv_at hl 0 rfl) ?_
      refine xg_t_runs C hB tw_187 dX4_worstAt_11 ?_
      refine xg_r_worstRow C hB tw_150 dX4_worstAt_14 ?_
      refine lv_iload_n C.hx C.hb dX4_worstAt_17 rfl (lv_at hl 1 rfl) ?_
      obtain ⟨c_3, h⟩ := ite_ck h
      refine xa_worstRow_ld C hB c_3 dX4_worstAt_18 ?_
      refine lv_goto (tgt := 24) C.hx C.hb dX4_worstAt_19 (by decide) ?_
      exact g_iret C hB h dX4_worstAt_24
set_option maxHeartbeats 4000000 in
set_option maxRecDepth 100000 in
theorem cnX4_worstAt (l : Launch) (D : va_G) (cI cJ cV : ClassId) (ad : Nat → Nat) (sz : Nat) {v1 : Int32} {I : TI} {J : TJ} {z : Int32 × SS}  (h : fX4_worstAt v1 I J = some z) : Met l yX4_worstAt (wsm yX4_worstAt cX4_worstAt 2 (some .int)) (rmd 0) (va_Pc [.ref (ad 0), .int v1] (gPre D (xw cI cJ cV ad) (xt cI cJ cV) sz I J)) (gQi D (xw cI cJ cV ad) (xt cI cJ cV) (xL ad) sz z) 0 0 (gA (xL ad) sz) :=
  g_met (by decide) xw_WL (fun p e s m below meth c hsz C hB ls hl => by subst hsz; exact tX4_worstAt C hB  hl h) (Nat.le_of_ble_eq_true rfl)
theorem hdX4_above : yX4_above.cls = "BitTuner" ∧ yX4_above.cls ≠ "java/lang/invoke/MethodHandle" ∧ yX4_above.cls ≠ "java/lang/invoke/VarHandle" ∧ (parseMethodDescriptor yX4_above.desc).map (fun d => d.parameters.length) = some 2 := by decide +kernel
def fX4_above  (v1 : Int32) (v2 : Int64) (I : TI) (J : TJ) : Option (Int32 × SS) :=
  bnd (fX0_has v1 I J) (fun q_1 I_1 J_1 =>
  if q_1 = 0 then
  some ((-2 : Int32), I_1, J_1)
  else
  bnd (fX1_areFew I_1 J_1) (fun q_3 I_3 J_3 =>
  if q_3 = 0 then
  some ((-5 : Int32), I_3, J_3)
  else
  bnd (fX1_rowsAbove v1 v2 I_3 J_3) (fun q_5 I_5 J_5 =>
  some (q_5, I_5, J_5))))
set_option maxHeartbeats 4000000 in
set_option maxRecDepth 100000 in
theorem tX4_above {p : Program} {l : Launch} {e : Env} {s : State} {m : MethodId} {args : Array Value} {below : List Frame} {meth : Method} {c : Code} (C : KX p s m args meth c "BitTuner" cX4_above 4 (some .int)) {D : va_G} {cI cJ cV : ClassId} {ad : Nat → Nat} {z : Int32 × SS}   {H : Heap} {locs : List Loc} {ls : Array Slot} {I : TI} {J : TJ} {v1 : Int32} {v2 : Int64} (hB : XB D cI cJ cV ad s H locs I J)  (hl : lv_has ls 4 [(0, .ref (ad 0)), (1, .int v1), (2, .long v2)]) (h : fX4_above v1 v2 I J = some z) : W p l e (rmd 5) s m args below meth c H locs 0 0 (MQ below (gQi D (xw cI cJ cV ad) (xt cI cJ cV) (xL ad) s.heap.size z) args s 0 0 (gA (xL ad) s.heap.size)) (F0 m 0 ls []) := by
  unfold fX4_above at h
  refine lv_aload_n C.hx C.hb dX4_above_0 rfl (lv_at hl 0 rfl) ?_
  refine xg_t_program C hB tw_186 dX4_above_1 ?_
  refine lv_iload_n C.hx C.hb dX4_above_4 rfl (lv_at hl 1 rfl) ?_
  obtain ⟨q_1, I_1, J_1, hc_1, h⟩ := bnd_some h
  refine g_goi hB (g_runV C hB [.int v1] [] (cnX0_has l D cI cJ cV ad H.size  hc_1) 1 rfl rfl tw_234 tw_235 tw_236 tw_34 tw_237 ⟨rfl, rfl⟩ hdX0_has ⟨Nat.le_of_ble_eq_true rfl, Nat.le_of_ble_eq_true rfl⟩ hl.1 rfl (Nat.le_of_ble_eq_true rfl) dX4_above_5) (fun H locs hB => ?_)
  refine lv_if_ne (tgt := 14) C.hx C.hb dX4_above_8 (by decide) (fun c_2 => ?_) (fun c_2 => ?_)
  · replace h := (if_neg c_2).symm.trans h
    refine lv_aload_n C.hx C.hb dX4_above_14 rfl (lv_at hl 0 rfl) ?_
    refine xg_t_runs C hB tw_187 dX4_above_15 ?_
    obtain ⟨q_3, I_3, J_3, hc_3, h⟩ := bnd_some h
    refine g_goi hB (g_runV C hB [] [] (cnX1_areFew l D cI cJ cV ad H.size  hc_3) 3 rfl rfl tw_427 tw_428 tw_429 tw_36 tw_430 ⟨rfl, rfl⟩ hdX1_areFew ⟨Nat.le_of_ble_eq_true rfl, Nat.le_of_ble_eq_true rfl⟩ hl.1 rfl (Nat.le_of_ble_eq_true rfl) dX4_above_18) (fun H locs hB => ?_)
    refine lv_if_eq (tgt := 36) C.hx C.hb dX4_above_21 (by decide) (fun c_4 => ?_) (fun c_4 => ?_)
    · replace h := (if_pos c_4).symm.trans h
      refine lv_bipush (v := (-5 : Int32)) C.hx C.hb dX4_above_36 (by decide) ?_
      exact g_iret C hB h dX4_above_38
    · replace h := (if_neg c_4).symm.trans h
      refine lv_aload_n C.hx C.hb dX4_above_24 rfl (lv_at hl 0 rfl) ?_
      refine xg_t_runs C hB tw_187 dX4_above_25 ?_
      refine lv_iload_n C.hx C.hb dX4_above_28 rfl (lv_at hl 1 rfl) ?_
      refine lv_lload_n C.hx C.hb dX4_above_29 rfl (lv_at hl 2 rfl) ?_
      obtain ⟨q_5, I_5, J_5, hc_5, h⟩ := bnd_some h
      refine g_goi hB (g_runV C hB [.int v1, .long v2] [] (cnX1_rowsAbove l D cI cJ cV ad H.size  hc_5) 3 rfl rfl tw_459 tw_460 tw_461 tw_36 tw_462 ⟨rfl, rfl⟩ hdX1_rowsAbove ⟨Nat.le_of_ble_eq_true rfl, Nat.le_of_ble_eq_true rfl⟩ hl.1 rfl (Nat.le_of_ble_eq_true rfl) dX4_above_30) (fun H locs hB => ?_)
      refine lv_goto (tgt := 38) C.hx C.hb dX4_above_33 (by decide) ?_
      exact g_iret C hB h dX4_above_38
  · replace h := (if_pos c_2).symm.trans h
    refine lv_bipush (v := (-2 : Int32)) C.hx C.hb dX4_above_11 (by decide) ?_
    exact g_iret C hB h dX4_above_13
set_option maxHeartbeats 4000000 in
set_option maxRecDepth 100000 in
theorem cnX4_above (l : Launch) (D : va_G) (cI cJ cV : ClassId) (ad : Nat → Nat) (sz : Nat) {v1 : Int32} {v2 : Int64} {I : TI} {J : TJ} {z : Int32 × SS}  (h : fX4_above v1 v2 I J = some z) : Met l yX4_above (wsm yX4_above cX4_above 4 (some .int)) (rmd 5) (va_Pc [.ref (ad 0), .int v1, .long v2] (gPre D (xw cI cJ cV ad) (xt cI cJ cV) sz I J)) (gQi D (xw cI cJ cV ad) (xt cI cJ cV) (xL ad) sz z) 0 0 (gA (xL ad) sz) :=
  g_met (by decide) xw_WL (fun p e s m below meth c hsz C hB ls hl => by subst hsz; exact tX4_above C hB  hl h) (Nat.le_of_ble_eq_true rfl)
theorem hdX4_least : yX4_least.cls = "BitTuner" ∧ yX4_least.cls ≠ "java/lang/invoke/MethodHandle" ∧ yX4_least.cls ≠ "java/lang/invoke/VarHandle" ∧ (parseMethodDescriptor yX4_least.desc).map (fun d => d.parameters.length) = some 2 := by decide +kernel
def fX4_least  (v1 : Int32) (v2 : Int64) (I : TI) (J : TJ) : Option (Int32 × SS) :=
  bnd (fX0_has v1 I J) (fun q_1 I_1 J_1 =>
  if q_1 = 0 then
  some ((-2 : Int32), I_1, J_1)
  else
  if (0 : Int64) ≤ v2 then
  bnd (fX3_chooseCheapest v1 v2 I_1 J_1) (fun q_4 I_4 J_4 =>
  some (q_4, I_4, J_4))
  else
  some ((-2 : Int32), I_1, J_1))
set_option maxHeartbeats 4000000 in
set_option maxRecDepth 100000 in
theorem tX4_least {p : Program} {l : Launch} {e : Env} {s : State} {m : MethodId} {args : Array Value} {below : List Frame} {meth : Method} {c : Code} (C : KX p s m args meth c "BitTuner" cX4_least 4 (some .int)) {D : va_G} {cI cJ cV : ClassId} {ad : Nat → Nat} {z : Int32 × SS}   {H : Heap} {locs : List Loc} {ls : Array Slot} {I : TI} {J : TJ} {v1 : Int32} {v2 : Int64} (hB : XB D cI cJ cV ad s H locs I J)  (hl : lv_has ls 4 [(0, .ref (ad 0)), (1, .int v1), (2, .long v2)]) (h : fX4_least v1 v2 I J = some z) : W p l e (rmd 24) s m args below meth c H locs 0 0 (MQ below (gQi D (xw cI cJ cV ad) (xt cI cJ cV) (xL ad) s.heap.size z) args s 0 0 (gA (xL ad) s.heap.size)) (F0 m 0 ls []) := by
  unfold fX4_least at h
  refine lv_aload_n C.hx C.hb dX4_least_0 rfl (lv_at hl 0 rfl) ?_
  refine xg_t_program C hB tw_186 dX4_least_1 ?_
  refine lv_iload_n C.hx C.hb dX4_least_4 rfl (lv_at hl 1 rfl) ?_
  obtain ⟨q_1, I_1, J_1, hc_1, h⟩ := bnd_some h
  refine g_goi hB (g_runV C hB [.int v1] [] (cnX0_has l D cI cJ cV ad H.size  hc_1) 1 rfl rfl tw_234 tw_235 tw_236 tw_34 tw_237 ⟨rfl, rfl⟩ hdX0_has ⟨Nat.le_of_ble_eq_true rfl, Nat.le_of_ble_eq_true rfl⟩ hl.1 rfl (Nat.le_of_ble_eq_true rfl) dX4_least_5) (fun H locs hB => ?_)
  refine lv_if_eq (tgt := 17) C.hx C.hb dX4_least_8 (by decide) (fun c_2 => ?_) (fun c_2 => ?_)
  · replace h := (if_pos c_2).symm.trans h
    refine lv_bipush (v := (-2 : Int32)) C.hx C.hb dX4_least_17 (by decide) ?_
    exact g_iret C hB h dX4_least_19
  · replace h := (if_neg c_2).symm.trans h
    refine lv_lload_n C.hx C.hb dX4_least_11 rfl (lv_at hl 2 rfl) ?_
    refine lv_lconst (v := (0 : Int64)) C.hx C.hb dX4_least_12 (by decide) ?_
    refine g_lcmp_ge C (tgt := 20) dX4_least_13 dX4_least_14 (by decide) (fun c_3 => ?_) (fun c_3 => ?_)
    · replace h := (if_pos c_3).symm.trans h
      refine lv_aload_n C.hx C.hb dX4_least_20 rfl (lv_at hl 0 rfl) ?_
      refine xg_t_widths C hB tw_188 dX4_least_21 ?_
      refine lv_iload_n C.hx C.hb dX4_least_24 rfl (lv_at hl 1 rfl) ?_
      refine lv_lload_n C.hx C.hb dX4_least_25 rfl (lv_at hl 2 rfl) ?_
      obtain ⟨q_4, I_4, J_4, hc_4, h⟩ := bnd_some h
      refine g_goi hB (g_runV C hB [.int v1, .long v2] [] (cnX3_chooseCheapest l D cI cJ cV ad H.size  hc_4) 4 rfl rfl tw_467 tw_468 tw_469 tw_37 tw_470 ⟨rfl, rfl⟩ hdX3_chooseCheapest ⟨Nat.le_of_ble_eq_true rfl, Nat.le_of_ble_eq_true rfl⟩ hl.1 rfl (Nat.le_of_ble_eq_true rfl) dX4_least_26) (fun H locs hB => ?_)
      exact g_iret C hB h dX4_least_29
    · replace h := (if_neg c_3).symm.trans h
      refine lv_bipush (v := (-2 : Int32)) C.hx C.hb dX4_least_17 (by decide) ?_
      exact g_iret C hB h dX4_least_19
set_option maxHeartbeats 4000000 in
set_option maxRecDepth 100000 in
theorem cnX4_least (l : Launch) (D : va_G) (cI cJ cV : ClassId) (ad : Nat → Nat) (sz : Nat) {v1 : Int32} {v2 : Int64} {I : TI} {J : TJ} {z : Int32 × SS}  (h : fX4_least v1 v2 I J = some z) : Met l yX4_least (wsm yX4_least cX4_least 4 (some .int)) (rmd 24) (va_Pc [.ref (ad 0), .int v1, .long v2] (gPre D (xw cI cJ cV ad) (xt cI cJ cV) sz I J)) (gQi D (xw cI cJ cV ad) (xt cI cJ cV) (xL ad) sz z) 0 0 (gA (xL ad) sz) :=
  g_met (by decide) xw_WL (fun p e s m below meth c hsz C hB ls hl => by subst hsz; exact tX4_least C hB  hl h) (Nat.le_of_ble_eq_true rfl)
theorem hdX4_trim : yX4_trim.cls = "BitTuner" ∧ yX4_trim.cls ≠ "java/lang/invoke/MethodHandle" ∧ yX4_trim.cls ≠ "java/lang/invoke/VarHandle" ∧ (parseMethodDescriptor yX4_trim.desc).map (fun d => d.parameters.length) = some 2 := by decide +kernel
def fX4_trim  (v1 : Int32) (v2 : Int64) (I : TI) (J : TJ) : Option (Int32 × SS) :=
  bnd (fX0_has v1 I J) (fun q_1 I_1 J_1 =>
  if q_1 = 0 then
  some ((-2 : Int32), I_1, J_1)
  else
  if (0 : Int64) ≤ v2 then
  bnd (fX3_lessenInTurn v1 v2 I_1 J_1) (fun q_4 I_4 J_4 =>
  some (q_4, I_4, J_4))
  else
  some ((-2 : Int32), I_1, J_1))
set_option maxHeartbeats 4000000 in
set_option maxRecDepth 100000 in
theorem tX4_trim {p : Program} {l : Launch} {e : Env} {s : State} {m : MethodId} {args : Array Value} {below : List Frame} {meth : Method} {c : Code} (C : KX p s m args meth c "BitTuner" cX4_trim 4 (some .int)) {D : va_G} {cI cJ cV : ClassId} {ad : Nat → Nat} {z : Int32 × SS}   {H : Heap} {locs : List Loc} {ls : Array Slot} {I : TI} {J : TJ} {v1 : Int32} {v2 : Int64} (hB : XB D cI cJ cV ad s H locs I J)  (hl : lv_has ls 4 [(0, .ref (ad 0)), (1, .int v1), (2, .long v2)]) (h : fX4_trim v1 v2 I J = some z) : W p l e (rmd 5) s m args below meth c H locs 0 0 (MQ below (gQi D (xw cI cJ cV ad) (xt cI cJ cV) (xL ad) s.heap.size z) args s 0 0 (gA (xL ad) s.heap.size)) (F0 m 0 ls []) := by
  unfold fX4_trim at h
  refine lv_aload_n C.hx C.hb dX4_trim_0 rfl (lv_at hl 0 rfl) ?_
  refine xg_t_program C hB tw_186 dX4_trim_1 ?_
  refine lv_iload_n C.hx C.hb dX4_trim_4 rfl (lv_at hl 1 rfl) ?_
  obtain ⟨q_1, I_1, J_1, hc_1, h⟩ := bnd_some h
  refine g_goi hB (g_runV C hB [.int v1] [] (cnX0_has l D cI cJ cV ad H.size  hc_1) 1 rfl rfl tw_234 tw_235 tw_236 tw_34 tw_237 ⟨rfl, rfl⟩ hdX0_has ⟨Nat.le_of_ble_eq_true rfl, Nat.le_of_ble_eq_true rfl⟩ hl.1 rfl (Nat.le_of_ble_eq_true rfl) dX4_trim_5) (fun H locs hB => ?_)
  refine lv_if_eq (tgt := 17) C.hx C.hb dX4_trim_8 (by decide) (fun c_2 => ?_) (fun c_2 => ?_)
  · replace h := (if_pos c_2).symm.trans h
    refine lv_bipush (v := (-2 : Int32)) C.hx C.hb dX4_trim_17 (by decide) ?_
    exact g_iret C hB h dX4_trim_19
  · replace h := (if_neg c_2).symm.trans h
    refine lv_lload_n C.hx C.hb dX4_trim_11 rfl (lv_at hl 2 rfl) ?_
    refine lv_lconst (v := (0 : Int64)) C.hx C.hb dX4_trim_12 (by decide) ?_
    refine g_lcmp_ge C (tgt := 20) dX4_trim_13 dX4_trim_14 (by decide) (fun c_3 => ?_) (fun c_3 => ?_)
    · replace h := (if_pos c_3).symm.trans h
      refine lv_aload_n C.hx C.hb dX4_trim_20 rfl (lv_at hl 0 rfl) ?_
      refine xg_t_widths C hB tw_188 dX4_trim_21 ?_
      refine lv_iload_n C.hx C.hb dX4_trim_24 rfl (lv_at hl 1 rfl) ?_
      refine lv_lload_n C.hx C.hb dX4_trim_25 rfl (lv_at hl 2 rfl) ?_
      obtain ⟨q_4, I_4, J_4, hc_4, h⟩ := bnd_some h
      refine g_goi hB (g_runV C hB [.int v1, .long v2] [] (cnX3_lessenInTurn l D cI cJ cV ad H.size  hc_4) 4 rfl rfl tw_492 tw_493 tw_494 tw_37 tw_495 ⟨rfl, rfl⟩ hdX3_lessenInTurn ⟨Nat.le_of_ble_eq_true rfl, Nat.le_of_ble_eq_true rfl⟩ hl.1 rfl (Nat.le_of_ble_eq_true rfl) dX4_trim_26) (fun H locs hB => ?_)
      exact g_iret C hB h dX4_trim_29
    · replace h := (if_neg c_3).symm.trans h
      refine lv_bipush (v := (-2 : Int32)) C.hx C.hb dX4_trim_17 (by decide) ?_
      exact g_iret C hB h dX4_trim_19
set_option maxHeartbeats 4000000 in
set_option maxRecDepth 100000 in
theorem cnX4_trim (l : Launch) (D : va_G) (cI cJ cV : ClassId) (ad : Nat → Nat) (sz : Nat) {v1 : Int32} {v2 : Int64} {I : TI} {J : TJ} {z : Int32 × SS}  (h : fX4_trim v1 v2 I J = some z) : Met l yX4_trim (wsm yX4_trim cX4_trim 4 (some .int)) (rmd 5) (va_Pc [.ref (ad 0), .int v1, .long v2] (gPre D (xw cI cJ cV ad) (xt cI cJ cV) sz I J)) (gQi D (xw cI cJ cV ad) (xt cI cJ cV) (xL ad) sz z) 0 0 (gA (xL ad) sz) :=
  g_met (by decide) xw_WL (fun p e s m below meth c hsz C hB ls hl => by subst hsz; exact tX4_trim C hB  hl h) (Nat.le_of_ble_eq_true rfl)
theorem hdX4_floor : yX4_floor.cls = "BitTuner" ∧ yX4_floor.cls ≠ "java/lang/invoke/MethodHandle" ∧ yX4_floor.cls ≠ "java/lang/invoke/VarHandle" ∧ (parseMethodDescriptor yX4_floor.desc).map (fun d => d.parameters.length) = some 1 := by decide +kernel
def fX4_floor  (v1 : Int32) (I : TI) (J : TJ) : Option (Int64 × SS) :=
  bnd (fX0_has v1 I J) (fun q_1 I_1 J_1 =>
  if q_1 = 0 then
  bnd (fX4_refusal (-2 : Int32) I_1 J_1) (fun q_3 I_3 J_3 =>
  some (q_3, I_3, J_3))
  else
  bnd (fX3_boundAtWidest v1 I_1 J_1) (fun q_4 I_4 J_4 =>
  some (q_4, I_4, J_4)))
set_option maxHeartbeats 4000000 in
set_option maxRecDepth 100000 in
theorem tX4_floor {p : Program} {l : Launch} {e : Env} {s : State} {m : MethodId} {args : Array Value} {below : List Frame} {meth : Method} {c : Code} (C : KX p s m args meth c "BitTuner" cX4_floor 2 (some .long)) {D : va_G} {cI cJ cV : ClassId} {ad : Nat → Nat} {z : Int64 × SS}   {H : Heap} {locs : List Loc} {ls : Array Slot} {I : TI} {J : TJ} {v1 : Int32} (hB : XB D cI cJ cV ad s H locs I J)  (hl : lv_has ls 2 [(0, .ref (ad 0)), (1, .int v1)]) (h : fX4_floor v1 I J = some z) : W p l e (rmd 4) s m args below meth c H locs 0 0 (MQ below (gQl D (xw cI cJ cV ad) (xt cI cJ cV) (xL ad) s.heap.size z) args s 0 0 (gA (xL ad) s.heap.size)) (F0 m 0 ls []) := by
  unfold fX4_floor at h
  refine lv_aload_n C.hx C.hb dX4_floor_0 rfl (lv_at hl 0 rfl) ?_
  refine xg_t_program C hB tw_186 dX4_floor_1 ?_
  refine lv_iload_n C.hx C.hb dX4_floor_4 rfl (lv_at hl 1 rfl) ?_
  obtain ⟨q_1, I_1, J_1, hc_1, h⟩ := bnd_some h
  refine g_goi hB (g_runV C hB [.int v1] [] (cnX0_has l D cI cJ cV ad H.size  hc_1) 1 rfl rfl tw_234 tw_235 tw_236 tw_34 tw_237 ⟨rfl, rfl⟩ hdX0_has ⟨Nat.le_of_ble_eq_true rfl, Nat.le_of_ble_eq_true rfl⟩ hl.1 rfl (Nat.le_of_ble_eq_true rfl) dX4_floor_5) (fun H locs hB => ?_)
  refine lv_if_eq (tgt := 22) C.hx C.hb dX4_floor_8 (by decide) (fun c_2 => ?_) (fun c_2 => ?_)
  · replace h := (if_pos c_2).symm.trans h
    refine lv_bipush (v := (-2 : Int32)) C.hx C.hb dX4_floor_22 (by decide) ?_
    obtain ⟨q_3, I_3, J_3, hc_3, h⟩ := bnd_some h
    refine g_gol hB (g_runS C hB [.int (-2 : Int32)] [] (cnX4_refusal l D cI cJ cV ad H.size  hc_3) tw_303 tw_304 tw_33 tw_305 ⟨rfl, rfl⟩ hdX4_refusal ⟨Nat.le_of_ble_eq_true rfl, Nat.le_of_ble_eq_true rfl⟩ hl.1 rfl (Nat.le_of_ble_eq_true rfl) dX4_floor_24) (fun H locs hB => ?_)
    exact g_lret C hB h dX4_floor_27
  · replace h := (if_neg c_2).symm.trans h
    refine lv_aload_n C.hx C.hb dX4_floor_11 rfl (lv_at hl 0 rfl) ?_
    refine xg_t_widths C hB tw_188 dX4_floor_12 ?_
    refine lv_iload_n C.hx C.hb dX4_floor_15 rfl (lv_at hl 1 rfl) ?_
    obtain ⟨q_4, I_4, J_4, hc_4, h⟩ := bnd_some h
    refine g_gol hB (g_runV C hB [.int v1] [] (cnX3_boundAtWidest l D cI cJ cV ad H.size  hc_4) 4 rfl rfl tw_513 tw_497 tw_498 tw_37 tw_499 ⟨rfl, rfl⟩ hdX3_boundAtWidest ⟨Nat.le_of_ble_eq_true rfl, Nat.le_of_ble_eq_true rfl⟩ hl.1 rfl (Nat.le_of_ble_eq_true rfl) dX4_floor_16) (fun H locs hB => ?_)
    refine lv_goto (tgt := 27) C.hx C.hb dX4_floor_19 (by decide) ?_
    exact g_lret C hB h dX4_floor_27
set_option maxHeartbeats 4000000 in
set_option maxRecDepth 100000 in
theorem cnX4_floor (l : Launch) (D : va_G) (cI cJ cV : ClassId) (ad : Nat → Nat) (sz : Nat) {v1 : Int32} {I : TI} {J : TJ} {z : Int64 × SS}  (h : fX4_floor v1 I J = some z) : Met l yX4_floor (wsm yX4_floor cX4_floor 2 (some .long)) (rmd 4) (va_Pc [.ref (ad 0), .int v1] (gPre D (xw cI cJ cV ad) (xt cI cJ cV) sz I J)) (gQl D (xw cI cJ cV ad) (xt cI cJ cV) (xL ad) sz z) 0 0 (gA (xL ad) sz) :=
  g_met (by decide) xw_WL (fun p e s m below meth c hsz C hB ls hl => by subst hsz; exact tX4_floor C hB  hl h) (Nat.le_of_ble_eq_true rfl)
theorem hdX4_gain : yX4_gain.cls = "BitTuner" ∧ yX4_gain.cls ≠ "java/lang/invoke/MethodHandle" ∧ yX4_gain.cls ≠ "java/lang/invoke/VarHandle" ∧ (parseMethodDescriptor yX4_gain.desc).map (fun d => d.parameters.length) = some 2 := by decide +kernel
def fX4_gain_22   (I : TI) (J : TJ) : Option (Int64 × SS) :=
  bnd (fX4_refusal (-2 : Int32) I J) (fun q_3 I_3 J_3 =>
  some (q_3, I_3, J_3))
set_option maxHeartbeats 4000000 in
set_option maxRecDepth 100000 in
theorem tX4_gain_22 {p : Program} {l : Launch} {e : Env} {s : State} {m : MethodId} {args : Array Value} {below : List Frame} {meth : Method} {c : Code} (C : KX p s m args meth c "BitTuner" cX4_gain 3 (some .long)) {D : va_G} {cI cJ cV : ClassId} {ad : Nat → Nat} {z : Int64 × SS}   {H : Heap} {locs : List Loc} {ls : Array Slot} {I : TI} {J : TJ}  (hB : XB D cI cJ cV ad s H locs I J)  (hl : lv_has ls 3 []) (h : fX4_gain_22 I J = some z) : W p l e (rmd 5) s m args below meth c H locs 0 0 (MQ below (gQl D (xw cI cJ cV ad) (xt cI cJ cV) (xL ad) s.heap.size z) args s 0 0 (gA (xL ad) s.heap.size)) (F0 m 22 ls []) := by
  unfold fX4_gain_22 at h
  refine lv_bipush (v := (-2 : Int32)) C.hx C.hb dX4_gain_22 (by decide) ?_
  obtain ⟨q_3, I_3, J_3, hc_3, h⟩ := bnd_some h
  refine g_gol hB (g_runS C hB [.int (-2 : Int32)] [] (cnX4_refusal l D cI cJ cV ad H.size  hc_3) tw_303 tw_304 tw_33 tw_305 ⟨rfl, rfl⟩ hdX4_refusal ⟨Nat.le_of_ble_eq_true rfl, Nat.le_of_ble_eq_true rfl⟩ hl.1 rfl (Nat.le_of_ble_eq_true rfl) dX4_gain_24) (fun H locs hB => ?_)
  exact g_lret C hB h dX4_gain_27
def fX4_gain  (v1 : Int32) (v2 : Int32) (I : TI) (J : TJ) : Option (Int64 × SS) :=
  bnd (fX0_has v1 I J) (fun q_1 I_1 J_1 =>
  if q_1 = 0 then
  fX4_gain_22 I_1 J_1
  else
  bnd (fX0_has v2 I_1 J_1) (fun q_4 I_4 J_4 =>
  if q_4 = 0 then
  fX4_gain_22 I_4 J_4
  else
  bnd (fX3_gainOf v1 v2 I_4 J_4) (fun q_6 I_6 J_6 =>
  some (q_6, I_6, J_6))))
set_option maxHeartbeats 4000000 in
set_option maxRecDepth 100000 in
theorem tX4_gain {p : Program} {l : Launch} {e : Env} {s : State} {m : MethodId} {args : Array Value} {below : List Frame} {meth : Method} {c : Code} (C : KX p s m args meth c "BitTuner" cX4_gain 3 (some .long)) {D : va_G} {cI cJ cV : ClassId} {ad : Nat → Nat} {z : Int64 × SS}   {H : Heap} {locs : List Loc} {ls : Array Slot} {I : TI} {J : TJ} {v1 : Int32} {v2 : Int32} (hB : XB D cI cJ cV ad s H locs I J)  (hl : lv_has ls 3 [(0, .ref (ad 0)), (1, .int v1), (2, .int v2)]) (h : fX4_gain v1 v2 I J = some z) : W p l e (rmd 5) s m args below meth c H locs 0 0 (MQ below (gQl D (xw cI cJ cV ad) (xt cI cJ cV) (xL ad) s.heap.size z) args s 0 0 (gA (xL ad) s.heap.size)) (F0 m 0 ls []) := by
  unfold fX4_gain at h
  refine lv_aload_n C.hx C.hb dX4_gain_0 rfl (lv_at hl 0 rfl) ?_
  refine xg_t_program C hB tw_186 dX4_gain_1 ?_
  refine lv_iload_n C.hx C.hb dX4_gain_4 rfl (lv_at hl 1 rfl) ?_
  obtain ⟨q_1, I_1, J_1, hc_1, h⟩ := bnd_some h
  refine g_goi hB (g_runV C hB [.int v1] [] (cnX0_has l D cI cJ cV ad H.size  hc_1) 1 rfl rfl tw_234 tw_235 tw_236 tw_34 tw_237 ⟨rfl, rfl⟩ hdX0_has ⟨Nat.le_of_ble_eq_true rfl, Nat.le_of_ble_eq_true rfl⟩ hl.1 rfl (Nat.le_of_ble_eq_true rfl) dX4_gain_5) (fun H locs hB => ?_)
  refine lv_if_eq (tgt := 22) C.hx C.hb dX4_gain_8 (by decide) (fun c_2 => ?_) (fun c_2 => ?_)
  · replace h := (if_pos c_2).symm.trans h
    exact tX4_gain_22 C  hB (lv_sub hl [] rfl) h
  · replace h := (if_neg c_2).symm.trans h
    refine lv_aload_n C.hx C.hb dX4_gain_11 rfl (lv_at hl 0 rfl) ?_
    refine xg_t_program C hB tw_186 dX4_gain_12 ?_
    refine lv_iload_n C.hx C.hb dX4_gain_15 rfl (lv_at hl 2 rfl) ?_
    obtain ⟨q_4, I_4, J_4, hc_4, h⟩ := bnd_some h
    refine g_goi hB (g_runV C hB [.int v2] [] (cnX0_has l D cI cJ cV ad H.size  hc_4) 1 rfl rfl tw_234 tw_235 tw_236 tw_34 tw_237 ⟨rfl, rfl⟩ hdX0_has ⟨Nat.le_of_ble_eq_true rfl, Nat.le_of_ble_eq_true rfl⟩ hl.1 rfl (Nat.le_of_ble_eq_true rfl) dX4_gain_16) (fun H locs hB => ?_)
    refine lv_if_ne (tgt := 28) C.hx C.hb dX4_gain_19 (by decide) (fun c_5 => ?_) (fun c_5 => ?_)
    · replace h := (if_neg c_5).symm.trans h
      refine lv_aload_n C.hx C.hb dX4_gain_28 rfl (lv_at hl 0 rfl) ?_
      refine xg_t_widths C hB tw_188 dX4_gain_29 ?_
      refine lv_iload_n C.hx C.hb dX4_gain_32 rfl (lv_at hl 1 rfl) ?_
      refine lv_iload_n C.hx C.hb dX4_gain_33 rfl (lv_at hl 2 rfl) ?_
      obtain ⟨q_6, I_6, J_6, hc_6, h⟩ := bnd_some h
      refine g_gol hB (g_runV C hB [.int v1, .int v2] [] (cnX3_gainOf l D cI cJ cV ad H.size  hc_6) 4 rfl rfl tw_518 tw_519 tw_520 tw_37 tw_521 ⟨rfl, rfl⟩ hdX3_gainOf ⟨Nat.le_of_ble_eq_true rfl, Nat.le_of_ble_eq_true rfl⟩ hl.1 rfl (Nat.le_of_ble_eq_true rfl) dX4_gain_34) (fun H locs hB => ?_)
      exact g_lret C hB h dX4_gain_37
    · replace h := (if_pos c_5).symm.trans h
      exact tX4_gain_22 C  hB (lv_sub hl [] rfl) h
set_option maxHeartbeats 4000000 in
set_option maxRecDepth 100000 in
theorem cnX4_gain (l : Launch) (D : va_G) (cI cJ cV : ClassId) (ad : Nat → Nat) (sz : Nat) {v1 : Int32} {v2 : Int32} {I : TI} {J : TJ} {z : Int64 × SS}  (h : fX4_gain v1 v2 I J = some z) : Met l yX4_gain (wsm yX4_gain cX4_gain 3 (some .long)) (rmd 5) (va_Pc [.ref (ad 0), .int v1, .int v2] (gPre D (xw cI cJ cV ad) (xt cI cJ cV) sz I J)) (gQl D (xw cI cJ cV ad) (xt cI cJ cV) (xL ad) sz z) 0 0 (gA (xL ad) sz) :=
  g_met (by decide) xw_WL (fun p e s m below meth c hsz C hB ls hl => by subst hsz; exact tX4_gain C hB  hl h) (Nat.le_of_ble_eq_true rfl)
theorem hdX4_blame : yX4_blame.cls = "BitTuner" ∧ yX4_blame.cls ≠ "java/lang/invoke/MethodHandle" ∧ yX4_blame.cls ≠ "java/lang/invoke/VarHandle" ∧ (parseMethodDescriptor yX4_blame.desc).map (fun d => d.parameters.length) = some 1 := by decide +kernel
def fX4_blame  (v1 : Int32) (I : TI) (J : TJ) : Option (Int32 × SS) :=
  bnd (fX0_has v1 I J) (fun q_1 I_1 J_1 =>
  if q_1 = 0 then
  some ((-2 : Int32), I_1, J_1)
  else
  bnd (fX3_mostToBlame v1 I_1 J_1) (fun q_3 I_3 J_3 =>
  some (q_3, I_3, J_3)))
set_option maxHeartbeats 4000000 in
set_option maxRecDepth 100000 in
theorem tX4_blame {p : Program} {l : Launch} {e : Env} {s : State} {m : MethodId} {args : Array Value} {below : List Frame} {meth : Method} {c : Code} (C : KX p s m args meth c "BitTuner" cX4_blame 2 (some .int)) {D : va_G} {cI cJ cV : ClassId} {ad : Nat → Nat} {z : Int32 × SS}   {H : Heap} {locs : List Loc} {ls : Array Slot} {I : TI} {J : TJ} {v1 : Int32} (hB : XB D cI cJ cV ad s H locs I J)  (hl : lv_has ls 2 [(0, .ref (ad 0)), (1, .int v1)]) (h : fX4_blame v1 I J = some z) : W p l e (rmd 6) s m args below meth c H locs 0 0 (MQ below (gQi D (xw cI cJ cV ad) (xt cI cJ cV) (xL ad) s.heap.size z) args s 0 0 (gA (xL ad) s.heap.size)) (F0 m 0 ls []) := by
  unfold fX4_blame at h
  refine lv_aload_n C.hx C.hb dX4_blame_0 rfl (lv_at hl 0 rfl) ?_
  refine xg_t_program C hB tw_186 dX4_blame_1 ?_
  refine lv_iload_n C.hx C.hb dX4_blame_4 rfl (lv_at hl 1 rfl) ?_
  obtain ⟨q_1, I_1, J_1, hc_1, h⟩ := bnd_some h
  refine g_goi hB (g_runV C hB [.int v1] [] (cnX0_has l D cI cJ cV ad H.size  hc_1) 1 rfl rfl tw_234 tw_235 tw_236 tw_34 tw_237 ⟨rfl, rfl⟩ hdX0_has ⟨Nat.le_of_ble_eq_true rfl, Nat.le_of_ble_eq_true rfl⟩ hl.1 rfl (Nat.le_of_ble_eq_true rfl) dX4_blame_5) (fun H locs hB => ?_)
  refine lv_if_eq (tgt := 22) C.hx C.hb dX4_blame_8 (by decide) (fun c_2 => ?_) (fun c_2 => ?_)
  · replace h := (if_pos c_2).symm.trans h
    refine lv_bipush (v := (-2 : Int32)) C.hx C.hb dX4_blame_22 (by decide) ?_
    exact g_iret C hB h dX4_blame_24
  · replace h := (if_neg c_2).symm.trans h
    refine lv_aload_n C.hx C.hb dX4_blame_11 rfl (lv_at hl 0 rfl) ?_
    refine xg_t_widths C hB tw_188 dX4_blame_12 ?_
    refine lv_iload_n C.hx C.hb dX4_blame_15 rfl (lv_at hl 1 rfl) ?_
    obtain ⟨q_3, I_3, J_3, hc_3, h⟩ := bnd_some h
    refine g_goi hB (g_runV C hB [.int v1] [] (cnX3_mostToBlame l D cI cJ cV ad H.size  hc_3) 4 rfl rfl tw_527 tw_528 tw_529 tw_37 tw_530 ⟨rfl, rfl⟩ hdX3_mostToBlame ⟨Nat.le_of_ble_eq_true rfl, Nat.le_of_ble_eq_true rfl⟩ hl.1 rfl (Nat.le_of_ble_eq_true rfl) dX4_blame_16) (fun H locs hB => ?_)
    refine lv_goto (tgt := 24) C.hx C.hb dX4_blame_19 (by decide) ?_
    exact g_iret C hB h dX4_blame_24
set_option maxHeartbeats 4000000 in
set_option maxRecDepth 100000 in
theorem cnX4_blame (l : Launch) (D : va_G) (cI cJ cV : ClassId) (ad : Nat → Nat) (sz : Nat) {v1 : Int32} {I : TI} {J : TJ} {z : Int32 × SS}  (h : fX4_blame v1 I J = some z) : Met l yX4_blame (wsm yX4_blame cX4_blame 2 (some .int)) (rmd 6) (va_Pc [.ref (ad 0), .int v1] (gPre D (xw cI cJ cV ad) (xt cI cJ cV) sz I J)) (gQi D (xw cI cJ cV ad) (xt cI cJ cV) (xL ad) sz z) 0 0 (gA (xL ad) sz) :=
  g_met (by decide) xw_WL (fun p e s m below meth c hsz C hB ls hl => by subst hsz; exact tX4_blame C hB  hl h) (Nat.le_of_ble_eq_true rfl)
theorem hdX4_count : yX4_count.cls = "BitTuner" ∧ yX4_count.cls ≠ "java/lang/invoke/MethodHandle" ∧ yX4_count.cls ≠ "java/lang/invoke/VarHandle" ∧ (parseMethodDescriptor yX4_count.desc).map (fun d => d.parameters.length) = some 1 := by decide +kernel
def fX4_count  (v1 : Int32) (I : TI) (J : TJ) : Option (Int32 × SS) :=
  if v1 = 0 then
  some (I 12 0, I, J)
  else
  if v1 = 1 then
  bnd (fX0_inputs I J) (fun q_3 I_3 J_3 =>
  some (q_3, I_3, J_3))
  else
  if v1 = 2 then
  bnd (fX0_priceInAll I J) (fun q_5 I_5 J_5 =>
  some (q_5, I_5, J_5))
  else
  if v1 = 3 then
  bnd (fX0_workedOnes I J) (fun q_7 I_7 J_7 =>
  some (q_7, I_7, J_7))
  else
  some ((-2 : Int32), I, J)
set_option maxHeartbeats 4000000 in
set_option maxRecDepth 100000 in
theorem tX4_count {p : Program} {l : Launch} {e : Env} {s : State} {m : MethodId} {args : Array Value} {below : List Frame} {meth : Method} {c : Code} (C : KX p s m args meth c "BitTuner" cX4_count 2 (some .int)) {D : va_G} {cI cJ cV : ClassId} {ad : Nat → Nat} {z : Int32 × SS}   {H : Heap} {locs : List Loc} {ls : Array Slot} {I : TI} {J : TJ} {v1 : Int32} (hB : XB D cI cJ cV ad s H locs I J)  (hl : lv_has ls 2 [(0, .ref (ad 0)), (1, .int v1)]) (h : fX4_count v1 I J = some z) : W p l e (rmd 2) s m args below meth c H locs 0 0 (MQ below (gQi D (xw cI cJ cV ad) (xt cI cJ cV) (xL ad) s.heap.size z) args s 0 0 (gA (xL ad) s.heap.size)) (F0 m 0 ls []) := by
  unfold fX4_count at h
  refine lv_iload_n C.hx C.hb dX4_count_0 rfl (lv_at hl 1 rfl) ?_
  by_cases c_1 : v1 = 0
  · replace h := (if_pos c_1).symm.trans h
    refine lv_tableIn (x := v1) (tgt := 32) (off := 31) C.hx C.hb dX4_count_1 (by rw [c_1]; decide) (by rw [c_1]; decide) (by rw [c_1]; rfl) (by decide) ?_
    refine lv_aload_n C.hx C.hb dX4_count_32 rfl (lv_at hl 0 rfl) ?_
    refine xg_t_program C hB tw_186 dX4_count_33 ?_
    refine xg_p_many C hB tw_129 dX4_count_36 ?_
    exact g_iret C hB h dX4_count_39
  · replace h := (if_neg c_1).symm.trans h
    by_cases c_2 : v1 = 1
    · replace h := (if_pos c_2).symm.trans h
      refine lv_tableIn (x := v1) (tgt := 40) (off := 39) C.hx C.hb dX4_count_1 (by rw [c_2]; decide) (by rw [c_2]; decide) (by rw [c_2]; rfl) (by decide) ?_
      refine lv_aload_n C.hx C.hb dX4_count_40 rfl (lv_at hl 0 rfl) ?_
      refine xg_t_program C hB tw_186 dX4_count_41 ?_
      obtain ⟨q_3, I_3, J_3, hc_3, h⟩ := bnd_some h
      refine g_goi hB (g_runV C hB [] [] (cnX0_inputs l D cI cJ cV ad H.size  hc_3) 1 rfl rfl tw_536 tw_537 tw_538 tw_34 tw_539 ⟨rfl, rfl⟩ hdX0_inputs ⟨Nat.le_of_ble_eq_true rfl, Nat.le_of_ble_eq_true rfl⟩ hl.1 rfl (Nat.le_of_ble_eq_true rfl) dX4_count_44) (fun H locs hB => ?_)
      exact g_iret C hB h dX4_count_47
    · replace h := (if_neg c_2).symm.trans h
      by_cases c_4 : v1 = 2
      · replace h := (if_pos c_4).symm.trans h
        refine lv_tableIn (x := v1) (tgt := 48) (off := 47) C.hx C.hb dX4_count_1 (by rw [c_4]; decide) (by rw [c_4]; decide) (by rw [c_4]; rfl) (by decide) ?_
        refine lv_aload_n C.hx C.hb dX4_count_48 rfl (lv_at hl 0 rfl) ?_
        refine xg_t_program C hB tw_186 dX4_count_49 ?_
        obtain ⟨q_5, I_5, J_5, hc_5, h⟩ := bnd_some h
        refine g_goi hB (g_runV C hB [] [] (cnX0_priceInAll l D cI cJ cV ad H.size  hc_5) 1 rfl rfl tw_342 tw_343 tw_344 tw_34 tw_345 ⟨rfl, rfl⟩ hdX0_priceInAll ⟨Nat.le_of_ble_eq_true rfl, Nat.le_of_ble_eq_true rfl⟩ hl.1 rfl (Nat.le_of_ble_eq_true rfl) dX4_count_52) (fun H locs hB => ?_)
        exact g_iret C hB h dX4_count_55
      · replace h := (if_neg c_4).symm.trans h
        by_cases c_6 : v1 = 3
        · replace h := (if_pos c_6).symm.trans h
          refine lv_tableIn (x := v1) (tgt := 56) (off := 55) C.hx C.hb dX4_count_1 (by rw [c_6]; decide) (by rw [c_6]; decide) (by rw [c_6]; rfl) (by decide) ?_
          refine lv_aload_n C.hx C.hb dX4_count_56 rfl (lv_at hl 0 rfl) ?_
          refine xg_t_program C hB tw_186 dX4_count_57 ?_
          obtain ⟨q_7, I_7, J_7, hc_7, h⟩ := bnd_some h
          refine g_goi hB (g_runV C hB [] [] (cnX0_workedOnes l D cI cJ cV ad H.size  hc_7) 1 rfl rfl tw_540 tw_472 tw_473 tw_34 tw_474 ⟨rfl, rfl⟩ hdX0_workedOnes ⟨Nat.le_of_ble_eq_true rfl, Nat.le_of_ble_eq_true rfl⟩ hl.1 rfl (Nat.le_of_ble_eq_true rfl) dX4_count_60) (fun H locs hB => ?_)
          exact g_iret C hB h dX4_count_63
        · replace h := (if_neg c_6).symm.trans h
          refine lv_tableOut (x := v1) (tgt := 64) C.hx C.hb dX4_count_1 (by have z0 := ts_ne (k := 0) (0 : Int32) rfl c_1; have z1 := ts_ne (k := 1) (1 : Int32) rfl c_2; have z2 := ts_ne (k := 2) (2 : Int32) rfl c_4; have z3 := ts_ne (k := 3) (3 : Int32) rfl c_6; omega) (by decide) ?_
          refine lv_bipush (v := (-2 : Int32)) C.hx C.hb dX4_count_64 (by decide) ?_
          exact g_iret C hB h dX4_count_66
set_option maxHeartbeats 4000000 in
set_option maxRecDepth 100000 in
theorem cnX4_count (l : Launch) (D : va_G) (cI cJ cV : ClassId) (ad : Nat → Nat) (sz : Nat) {v1 : Int32} {I : TI} {J : TJ} {z : Int32 × SS}  (h : fX4_count v1 I J = some z) : Met l yX4_count (wsm yX4_count cX4_count 2 (some .int)) (rmd 2) (va_Pc [.ref (ad 0), .int v1] (gPre D (xw cI cJ cV ad) (xt cI cJ cV) sz I J)) (gQi D (xw cI cJ cV ad) (xt cI cJ cV) (xL ad) sz z) 0 0 (gA (xL ad) sz) :=
  g_met (by decide) xw_WL (fun p e s m below meth c hsz C hB ls hl => by subst hsz; exact tX4_count C hB  hl h) (Nat.le_of_ble_eq_true rfl)
theorem hdX4_digest : yX4_digest.cls = "BitTuner" ∧ yX4_digest.cls ≠ "java/lang/invoke/MethodHandle" ∧ yX4_digest.cls ≠ "java/lang/invoke/VarHandle" ∧ (parseMethodDescriptor yX4_digest.desc).map (fun d => d.parameters.length) = some 0 := by decide +kernel
def fX4_digest_46 (kf_32 : Int64 → Int32 → TI → TJ → Option (Int64 × SS)) : Nat → Int64 → Int32 → Int32 → TI → TJ → Option (Int64 × SS)
  | 0, _, _, _, _, _ => none
  | n + 1, v1, v3, v4, I, J =>
    if (9 : Int32) < v4 then
    bnd (fX4_exact v3 I J) (fun q_4 I_4 J_4 =>
    bnd (fX4_tuned v3 I_4 J_4) (fun q_5 I_5 J_5 =>
    kf_32 (((31 : Int64) * (((31 : Int64) * v1) + q_4)) + q_5) (v3 + (1 : Int32)) I_5 J_5))
    else
    bnd (fX4_about v3 v4 I J) (fun q_6 I_6 J_6 =>
    fX4_digest_46 kf_32 n (((31 : Int64) * v1) + q_6) v3 (v4 + (1 : Int32)) I_6 J_6)
theorem eX4_digest_46 (kf_32 : Int64 → Int32 → TI → TJ → Option (Int64 × SS)) (n : Nat) (v1 : Int64) (v3 : Int32) (v4 : Int32) (I : TI) (J : TJ) : fX4_digest_46 kf_32 (n + 1) v1 v3 v4 I J = (
    if (9 : Int32) < v4 then
    bnd (fX4_exact v3 I J) (fun q_4 I_4 J_4 =>
    bnd (fX4_tuned v3 I_4 J_4) (fun q_5 I_5 J_5 =>
    kf_32 (((31 : Int64) * (((31 : Int64) * v1) + q_4)) + q_5) (v3 + (1 : Int32)) I_5 J_5))
    else
    bnd (fX4_about v3 v4 I J) (fun q_6 I_6 J_6 =>
    fX4_digest_46 kf_32 n (((31 : Int64) * v1) + q_6) v3 (v4 + (1 : Int32)) I_6 J_6)) := rfl
set_option maxHeartbeats 4000000 in
set_option maxRecDepth 100000 in
theorem tX4_digest_46 {p : Program} {l : Launch} {e : Env} {s : State} {m : MethodId} {args : Array Value} {below : List Frame} {meth : Method} {c : Code} (C : KX p s m args meth c "BitTuner" cX4_digest 5 (some .long)) {D : va_G} {cI cJ cV : ClassId} {ad : Nat → Nat} {z : Int64 × SS} {kf_32 : Int64 → Int32 → TI → TJ → Option (Int64 × SS)} (kt_32 : ∀ {H : Heap} {locs : List Loc} {ls : Array Slot} {I : TI} {J : TJ} {v1 : Int64} {v3 : Int32}, XB D cI cJ cV ad s H locs I J → lv_has ls 5 [(0, .ref (ad 0)), (1, .long v1), (3, .int v3)] → kf_32 v1 v3 I J = some z → W p l e (rmd 6) s m args below meth c H locs 0 0 (MQ below (gQl D (xw cI cJ cV ad) (xt cI cJ cV) (xL ad) s.heap.size z) args s 0 0 (gA (xL ad) s.heap.size)) (F0 m 32 ls [])) : ∀ (n : Nat), ∀ {H : Heap} {locs : List Loc} {ls : Array Slot} {I : TI} {J : TJ} {v1 : Int64} {v3 : Int32} {v4 : Int32}, XB D cI cJ cV ad s H locs I J → lv_has ls 5 [(0, .ref (ad 0)), (1, .long v1), (3, .int v3), (4, .int v4)] → fX4_digest_46 kf_32 n v1 v3 v4 I J = some z → W p l e (rmd 6) s m args below meth c H locs 0 0 (MQ below (gQl D (xw cI cJ cV ad) (xt cI cJ cV) (xL ad) s.heap.size z) args s 0 0 (gA (xL ad) s.heap.size)) (F0 m 46 ls []) := by
  intro n
  induction n with
  | zero =>
    intro H locs ls I J v1 v3 v4 hB  hl h
    have h : (none : Option (Int64 × SS)) = some z := h
    cases h
  | succ n ih =>
    intro H locs ls I J v1 v3 v4 hB  hl h
    replace h := (eX4_digest_46 kf_32 n v1 v3 v4 I J).symm.trans h
    refine lv_iload C.hx C.hb dX4_digest_46 (lv_at hl 3 rfl) ?_
    refine lv_bipush (v := (9 : Int32)) C.hx C.hb dX4_digest_48 (by decide) ?_
    refine lv_icmp_gt (tgt := 73) C.hx C.hb dX4_digest_50 (by decide) (fun c_3 => ?_) (fun c_3 => ?_)
    · replace h := (if_pos c_3).symm.trans h
      refine lv_ldc2 C.hx C.hb C.hown (C.hts _ tw_546) dX4_digest_73 ?_
      refine lv_lload_n C.hx C.hb dX4_digest_76 rfl (lv_at hl 1 rfl) ?_
      refine lv_lmul C.hx C.hb dX4_digest_77 ?_
      refine lv_aload_n C.hx C.hb dX4_digest_78 rfl (lv_at hl 0 rfl) ?_
      refine lv_iload_n C.hx C.hb dX4_digest_79 rfl (lv_at hl 2 rfl) ?_
      obtain ⟨q_4, I_4, J_4, hc_4, h⟩ := bnd_some h
      refine g_gol hB (g_runV C hB [.int v3] [.long ((31 : Int64) * v1)] (cnX4_exact l D cI cJ cV ad H.size  hc_4) 0 rfl rfl tw_549 tw_363 tw_364 tw_33 tw_365 ⟨rfl, rfl⟩ hdX4_exact ⟨Nat.le_of_ble_eq_true rfl, Nat.le_of_ble_eq_true rfl⟩ hl.1 rfl (Nat.le_of_ble_eq_true rfl) dX4_digest_80) (fun H locs hB => ?_)
      refine lv_ladd C.hx C.hb dX4_digest_83 ?_
      refine lv_lstore_n (lv' := [(1, .long (((31 : Int64) * v1) + q_4)), (0, .ref (ad 0)), (3, .int v3), (4, .int v4)]) C.hx C.hb dX4_digest_84 rfl hl (by decide) rfl (fun ls hl => ?_)
      refine lv_ldc2 C.hx C.hb C.hown (C.hts _ tw_546) dX4_digest_85 ?_
      refine lv_lload_n C.hx C.hb dX4_digest_88 rfl (lv_at hl 0 rfl) ?_
      refine lv_lmul C.hx C.hb dX4_digest_89 ?_
      refine lv_aload_n C.hx C.hb dX4_digest_90 rfl (lv_at hl 1 rfl) ?_
      refine lv_iload_n C.hx C.hb dX4_digest_91 rfl (lv_at hl 2 rfl) ?_
      obtain ⟨q_5, I_5, J_5, hc_5, h⟩ := bnd_some h
      refine g_gol hB (g_runV C hB [.int v3] [.long ((31 : Int64) * (((31 : Int64) * v1) + q_4))] (cnX4_tuned l D cI cJ cV ad H.size  hc_5) 0 rfl rfl tw_550 tw_391 tw_392 tw_33 tw_393 ⟨rfl, rfl⟩ hdX4_tuned ⟨Nat.le_of_ble_eq_true rfl, Nat.le_of_ble_eq_true rfl⟩ hl.1 rfl (Nat.le_of_ble_eq_true rfl) dX4_digest_92) (fun H locs hB => ?_)
      refine lv_ladd C.hx C.hb dX4_digest_95 ?_
      refine lv_lstore_n (lv' := [(1, .long (((31 : Int64) * (((31 : Int64) * v1) + q_4)) + q_5)), (0, .ref (ad 0)), (3, .int v3), (4, .int v4)]) C.hx C.hb dX4_digest_96 rfl hl (by decide) rfl (fun ls hl => ?_)
      refine lv_iinc (v := v3 + (1 : Int32)) (lv' := [(3, .int (v3 + (1 : Int32))), (1, .long (((31 : Int64) * (((31 : Int64) * v1) + q_4)) + q_5)), (0, .ref (ad 0)), (4, .int v4)]) C.hx C.hb dX4_digest_97 hl (k := 2) rfl rfl (by decide) rfl (fun ls hl => ?_)
      refine lv_goto (tgt := 32) C.hx C.hb dX4_digest_100 (by decide) ?_
      exact kt_32 hB (lv_sub hl [2, 1, 0] rfl) h
    · replace h := (if_neg c_3).symm.trans h
      refine lv_ldc2 C.hx C.hb C.hown (C.hts _ tw_546) dX4_digest_53 ?_
      refine lv_lload_n C.hx C.hb dX4_digest_56 rfl (lv_at hl 1 rfl) ?_
      refine lv_lmul C.hx C.hb dX4_digest_57 ?_
      refine lv_aload_n C.hx C.hb dX4_digest_58 rfl (lv_at hl 0 rfl) ?_
      refine lv_iload_n C.hx C.hb dX4_digest_59 rfl (lv_at hl 2 rfl) ?_
      refine lv_iload C.hx C.hb dX4_digest_60 (lv_at hl 3 rfl) ?_
      obtain ⟨q_6, I_6, J_6, hc_6, h⟩ := bnd_some h
      refine g_gol hB (g_runV C hB [.int v3, .int v4] [.long ((31 : Int64) * v1)] (cnX4_about l D cI cJ cV ad H.size  hc_6) 0 rfl rfl tw_548 tw_300 tw_301 tw_33 tw_302 ⟨rfl, rfl⟩ hdX4_about ⟨Nat.le_of_ble_eq_true rfl, Nat.le_of_ble_eq_true rfl⟩ hl.1 rfl (Nat.le_of_ble_eq_true rfl) dX4_digest_62) (fun H locs hB => ?_)
      refine lv_ladd C.hx C.hb dX4_digest_65 ?_
      refine lv_lstore_n (lv' := [(1, .long (((31 : Int64) * v1) + q_6)), (0, .ref (ad 0)), (3, .int v3), (4, .int v4)]) C.hx C.hb dX4_digest_66 rfl hl (by decide) rfl (fun ls hl => ?_)
      refine lv_iinc (v := v4 + (1 : Int32)) (lv' := [(4, .int (v4 + (1 : Int32))), (1, .long (((31 : Int64) * v1) + q_6)), (0, .ref (ad 0)), (3, .int v3)]) C.hx C.hb dX4_digest_67 hl (k := 3) rfl rfl (by decide) rfl (fun ls hl => ?_)
      refine lv_goto (tgt := 46) C.hx C.hb dX4_digest_70 (by decide) ?_
      exact ih hB (lv_sub hl [2, 1, 3, 0] rfl) h
def fX4_digest_32  : Nat → Int64 → Int32 → TI → TJ → Option (Int64 × SS)
  | 0, _, _, _, _ => none
  | n + 1, v1, v3, I, J =>
    if (I 12 0) ≤ v3 then
    some (v1, I, J)
    else
    fX4_digest_46 (fX4_digest_32 n) fuel v1 v3 (0 : Int32) I J
theorem eX4_digest_32  (n : Nat) (v1 : Int64) (v3 : Int32) (I : TI) (J : TJ) : fX4_digest_32 (n + 1) v1 v3 I J = (
    if (I 12 0) ≤ v3 then
    some (v1, I, J)
    else
    fX4_digest_46 (fX4_digest_32 n) fuel v1 v3 (0 : Int32) I J) := rfl
set_option maxHeartbeats 4000000 in
set_option maxRecDepth 100000 in
theorem tX4_digest_32 {p : Program} {l : Launch} {e : Env} {s : State} {m : MethodId} {args : Array Value} {below : List Frame} {meth : Method} {c : Code} (C : KX p s m args meth c "BitTuner" cX4_digest 5 (some .long)) {D : va_G} {cI cJ cV : ClassId} {ad : Nat → Nat} {z : Int64 × SS}   : ∀ (n : Nat), ∀ {H : Heap} {locs : List Loc} {ls : Array Slot} {I : TI} {J : TJ} {v1 : Int64} {v3 : Int32}, XB D cI cJ cV ad s H locs I J → lv_has ls 5 [(0, .ref (ad 0)), (1, .long v1), (3, .int v3)] → fX4_digest_32 n v1 v3 I J = some z → W p l e (rmd 6) s m args below meth c H locs 0 0 (MQ below (gQl D (xw cI cJ cV ad) (xt cI cJ cV) (xL ad) s.heap.size z) args s 0 0 (gA (xL ad) s.heap.size)) (F0 m 32 ls []) := by
  intro n
  induction n with
  | zero =>
    intro H locs ls I J v1 v3 hB  hl h
    have h : (none : Option (Int64 × SS)) = some z := h
    cases h
  | succ n ih =>
    intro H locs ls I J v1 v3 hB  hl h
    replace h := (eX4_digest_32 n v1 v3 I J).symm.trans h
    refine lv_iload_n C.hx C.hb dX4_digest_32 rfl (lv_at hl 2 rfl) ?_
    refine lv_aload_n C.hx C.hb dX4_digest_33 rfl (lv_at hl 0 rfl) ?_
    refine xg_t_program C hB tw_186 dX4_digest_34 ?_
    refine xg_p_many C hB tw_129 dX4_digest_37 ?_
    refine lv_icmp_ge (tgt := 103) C.hx C.hb dX4_digest_40 (by decide) (fun c_2 => ?_) (fun c_2 => ?_)
    · replace h := (if_pos c_2).symm.trans h
      refine lv_lload_n C.hx C.hb dX4_digest_103 rfl (lv_at hl 1 rfl) ?_
      exact g_lret C hB h dX4_digest_104
    · replace h := (if_neg c_2).symm.trans h
      refine lv_iconst (v := (0 : Int32)) C.hx C.hb dX4_digest_43 (by decide) ?_
      refine lv_istore (lv' := [(4, .int (0 : Int32)), (0, .ref (ad 0)), (1, .long v1), (3, .int v3)]) C.hx C.hb dX4_digest_44 hl (by decide) rfl (fun ls hl => ?_)
      exact tX4_digest_46 C (ih) fuel hB (lv_sub hl [1, 2, 3, 0] rfl) h
def fX4_digest_6  : Nat → Int64 → Int32 → TI → TJ → Option (Int64 × SS)
  | 0, _, _, _, _ => none
  | n + 1, v1, v3, I, J =>
    if (3 : Int32) < v3 then
    fX4_digest_32 fuel v1 (0 : Int32) I J
    else
    bnd (fX4_count v3 I J) (fun q_7 I_7 J_7 =>
    fX4_digest_6 n (((31 : Int64) * v1) + q_7.toInt64) (v3 + (1 : Int32)) I_7 J_7)
theorem eX4_digest_6  (n : Nat) (v1 : Int64) (v3 : Int32) (I : TI) (J : TJ) : fX4_digest_6 (n + 1) v1 v3 I J = (
    if (3 : Int32) < v3 then
    fX4_digest_32 fuel v1 (0 : Int32) I J
    else
    bnd (fX4_count v3 I J) (fun q_7 I_7 J_7 =>
    fX4_digest_6 n (((31 : Int64) * v1) + q_7.toInt64) (v3 + (1 : Int32)) I_7 J_7)) := rfl
set_option maxHeartbeats 4000000 in
set_option maxRecDepth 100000 in
theorem tX4_digest_6 {p : Program} {l : Launch} {e : Env} {s : State} {m : MethodId} {args : Array Value} {below : List Frame} {meth : Method} {c : Code} (C : KX p s m args meth c "BitTuner" cX4_digest 5 (some .long)) {D : va_G} {cI cJ cV : ClassId} {ad : Nat → Nat} {z : Int64 × SS}   : ∀ (n : Nat), ∀ {H : Heap} {locs : List Loc} {ls : Array Slot} {I : TI} {J : TJ} {v1 : Int64} {v3 : Int32}, XB D cI cJ cV ad s H locs I J → lv_has ls 5 [(0, .ref (ad 0)), (1, .long v1), (3, .int v3)] → fX4_digest_6 n v1 v3 I J = some z → W p l e (rmd 6) s m args below meth c H locs 0 0 (MQ below (gQl D (xw cI cJ cV ad) (xt cI cJ cV) (xL ad) s.heap.size z) args s 0 0 (gA (xL ad) s.heap.size)) (F0 m 6 ls []) := by
  intro n
  induction n with
  | zero =>
    intro H locs ls I J v1 v3 hB  hl h
    have h : (none : Option (Int64 × SS)) = some z := h
    cases h
  | succ n ih =>
    intro H locs ls I J v1 v3 hB  hl h
    replace h := (eX4_digest_6 n v1 v3 I J).symm.trans h
    refine lv_iload_n C.hx C.hb dX4_digest_6 rfl (lv_at hl 2 rfl) ?_
    refine lv_iconst (v := (3 : Int32)) C.hx C.hb dX4_digest_7 (by decide) ?_
    refine lv_icmp_gt (tgt := 30) C.hx C.hb dX4_digest_8 (by decide) (fun c_1 => ?_) (fun c_1 => ?_)
    · replace h := (if_pos c_1).symm.trans h
      refine lv_iconst (v := (0 : Int32)) C.hx C.hb dX4_digest_30 (by decide) ?_
      refine lv_istore_n (lv' := [(3, .int (0 : Int32)), (0, .ref (ad 0)), (1, .long v1)]) C.hx C.hb dX4_digest_31 rfl hl (by decide) rfl (fun ls hl => ?_)
      exact tX4_digest_32 C  fuel hB (lv_sub hl [1, 2, 0] rfl) h
    · replace h := (if_neg c_1).symm.trans h
      refine lv_ldc2 C.hx C.hb C.hown (C.hts _ tw_546) dX4_digest_11 ?_
      refine lv_lload_n C.hx C.hb dX4_digest_14 rfl (lv_at hl 1 rfl) ?_
      refine lv_lmul C.hx C.hb dX4_digest_15 ?_
      refine lv_aload_n C.hx C.hb dX4_digest_16 rfl (lv_at hl 0 rfl) ?_
      refine lv_iload_n C.hx C.hb dX4_digest_17 rfl (lv_at hl 2 rfl) ?_
      obtain ⟨q_7, I_7, J_7, hc_7, h⟩ := bnd_some h
      refine g_goi hB (g_runV C hB [.int v3] [.long ((31 : Int64) * v1)] (cnX4_count l D cI cJ cV ad H.size  hc_7) 0 rfl rfl tw_547 tw_533 tw_534 tw_33 tw_535 ⟨rfl, rfl⟩ hdX4_count ⟨Nat.le_of_ble_eq_true rfl, Nat.le_of_ble_eq_true rfl⟩ hl.1 rfl (Nat.le_of_ble_eq_true rfl) dX4_digest_18) (fun H locs hB => ?_)
      refine lv_i2l C.hx C.hb dX4_digest_21 rfl ?_
      refine lv_ladd C.hx C.hb dX4_digest_22 ?_
      refine lv_lstore_n (lv' := [(1, .long (((31 : Int64) * v1) + q_7.toInt64)), (0, .ref (ad 0)), (3, .int v3)]) C.hx C.hb dX4_digest_23 rfl hl (by decide) rfl (fun ls hl => ?_)
      refine lv_iinc (v := v3 + (1 : Int32)) (lv' := [(3, .int (v3 + (1 : Int32))), (1, .long (((31 : Int64) * v1) + q_7.toInt64)), (0, .ref (ad 0))]) C.hx C.hb dX4_digest_24 hl (k := 2) rfl rfl (by decide) rfl (fun ls hl => ?_)
      refine lv_goto (tgt := 6) C.hx C.hb dX4_digest_27 (by decide) ?_
      exact ih hB (lv_sub hl [2, 1, 0] rfl) h
def fX4_digest   (I : TI) (J : TJ) : Option (Int64 × SS) :=
  fX4_digest_6 fuel (17 : Int64) (0 : Int32) I J
set_option maxHeartbeats 4000000 in
set_option maxRecDepth 100000 in
theorem tX4_digest {p : Program} {l : Launch} {e : Env} {s : State} {m : MethodId} {args : Array Value} {below : List Frame} {meth : Method} {c : Code} (C : KX p s m args meth c "BitTuner" cX4_digest 5 (some .long)) {D : va_G} {cI cJ cV : ClassId} {ad : Nat → Nat} {z : Int64 × SS}   {H : Heap} {locs : List Loc} {ls : Array Slot} {I : TI} {J : TJ}  (hB : XB D cI cJ cV ad s H locs I J)  (hl : lv_has ls 5 [(0, .ref (ad 0))]) (h : fX4_digest I J = some z) : W p l e (rmd 6) s m args below meth c H locs 0 0 (MQ below (gQl D (xw cI cJ cV ad) (xt cI cJ cV) (xL ad) s.heap.size z) args s 0 0 (gA (xL ad) s.heap.size)) (F0 m 0 ls []) := by
  unfold fX4_digest at h
  refine lv_ldc2 C.hx C.hb C.hown (C.hts _ tw_545) dX4_digest_0 ?_
  refine lv_lstore_n (lv' := [(1, .long (17 : Int64)), (0, .ref (ad 0))]) C.hx C.hb dX4_digest_3 rfl hl (by decide) rfl (fun ls hl => ?_)
  refine lv_iconst (v := (0 : Int32)) C.hx C.hb dX4_digest_4 (by decide) ?_
  refine lv_istore_n (lv' := [(3, .int (0 : Int32)), (1, .long (17 : Int64)), (0, .ref (ad 0))]) C.hx C.hb dX4_digest_5 rfl hl (by decide) rfl (fun ls hl => ?_)
  exact tX4_digest_6 C  fuel hB (lv_sub hl [2, 1, 0] rfl) h
set_option maxHeartbeats 4000000 in
set_option maxRecDepth 100000 in
theorem cnX4_digest (l : Launch) (D : va_G) (cI cJ cV : ClassId) (ad : Nat → Nat) (sz : Nat)  {I : TI} {J : TJ} {z : Int64 × SS}  (h : fX4_digest I J = some z) : Met l yX4_digest (wsm yX4_digest cX4_digest 5 (some .long)) (rmd 6) (va_Pc [.ref (ad 0)] (gPre D (xw cI cJ cV ad) (xt cI cJ cV) sz I J)) (gQl D (xw cI cJ cV ad) (xt cI cJ cV) (xL ad) sz z) 0 0 (gA (xL ad) sz) :=
  g_met (by decide) xw_WL (fun p e s m below meth c hsz C hB ls hl => by subst hsz; exact tX4_digest C hB  hl h) (Nat.le_of_ble_eq_true rfl)
