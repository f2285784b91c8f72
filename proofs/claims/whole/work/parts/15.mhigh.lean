/-! BitTunerModel, the upper half: pure functions out of the bytecode, and the rows that tie them to the machine (by wip/gen/decomp.py) -/
theorem hdX5_keep : yX5_keep.cls = "BitTunerModel" ∧ yX5_keep.cls ≠ "java/lang/invoke/MethodHandle" ∧ yX5_keep.cls ≠ "java/lang/invoke/VarHandle" ∧ (parseMethodDescriptor yX5_keep.desc).map (fun d => d.parameters.length) = some 0 := by decide +kernel
def fX5_keep_2  : Nat → Int32 → TI → TJ → Option (Unit × SS)
  | 0, _, _, _ => none
  | n + 1, v1, I, J =>
    if (I 13 0) ≤ v1 then
    some ((), I, J)
    else
    if okx v1 then
    if (I 0 v1.toNatClampNeg) = 0 then
    fX5_keep_2 n (v1 + (1 : Int32)) (uI (uI I 8 (v1.toNatClampNeg) (I 7 v1.toNatClampNeg)) 7 (v1.toNatClampNeg) (I 1 v1.toNatClampNeg)) J
    else
    fX5_keep_2 n (v1 + (1 : Int32)) (uI (uI I 8 (v1.toNatClampNeg) (I 7 v1.toNatClampNeg)) 7 (v1.toNatClampNeg) (I 7 v1.toNatClampNeg)) J
    else none
theorem eX5_keep_2  (n : Nat) (v1 : Int32) (I : TI) (J : TJ) : fX5_keep_2 (n + 1) v1 I J = (
    if (I 13 0) ≤ v1 then
    some ((), I, J)
    else
    if okx v1 then
    if (I 0 v1.toNatClampNeg) = 0 then
    fX5_keep_2 n (v1 + (1 : Int32)) (uI (uI I 8 (v1.toNatClampNeg) (I 7 v1.toNatClampNeg)) 7 (v1.toNatClampNeg) (I 1 v1.toNatClampNeg)) J
    else
    fX5_keep_2 n (v1 + (1 : Int32)) (uI (uI I 8 (v1.toNatClampNeg) (I 7 v1.toNatClampNeg)) 7 (v1.toNatClampNeg) (I 7 v1.toNatClampNeg)) J
    else none) := rfl
set_option maxHeartbeats 4000000 in
set_option maxRecDepth 100000 in
theorem tX5_keep_2 {p : Program} {l : Launch} {e : Env} {s : State} {m : MethodId} {args : Array Value} {below : List Frame} {meth : Method} {c : Code} (C : KX p s m args meth c "BitTunerModel" cX5_keep 2 none) {D : va_G} {cI cJ cZ : ClassId} {ad : Nat → Nat} {z : Unit × SS}   : ∀ (n : Nat), ∀ {H : Heap} {locs : List Loc} {ls : Array Slot} {I : TI} {J : TJ} {v1 : Int32}, MB D cI cJ cZ ad s H locs I J → lv_has ls 2 [(0, .ref (ad 0)), (1, .int v1)] → fX5_keep_2 n v1 I J = some z → W p l e (rmd 0) s m args below meth c H locs 0 0 (MQ below (gQv D (mw cI cJ cZ ad) (mt cI cJ cZ) (mL ad) s.heap.size z) args s 0 0 (gA (mL ad) s.heap.size)) (F0 m 2 ls []) := by
  intro n
  induction n with
  | zero =>
    intro H locs ls I J v1 hB  hl h
    have h : (none : Option (Unit × SS)) = some z := h
    cases h
  | succ n ih =>
    intro H locs ls I J v1 hB  hl h
    replace h := (eX5_keep_2 n v1 I J).symm.trans h
    refine lv_iload_n C.hx C.hb dX5_keep_2 rfl (lv_at hl 1 rfl) ?_
    refine lv_aload_n C.hx C.hb dX5_keep_3 rfl (lv_at hl 0 rfl) ?_
    refine mg_values C hB tw_557 dX5_keep_4 ?_
    refine lv_icmp_ge (tgt := 58) C.hx C.hb dX5_keep_7 (by decide) (fun c_1 => ?_) (fun c_1 => ?_)
    · replace h := (if_pos c_1).symm.trans h
      exact g_vret C hB h dX5_keep_58
    · replace h := (if_neg c_1).symm.trans h
      refine lv_aload_n C.hx C.hb dX5_keep_10 rfl (lv_at hl 0 rfl) ?_
      refine mg_kept C hB tw_571 dX5_keep_11 ?_
      refine lv_iload_n C.hx C.hb dX5_keep_14 rfl (lv_at hl 1 rfl) ?_
      refine lv_aload_n C.hx C.hb dX5_keep_15 rfl (lv_at hl 0 rfl) ?_
      refine mg_setTo C hB tw_567 dX5_keep_16 ?_
      refine lv_iload_n C.hx C.hb dX5_keep_19 rfl (lv_at hl 1 rfl) ?_
      obtain ⟨c_2, h⟩ := ite_ck h
      refine ma_setTo_ld C hB c_2 dX5_keep_20 ?_
      refine ma_kept_st C hB c_2 dX5_keep_21 (fun H locs hB => ?_)
      refine lv_aload_n C.hx C.hb dX5_keep_22 rfl (lv_at hl 0 rfl) ?_
      refine mg_setTo C hB tw_567 dX5_keep_23 ?_
      refine lv_iload_n C.hx C.hb dX5_keep_26 rfl (lv_at hl 1 rfl) ?_
      refine lv_aload_n C.hx C.hb dX5_keep_27 rfl (lv_at hl 0 rfl) ?_
      refine mg_kinds C hB tw_558 dX5_keep_28 ?_
      refine lv_iload_n C.hx C.hb dX5_keep_31 rfl (lv_at hl 1 rfl) ?_
      refine ma_kinds_ld C hB c_2 dX5_keep_32 ?_
      refine lv_if_ne (tgt := 45) C.hx C.hb dX5_keep_33 (by decide) (fun c_3 => ?_) (fun c_3 => ?_)
      · replace h := (if_neg c_3).symm.trans h
        refine lv_aload_n C.hx C.hb dX5_keep_45 rfl (lv_at hl 0 rfl) ?_
        refine mg_setTo C hB tw_567 dX5_keep_46 ?_
        refine lv_iload_n C.hx C.hb dX5_keep_49 rfl (lv_at hl 1 rfl) ?_
        refine ma_setTo_ld C hB c_2 dX5_keep_50 ?_
        refine ma_setTo_st C hB c_2 dX5_keep_51 (fun H locs hB => ?_)
        refine lv_iinc (v := v1 + (1 : Int32)) (lv' := [(1, .int (v1 + (1 : Int32))), (0, .ref (ad 0))]) C.hx C.hb dX5_keep_52 hl (k := 1) rfl rfl (by decide) rfl (fun ls hl => ?_)
        refine lv_goto (tgt := 2) C.hx C.hb dX5_keep_55 (by decide) ?_
        exact ih hB (lv_sub hl [1, 0] rfl) h
      · replace h := (if_pos c_3).symm.trans h
        refine lv_aload_n C.hx C.hb dX5_keep_36 rfl (lv_at hl 0 rfl) ?_
        refine mg_a C hB tw_559 dX5_keep_37 ?_
        refine lv_iload_n C.hx C.hb dX5_keep_40 rfl (lv_at hl 1 rfl) ?_
        refine ma_a_ld C hB c_2 dX5_keep_41 ?_
        refine lv_goto (tgt := 51) C.hx C.hb dX5_keep_42 (by decide) ?_
        refine ma_setTo_st C hB c_2 dX5_keep_51 (fun H locs hB => ?_)
        refine lv_iinc (v := v1 + (1 : Int32)) (lv' := [(1, .int (v1 + (1 : Int32))), (0, .ref (ad 0))]) C.hx C.hb dX5_keep_52 hl (k := 1) rfl rfl (by decide) rfl (fun ls hl => ?_)
        refine lv_goto (tgt := 2) C.hx C.hb dX5_keep_55 (by decide) ?_
        exact ih hB (lv_sub hl [1, 0] rfl) h
def fX5_keep   (I : TI) (J : TJ) : Option (Unit × SS) :=
  fX5_keep_2 fuel (0 : Int32) I J
set_option maxHeartbeats 4000000 in
set_option maxRecDepth 100000 in
theorem tX5_keep {p : Program} {l : Launch} {e : Env} {s : State} {m : MethodId} {args : Array Value} {below : List Frame} {meth : Method} {c : Code} (C : KX p s m args meth c "BitTunerModel" cX5_keep 2 none) {D : va_G} {cI cJ cZ : ClassId} {ad : Nat → Nat} {z : Unit × SS}   {H : Heap} {locs : List Loc} {ls : Array Slot} {I : TI} {J : TJ}  (hB : MB D cI cJ cZ ad s H locs I J)  (hl : lv_has ls 2 [(0, .ref (ad 0))]) (h : fX5_keep I J = some z) : W p l e (rmd 0) s m args below meth c H locs 0 0 (MQ below (gQv D (mw cI cJ cZ ad) (mt cI cJ cZ) (mL ad) s.heap.size z) args s 0 0 (gA (mL ad) s.heap.size)) (F0 m 0 ls []) := by
  unfold fX5_keep at h
  refine lv_iconst (v := (0 : Int32)) C.hx C.hb dX5_keep_0 (by decide) ?_
  refine lv_istore_n (lv' := [(1, .int (0 : Int32)), (0, .ref (ad 0))]) C.hx C.hb dX5_keep_1 rfl hl (by decide) rfl (fun ls hl => ?_)
  exact tX5_keep_2 C  fuel hB (lv_sub hl [1, 0] rfl) h
set_option maxHeartbeats 4000000 in
set_option maxRecDepth 100000 in
theorem cnX5_keep (l : Launch) (D : va_G) (cI cJ cZ : ClassId) (ad : Nat → Nat) (sz : Nat)  {I : TI} {J : TJ} {z : Unit × SS}  (h : fX5_keep I J = some z) : Met l yX5_keep (wsm yX5_keep cX5_keep 2 none) (rmd 0) (va_Pc [.ref (ad 0)] (gPre D (mw cI cJ cZ ad) (mt cI cJ cZ) sz I J)) (gQv D (mw cI cJ cZ ad) (mt cI cJ cZ) (mL ad) sz z) 0 0 (gA (mL ad) sz) :=
  g_met (by decide) mw_WL (fun p e s m below meth c hsz C hB ls hl => by subst hsz; exact tX5_keep C hB  hl h) (Nat.le_of_ble_eq_true rfl)
theorem hdX5_restore : yX5_restore.cls = "BitTunerModel" ∧ yX5_restore.cls ≠ "java/lang/invoke/MethodHandle" ∧ yX5_restore.cls ≠ "java/lang/invoke/VarHandle" ∧ (parseMethodDescriptor yX5_restore.desc).map (fun d => d.parameters.length) = some 0 := by decide +kernel
def fX5_restore_2  : Nat → Int32 → TI → TJ → Option (Unit × SS)
  | 0, _, _, _ => none
  | n + 1, v1, I, J =>
    if (I 13 0) ≤ v1 then
    some ((), I, J)
    else
    if okx v1 then
    fX5_restore_2 n (v1 + (1 : Int32)) (uI I 7 (v1.toNatClampNeg) (I 8 v1.toNatClampNeg)) J
    else none
theorem eX5_restore_2  (n : Nat) (v1 : Int32) (I : TI) (J : TJ) : fX5_restore_2 (n + 1) v1 I J = (
    if (I 13 0) ≤ v1 then
    some ((), I, J)
    else
    if okx v1 then
    fX5_restore_2 n (v1 + (1 : Int32)) (uI I 7 (v1.toNatClampNeg) (I 8 v1.toNatClampNeg)) J
    else none) := rfl
set_option maxHeartbeats 4000000 in
set_option maxRecDepth 100000 in
theorem tX5_restore_2 {p : Program} {l : Launch} {e : Env} {s : State} {m : MethodId} {args : Array Value} {below : List Frame} {meth : Method} {c : Code} (C : KX p s m args meth c "BitTunerModel" cX5_restore 2 none) {D : va_G} {cI cJ cZ : ClassId} {ad : Nat → Nat} {z : Unit × SS}   : ∀ (n : Nat), ∀ {H : Heap} {locs : List Loc} {ls : Array Slot} {I : TI} {J : TJ} {v1 : Int32}, MB D cI cJ cZ ad s H locs I J → lv_has ls 2 [(0, .ref (ad 0)), (1, .int v1)] → fX5_restore_2 n v1 I J = some z → W p l e (rmd 0) s m args below meth c H locs 0 0 (MQ below (gQv D (mw cI cJ cZ ad) (mt cI cJ cZ) (mL ad) s.heap.size z) args s 0 0 (gA (mL ad) s.heap.size)) (F0 m 2 ls []) := by
  intro n
  induction n with
  | zero =>
    intro H locs ls I J v1 hB  hl h
    have h : (none : Option (Unit × SS)) = some z := h
    cases h
  | succ n ih =>
    intro H locs ls I J v1 hB  hl h
    replace h := (eX5_restore_2 n v1 I J).symm.trans h
    refine lv_iload_n C.hx C.hb dX5_restore_2 rfl (lv_at hl 1 rfl) ?_
    refine lv_aload_n C.hx C.hb dX5_restore_3 rfl (lv_at hl 0 rfl) ?_
    refine mg_values C hB tw_557 dX5_restore_4 ?_
    refine lv_icmp_ge (tgt := 28) C.hx C.hb dX5_restore_7 (by decide) (fun c_1 => ?_) (fun c_1 => ?_)
    · replace h := (if_pos c_1).symm.trans h
      exact g_vret C hB h dX5_restore_28
    · replace h := (if_neg c_1).symm.trans h
      refine lv_aload_n C.hx C.hb dX5_restore_10 rfl (lv_at hl 0 rfl) ?_
      refine mg_setTo C hB tw_567 dX5_restore_11 ?_
      refine lv_iload_n C.hx C.hb dX5_restore_14 rfl (lv_at hl 1 rfl) ?_
      refine lv_aload_n C.hx C.hb dX5_restore_15 rfl (lv_at hl 0 rfl) ?_
      refine mg_kept C hB tw_571 dX5_restore_16 ?_
      refine lv_iload_n C.hx C.hb dX5_restore_19 rfl (lv_at hl 1 rfl) ?_
      obtain ⟨c_2, h⟩ := ite_ck h
      refine ma_kept_ld C hB c_2 dX5_restore_20 ?_
      refine ma_setTo_st C hB c_2 dX5_restore_21 (fun H locs hB => ?_)
      refine lv_iinc (v := v1 + (1 : Int32)) (lv' := [(1, .int (v1 + (1 : Int32))), (0, .ref (ad 0))]) C.hx C.hb dX5_restore_22 hl (k := 1) rfl rfl (by decide) rfl (fun ls hl => ?_)
      refine lv_goto (tgt := 2) C.hx C.hb dX5_restore_25 (by decide) ?_
      exact ih hB (lv_sub hl [1, 0] rfl) h
def fX5_restore   (I : TI) (J : TJ) : Option (Unit × SS) :=
  fX5_restore_2 fuel (0 : Int32) I J
set_option maxHeartbeats 4000000 in
set_option maxRecDepth 100000 in
theorem tX5_restore {p : Program} {l : Launch} {e : Env} {s : State} {m : MethodId} {args : Array Value} {below : List Frame} {meth : Method} {c : Code} (C : KX p s m args meth c "BitTunerModel" cX5_restore 2 none) {D : va_G} {cI cJ cZ : ClassId} {ad : Nat → Nat} {z : Unit × SS}   {H : Heap} {locs : List Loc} {ls : Array Slot} {I : TI} {J : TJ}  (hB : MB D cI cJ cZ ad s H locs I J)  (hl : lv_has ls 2 [(0, .ref (ad 0))]) (h : fX5_restore I J = some z) : W p l e (rmd 0) s m args below meth c H locs 0 0 (MQ below (gQv D (mw cI cJ cZ ad) (mt cI cJ cZ) (mL ad) s.heap.size z) args s 0 0 (gA (mL ad) s.heap.size)) (F0 m 0 ls []) := by
  unfold fX5_restore at h
  refine lv_iconst (v := (0 : Int32)) C.hx C.hb dX5_restore_0 (by decide) ?_
  refine lv_istore_n (lv' := [(1, .int (0 : Int32)), (0, .ref (ad 0))]) C.hx C.hb dX5_restore_1 rfl hl (by decide) rfl (fun ls hl => ?_)
  exact tX5_restore_2 C  fuel hB (lv_sub hl [1, 0] rfl) h
set_option maxHeartbeats 4000000 in
set_option maxRecDepth 100000 in
theorem cnX5_restore (l : Launch) (D : va_G) (cI cJ cZ : ClassId) (ad : Nat → Nat) (sz : Nat)  {I : TI} {J : TJ} {z : Unit × SS}  (h : fX5_restore I J = some z) : Met l yX5_restore (wsm yX5_restore cX5_restore 2 none) (rmd 0) (va_Pc [.ref (ad 0)] (gPre D (mw cI cJ cZ ad) (mt cI cJ cZ) sz I J)) (gQv D (mw cI cJ cZ ad) (mt cI cJ cZ) (mL ad) sz z) 0 0 (gA (mL ad) sz) :=
  g_met (by decide) mw_WL (fun p e s m below meth c hsz C hB ls hl => by subst hsz; exact tX5_restore C hB  hl h) (Nat.le_of_ble_eq_true rfl)
theorem hdX5_goesOn : yX5_goesOn.cls = "BitTunerModel" ∧ yX5_goesOn.cls ≠ "java/lang/invoke/MethodHandle" ∧ yX5_goesOn.cls ≠ "java/lang/invoke/VarHandle" ∧ (parseMethodDescriptor yX5_goesOn.desc).map (fun d => d.parameters.length) = some 0 := by decide +kernel
def fX5_goesOn_71  (v1 : Int32) (I : TI) (J : TJ) : Option (Int32 × SS) :=
  if 0 ≤ v1 then
  if okx v1 then
  some ((1 : Int32), (uI I 7 (v1.toNatClampNeg) ((I 7 v1.toNatClampNeg) + (4096 : Int32))), J)
  else none
  else
  some ((0 : Int32), I, J)
set_option maxHeartbeats 4000000 in
set_option maxRecDepth 100000 in
theorem tX5_goesOn_71 {p : Program} {l : Launch} {e : Env} {s : State} {m : MethodId} {args : Array Value} {below : List Frame} {meth : Method} {c : Code} (C : KX p s m args meth c "BitTunerModel" cX5_goesOn 2 (some .boolean)) {D : va_G} {cI cJ cZ : ClassId} {ad : Nat → Nat} {z : Int32 × SS}   {H : Heap} {locs : List Loc} {ls : Array Slot} {I : TI} {J : TJ} {v1 : Int32} (hB : MB D cI cJ cZ ad s H locs I J)  (hl : lv_has ls 2 [(0, .ref (ad 0)), (1, .int v1)]) (h : fX5_goesOn_71 v1 I J = some z) : W p l e (rmd 0) s m args below meth c H locs 0 0 (MQ below (gQi D (mw cI cJ cZ ad) (mt cI cJ cZ) (mL ad) s.heap.size z) args s 0 0 (gA (mL ad) s.heap.size)) (F0 m 71 ls []) := by
  unfold fX5_goesOn_71 at h
  refine lv_iload_n C.hx C.hb dX5_goesOn_71 rfl (lv_at hl 1 rfl) ?_
  refine lv_if_ge (tgt := 77) C.hx C.hb dX5_goesOn_72 (by decide) (fun c_2 => ?_) (fun c_2 => ?_)
  · replace h := (if_pos c_2).symm.trans h
    refine lv_aload_n C.hx C.hb dX5_goesOn_77 rfl (lv_at hl 0 rfl) ?_
    refine mg_setTo C hB tw_567 dX5_goesOn_78 ?_
    refine lv_iload_n C.hx C.hb dX5_goesOn_81 rfl (lv_at hl 1 rfl) ?_
    refine lv_dup2_11 C.hx C.hb dX5_goesOn_82 rfl rfl ?_
    obtain ⟨c_3, h⟩ := ite_ck h
    refine ma_setTo_ld C hB c_3 dX5_goesOn_83 ?_
    refine lv_sipush (v := (4096 : Int32)) C.hx C.hb dX5_goesOn_84 (by decide) ?_
    refine lv_iadd C.hx C.hb dX5_goesOn_87 ?_
    refine ma_setTo_st C hB c_3 dX5_goesOn_88 (fun H locs hB => ?_)
    refine lv_iconst (v := (1 : Int32)) C.hx C.hb dX5_goesOn_89 (by decide) ?_
    exact g_zret C hB h (by decide) dX5_goesOn_90
  · replace h := (if_neg c_2).symm.trans h
    refine lv_iconst (v := (0 : Int32)) C.hx C.hb dX5_goesOn_75 (by decide) ?_
    exact g_zret C hB h (by decide) dX5_goesOn_76
def fX5_goesOn_35 (kf_7 : Int32 → TI → TJ → Option (Int32 × SS)) (v1 : Int32) (I : TI) (J : TJ) : Option (Int32 × SS) :=
  if okx v1 then
  if (I 0 v1.toNatClampNeg) = 0 then
  kf_7 (v1 + (-1 : Int32)) (uI I 7 (v1.toNatClampNeg) (I 1 v1.toNatClampNeg)) J
  else
  kf_7 (v1 + (-1 : Int32)) (uI I 7 (v1.toNatClampNeg) (I 7 v1.toNatClampNeg)) J
  else none
set_option maxHeartbeats 4000000 in
set_option maxRecDepth 100000 in
theorem tX5_goesOn_35 {p : Program} {l : Launch} {e : Env} {s : State} {m : MethodId} {args : Array Value} {below : List Frame} {meth : Method} {c : Code} (C : KX p s m args meth c "BitTunerModel" cX5_goesOn 2 (some .boolean)) {D : va_G} {cI cJ cZ : ClassId} {ad : Nat → Nat} {z : Int32 × SS} {kf_7 : Int32 → TI → TJ → Option (Int32 × SS)} (kt_7 : ∀ {H : Heap} {locs : List Loc} {ls : Array Slot} {I : TI} {J : TJ} {v1 : Int32}, MB D cI cJ cZ ad s H locs I J → lv_has ls 2 [(0, .ref (ad 0)), (1, .int v1)] → kf_7 v1 I J = some z → W p l e (rmd 0) s m args below meth c H locs 0 0 (MQ below (gQi D (mw cI cJ cZ ad) (mt cI cJ cZ) (mL ad) s.heap.size z) args s 0 0 (gA (mL ad) s.heap.size)) (F0 m 7 ls [])) {H : Heap} {locs : List Loc} {ls : Array Slot} {I : TI} {J : TJ} {v1 : Int32} (hB : MB D cI cJ cZ ad s H locs I J)  (hl : lv_has ls 2 [(0, .ref (ad 0)), (1, .int v1)]) (h : fX5_goesOn_35 kf_7 v1 I J = some z) : W p l e (rmd 0) s m args below meth c H locs 0 0 (MQ below (gQi D (mw cI cJ cZ ad) (mt cI cJ cZ) (mL ad) s.heap.size z) args s 0 0 (gA (mL ad) s.heap.size)) (F0 m 35 ls []) := by
  unfold fX5_goesOn_35 at h
  refine lv_aload_n C.hx C.hb dX5_goesOn_35 rfl (lv_at hl 0 rfl) ?_
  refine mg_setTo C hB tw_567 dX5_goesOn_36 ?_
  refine lv_iload_n C.hx C.hb dX5_goesOn_39 rfl (lv_at hl 1 rfl) ?_
  refine lv_aload_n C.hx C.hb dX5_goesOn_40 rfl (lv_at hl 0 rfl) ?_
  refine mg_kinds C hB tw_558 dX5_goesOn_41 ?_
  refine lv_iload_n C.hx C.hb dX5_goesOn_44 rfl (lv_at hl 1 rfl) ?_
  obtain ⟨c_6, h⟩ := ite_ck h
  refine ma_kinds_ld C hB c_6 dX5_goesOn_45 ?_
  refine lv_if_ne (tgt := 58) C.hx C.hb dX5_goesOn_46 (by decide) (fun c_7 => ?_) (fun c_7 => ?_)
  · replace h := (if_neg c_7).symm.trans h
    refine lv_aload_n C.hx C.hb dX5_goesOn_58 rfl (lv_at hl 0 rfl) ?_
    refine mg_setTo C hB tw_567 dX5_goesOn_59 ?_
    refine lv_iload_n C.hx C.hb dX5_goesOn_62 rfl (lv_at hl 1 rfl) ?_
    refine ma_setTo_ld C hB c_6 dX5_goesOn_63 ?_
    refine ma_setTo_st C hB c_6 dX5_goesOn_64 (fun H locs hB => ?_)
    refine lv_iinc (v := v1 + (-1 : Int32)) (lv' := [(1, .int (v1 + (-1 : Int32))), (0, .ref (ad 0))]) C.hx C.hb dX5_goesOn_65 hl (k := 1) rfl rfl (by decide) rfl (fun ls hl => ?_)
    refine lv_goto (tgt := 7) C.hx C.hb dX5_goesOn_68 (by decide) ?_
    exact kt_7 hB (lv_sub hl [1, 0] rfl) h
  · replace h := (if_pos c_7).symm.trans h
    refine lv_aload_n C.hx C.hb dX5_goesOn_49 rfl (lv_at hl 0 rfl) ?_
    refine mg_a C hB tw_559 dX5_goesOn_50 ?_
    refine lv_iload_n C.hx C.hb dX5_goesOn_53 rfl (lv_at hl 1 rfl) ?_
    refine ma_a_ld C hB c_6 dX5_goesOn_54 ?_
    refine lv_goto (tgt := 64) C.hx C.hb dX5_goesOn_55 (by decide) ?_
    refine ma_setTo_st C hB c_6 dX5_goesOn_64 (fun H locs hB => ?_)
    refine lv_iinc (v := v1 + (-1 : Int32)) (lv' := [(1, .int (v1 + (-1 : Int32))), (0, .ref (ad 0))]) C.hx C.hb dX5_goesOn_65 hl (k := 1) rfl rfl (by decide) rfl (fun ls hl => ?_)
    refine lv_goto (tgt := 7) C.hx C.hb dX5_goesOn_68 (by decide) ?_
    exact kt_7 hB (lv_sub hl [1, 0] rfl) h
def fX5_goesOn_7  : Nat → Int32 → TI → TJ → Option (Int32 × SS)
  | 0, _, _, _ => none
  | n + 1, v1, I, J =>
    if v1 < 0 then
    fX5_goesOn_71 v1 I J
    else
    if okx v1 then
    if (I 0 v1.toNatClampNeg) = 0 then
    if (I 7 v1.toNatClampNeg) = (I 2 v1.toNatClampNeg) then
    fX5_goesOn_35 (fX5_goesOn_7 n) v1 I J
    else
    fX5_goesOn_71 v1 I J
    else
    fX5_goesOn_35 (fX5_goesOn_7 n) v1 I J
    else none
theorem eX5_goesOn_7  (n : Nat) (v1 : Int32) (I : TI) (J : TJ) : fX5_goesOn_7 (n + 1) v1 I J = (
    if v1 < 0 then
    fX5_goesOn_71 v1 I J
    else
    if okx v1 then
    if (I 0 v1.toNatClampNeg) = 0 then
    if (I 7 v1.toNatClampNeg) = (I 2 v1.toNatClampNeg) then
    fX5_goesOn_35 (fX5_goesOn_7 n) v1 I J
    else
    fX5_goesOn_71 v1 I J
    else
    fX5_goesOn_35 (fX5_goesOn_7 n) v1 I J
    else none) := rfl
set_option maxHeartbeats 4000000 in
set_option maxRecDepth 100000 in
theorem tX5_goesOn_7 {p : Program} {l : Launch} {e : Env} {s : State} {m : MethodId} {args : Array Value} {below : List Frame} {meth : Method} {c : Code} (C : KX p s m args meth c "BitTunerModel" cX5_goesOn 2 (some .boolean)) {D : va_G} {cI cJ cZ : ClassId} {ad : Nat → Nat} {z : Int32 × SS}   : ∀ (n : Nat), ∀ {H : Heap} {locs : List Loc} {ls : Array Slot} {I : TI} {J : TJ} {v1 : Int32}, MB D cI cJ cZ ad s H locs I J → lv_has ls 2 [(0, .ref (ad 0)), (1, .int v1)] → fX5_goesOn_7 n v1 I J = some z → W p l e (rmd 0) s m args below meth c H locs 0 0 (MQ below (gQi D (mw cI cJ cZ ad) (mt cI cJ cZ) (mL ad) s.heap.size z) args s 0 0 (gA (mL ad) s.heap.size)) (F0 m 7 ls []) := by
  intro n
  induction n with
  | zero =>
    intro H locs ls I J v1 hB  hl h
    have h : (none : Option (Int32 × SS)) = some z := h
    cases h
  | succ n ih =>
    intro H locs ls I J v1 hB  hl h
    replace h := (eX5_goesOn_7 n v1 I J).symm.trans h
    refine lv_iload_n C.hx C.hb dX5_goesOn_7 rfl (lv_at hl 1 rfl) ?_
    refine lv_if_lt (tgt := 71) C.hx C.hb dX5_goesOn_8 (by decide) (fun c_1 => ?_) (fun c_1 => ?_)
    · replace h := (if_pos c_1).symm.trans h
      exact tX5_goesOn_71 C  hB (lv_sub hl [0, 1] rfl) h
    · replace h := (if_neg c_1).symm.trans h
      refine lv_aload_n C.hx C.hb dX5_goesOn_11 rfl (lv_at hl 0 rfl) ?_
      refine mg_kinds C hB tw_558 dX5_goesOn_12 ?_
      refine lv_iload_n C.hx C.hb dX5_goesOn_15 rfl (lv_at hl 1 rfl) ?_
      obtain ⟨c_4, h⟩ := ite_ck h
      refine ma_kinds_ld C hB c_4 dX5_goesOn_16 ?_
      refine lv_if_ne (tgt := 35) C.hx C.hb dX5_goesOn_17 (by decide) (fun c_5 => ?_) (fun c_5 => ?_)
      · replace h := (if_neg c_5).symm.trans h
        exact tX5_goesOn_35 C (ih) hB (lv_sub hl [0, 1] rfl) h
      · replace h := (if_pos c_5).symm.trans h
        refine lv_aload_n C.hx C.hb dX5_goesOn_20 rfl (lv_at hl 0 rfl) ?_
        refine mg_setTo C hB tw_567 dX5_goesOn_21 ?_
        refine lv_iload_n C.hx C.hb dX5_goesOn_24 rfl (lv_at hl 1 rfl) ?_
        refine ma_setTo_ld C hB c_4 dX5_goesOn_25 ?_
        refine lv_aload_n C.hx C.hb dX5_goesOn_26 rfl (lv_at hl 0 rfl) ?_
        refine mg_b C hB tw_560 dX5_goesOn_27 ?_
        refine lv_iload_n C.hx C.hb dX5_goesOn_30 rfl (lv_at hl 1 rfl) ?_
        refine ma_b_ld C hB c_4 dX5_goesOn_31 ?_
        refine lv_icmp_ne (tgt := 71) C.hx C.hb dX5_goesOn_32 (by decide) (fun c_8 => ?_) (fun c_8 => ?_)
        · replace h := (if_neg c_8).symm.trans h
          exact tX5_goesOn_71 C  hB (lv_sub hl [0, 1] rfl) h
        · replace h := (if_pos c_8).symm.trans h
          exact tX5_goesOn_35 C (ih) hB (lv_sub hl [0, 1] rfl) h
def fX5_goesOn   (I : TI) (J : TJ) : Option (Int32 × SS) :=
  fX5_goesOn_7 fuel ((I 13 0) - (1 : Int32)) I J
set_option maxHeartbeats 4000000 in
set_option maxRecDepth 100000 in
theorem tX5_goesOn {p : Program} {l : Launch} {e : Env} {s : State} {m : MethodId} {args : Array Value} {below : List Frame} {meth : Method} {c : Code} (C : KX p s m args meth c "BitTunerModel" cX5_goesOn 2 (some .boolean)) {D : va_G} {cI cJ cZ : ClassId} {ad : Nat → Nat} {z : Int32 × SS}   {H : Heap} {locs : List Loc} {ls : Array Slot} {I : TI} {J : TJ}  (hB : MB D cI cJ cZ ad s H locs I J)  (hl : lv_has ls 2 [(0, .ref (ad 0))]) (h : fX5_goesOn I J = some z) : W p l e (rmd 0) s m args below meth c H locs 0 0 (MQ below (gQi D (mw cI cJ cZ ad) (mt cI cJ cZ) (mL ad) s.heap.size z) args s 0 0 (gA (mL ad) s.heap.size)) (F0 m 0 ls []) := by
  unfold fX5_goesOn at h
  refine lv_aload_n C.hx C.hb dX5_goesOn_0 rfl (lv_at hl 0 rfl) ?_
  refine mg_values C hB tw_557 dX5_goesOn_1 ?_
  refine lv_iconst (v := (1 : Int32)) C.hx C.hb dX5_goesOn_4 (by decide) ?_
  refine lv_isub C.hx C.hb dX5_goesOn_5 ?_
  refine lv_istore_n (lv' := [(1, .int ((I 13 0) - (1 : Int32))), (0, .ref (ad 0))]) C.hx C.hb dX5_goesOn_6 rfl hl (by decide) rfl (fun ls hl => ?_)
  exact tX5_goesOn_7 C  fuel hB (lv_sub hl [1, 0] rfl) h
set_option maxHeartbeats 4000000 in
set_option maxRecDepth 100000 in
theorem cnX5_goesOn (l : Launch) (D : va_G) (cI cJ cZ : ClassId) (ad : Nat → Nat) (sz : Nat)  {I : TI} {J : TJ} {z : Int32 × SS}  (h : fX5_goesOn I J = some z) : Met l yX5_goesOn (wsm yX5_goesOn cX5_goesOn 2 (some .boolean)) (rmd 0) (va_Pc [.ref (ad 0)] (gPre D (mw cI cJ cZ ad) (mt cI cJ cZ) sz I J)) (gQi D (mw cI cJ cZ ad) (mt cI cJ cZ) (mL ad) sz z) 0 0 (gA (mL ad) sz) :=
  g_met (by decide) mw_WL (fun p e s m below meth c hsz C hB ls hl => by subst hsz; exact tX5_goesOn C hB  hl h) (Nat.le_of_ble_eq_true rfl)
theorem hdX5_worst : yX5_worst.cls = "BitTunerModel" ∧ yX5_worst.cls ≠ "java/lang/invoke/MethodHandle" ∧ yX5_worst.cls ≠ "java/lang/invoke/VarHandle" ∧ (parseMethodDescriptor yX5_worst.desc).map (fun d => d.parameters.length) = some 1 := by decide +kernel
def fX5_worst_124 (kf_41 : Int32 → Int64 → Int32 → TI → TJ → Option (Int64 × SS)) (v1 : Int32) (v2 : Int64) (I : TI) (J : TJ) : Option (Int64 × SS) :=
  bnd (fX5_goesOn I J) (fun q_10 I_10 J_10 =>
  kf_41 v1 v2 q_10 I_10 J_10)
set_option maxHeartbeats 4000000 in
set_option maxRecDepth 100000 in
theorem tX5_worst_124 {p : Program} {l : Launch} {e : Env} {s : State} {m : MethodId} {args : Array Value} {below : List Frame} {meth : Method} {c : Code} (C : KX p s m args meth c "BitTunerModel" cX5_worst 8 (some .long)) {D : va_G} {cI cJ cZ : ClassId} {ad : Nat → Nat} {z : Int64 × SS} {kf_41 : Int32 → Int64 → Int32 → TI → TJ → Option (Int64 × SS)} (kt_41 : ∀ {H : Heap} {locs : List Loc} {ls : Array Slot} {I : TI} {J : TJ} {v1 : Int32} {v2 : Int64} {v4 : Int32}, MB D cI cJ cZ ad s H locs I J → lv_has ls 8 [(0, .ref (ad 0)), (1, .int v1), (2, .long v2), (4, .int v4)] → kf_41 v1 v2 v4 I J = some z → W p l e (rmd 4) s m args below meth c H locs 0 0 (MQ below (gQl D (mw cI cJ cZ ad) (mt cI cJ cZ) (mL ad) s.heap.size z) args s 0 0 (gA (mL ad) s.heap.size)) (F0 m 41 ls [])) {H : Heap} {locs : List Loc} {ls : Array Slot} {I : TI} {J : TJ} {v1 : Int32} {v2 : Int64} (hB : MB D cI cJ cZ ad s H locs I J)  (hl : lv_has ls 8 [(0, .ref (ad 0)), (1, .int v1), (2, .long v2)]) (h : fX5_worst_124 kf_41 v1 v2 I J = some z) : W p l e (rmd 4) s m args below meth c H locs 0 0 (MQ below (gQl D (mw cI cJ cZ ad) (mt cI cJ cZ) (mL ad) s.heap.size z) args s 0 0 (gA (mL ad) s.heap.size)) (F0 m 124 ls []) := by
  unfold fX5_worst_124 at h
  refine lv_aload_n C.hx C.hb dX5_worst_124 rfl (lv_at hl 0 rfl) ?_
  obtain ⟨q_10, I_10, J_10, hc_10, h⟩ := bnd_some h
  refine g_goi hB (g_runV C hB [] [] (cnX5_goesOn l D cI cJ cZ ad H.size  hc_10) 0 rfl rfl tw_779 tw_781 tw_24 tw_38 tw_782 ⟨rfl, rfl⟩ hdX5_goesOn ⟨Nat.le_of_ble_eq_true rfl, Nat.le_of_ble_eq_true rfl⟩ hl.1 rfl (Nat.le_of_ble_eq_true rfl) dX5_worst_125) (fun H locs hB => ?_)
  refine lv_istore (lv' := [(4, .int q_10), (0, .ref (ad 0)), (1, .int v1), (2, .long v2)]) C.hx C.hb dX5_worst_128 hl (by decide) rfl (fun ls hl => ?_)
  refine lv_goto (tgt := 41) C.hx C.hb dX5_worst_130 (by decide) ?_
  exact kt_41 hB (lv_sub hl [1, 2, 3, 0] rfl) h
def fX5_worst_103 (kf_41 : Int32 → Int64 → Int32 → TI → TJ → Option (Int64 × SS)) (kf_66 : Int32 → Int64 → Int32 → TI → TJ → Option (Int64 × SS)) (v1 : Int32) (v2 : Int64) (v7 : Int32) (w0 : Int32) (w1 : Int32) (I : TI) (J : TJ) : Option (Int64 × SS) :=
  if okx w1 then
  if okx v7 then
  kf_66 v1 v2 (v7 + (1 : Int32)) (uI (uI I 9 (w1.toNatClampNeg) (vp_nar .boolean w0)) 10 (v7.toNatClampNeg) (I 7 v7.toNatClampNeg)) J
  else none
  else none
set_option maxHeartbeats 4000000 in
set_option maxRecDepth 100000 in
theorem tX5_worst_103 {p : Program} {l : Launch} {e : Env} {s : State} {m : MethodId} {args : Array Value} {below : List Frame} {meth : Method} {c : Code} (C : KX p s m args meth c "BitTunerModel" cX5_worst 8 (some .long)) {D : va_G} {cI cJ cZ : ClassId} {ad : Nat → Nat} {z : Int64 × SS} {kf_41 : Int32 → Int64 → Int32 → TI → TJ → Option (Int64 × SS)} {kf_66 : Int32 → Int64 → Int32 → TI → TJ → Option (Int64 × SS)} (kt_41 : ∀ {H : Heap} {locs : List Loc} {ls : Array Slot} {I : TI} {J : TJ} {v1 : Int32} {v2 : Int64} {v4 : Int32}, MB D cI cJ cZ ad s H locs I J → lv_has ls 8 [(0, .ref (ad 0)), (1, .int v1), (2, .long v2), (4, .int v4)] → kf_41 v1 v2 v4 I J = some z → W p l e (rmd 4) s m args below meth c H locs 0 0 (MQ below (gQl D (mw cI cJ cZ ad) (mt cI cJ cZ) (mL ad) s.heap.size z) args s 0 0 (gA (mL ad) s.heap.size)) (F0 m 41 ls [])) (kt_66 : ∀ {H : Heap} {locs : List Loc} {ls : Array Slot} {I : TI} {J : TJ} {v1 : Int32} {v2 : Int64} {v7 : Int32}, MB D cI cJ cZ ad s H locs I J → lv_has ls 8 [(0, .ref (ad 0)), (1, .int v1), (2, .long v2), (7, .int v7)] → kf_66 v1 v2 v7 I J = some z → W p l e (rmd 4) s m args below meth c H locs 0 0 (MQ below (gQl D (mw cI cJ cZ ad) (mt cI cJ cZ) (mL ad) s.heap.size z) args s 0 0 (gA (mL ad) s.heap.size)) (F0 m 66 ls [])) {H : Heap} {locs : List Loc} {ls : Array Slot} {I : TI} {J : TJ} {v1 : Int32} {v2 : Int64} {v7 : Int32} {w0 : Int32} {w1 : Int32} (hB : MB D cI cJ cZ ad s H locs I J)  (hl : lv_has ls 8 [(0, .ref (ad 0)), (1, .int v1), (2, .long v2), (7, .int v7)]) (h : fX5_worst_103 kf_41 kf_66 v1 v2 v7 w0 w1 I J = some z) : W p l e (rmd 4) s m args below meth c H locs 0 0 (MQ below (gQl D (mw cI cJ cZ ad) (mt cI cJ cZ) (mL ad) s.heap.size z) args s 0 0 (gA (mL ad) s.heap.size)) (F0 m 103 ls [.int w0, .int w1, .ref (ad 15)]) := by
  unfold fX5_worst_103 at h
  obtain ⟨c_13, h⟩ := ite_ck h
  refine ma_wasInput_st C hB c_13 dX5_worst_103 (fun H locs hB => ?_)
  refine lv_aload_n C.hx C.hb dX5_worst_104 rfl (lv_at hl 0 rfl) ?_
  refine mg_worstOf C hB tw_573 dX5_worst_105 ?_
  refine lv_iload C.hx C.hb dX5_worst_108 (lv_at hl 3 rfl) ?_
  refine lv_aload_n C.hx C.hb dX5_worst_110 rfl (lv_at hl 0 rfl) ?_
  refine mg_setTo C hB tw_567 dX5_worst_111 ?_
  refine lv_iload C.hx C.hb dX5_worst_114 (lv_at hl 3 rfl) ?_
  obtain ⟨c_14, h⟩ := ite_ck h
  refine ma_setTo_ld C hB c_14 dX5_worst_116 ?_
  refine ma_worstOf_st C hB c_14 dX5_worst_117 (fun H locs hB => ?_)
  refine lv_iinc (v := v7 + (1 : Int32)) (lv' := [(7, .int (v7 + (1 : Int32))), (0, .ref (ad 0)), (1, .int v1), (2, .long v2)]) C.hx C.hb dX5_worst_118 hl (k := 3) rfl rfl (by decide) rfl (fun ls hl => ?_)
  refine lv_goto (tgt := 66) C.hx C.hb dX5_worst_121 (by decide) ?_
  exact kt_66 hB (lv_sub hl [1, 2, 3, 0] rfl) h
def fX5_worst_102 (kf_41 : Int32 → Int64 → Int32 → TI → TJ → Option (Int64 × SS)) (kf_66 : Int32 → Int64 → Int32 → TI → TJ → Option (Int64 × SS)) (v1 : Int32) (v2 : Int64) (v7 : Int32) (w0 : Int32) (I : TI) (J : TJ) : Option (Int64 × SS) :=
  fX5_worst_103 (kf_41) (kf_66) v1 v2 v7 (0 : Int32) w0 I J
set_option maxHeartbeats 4000000 in
set_option maxRecDepth 100000 in
theorem tX5_worst_102 {p : Program} {l : Launch} {e : Env} {s : State} {m : MethodId} {args : Array Value} {below : List Frame} {meth : Method} {c : Code} (C : KX p s m args meth c "BitTunerModel" cX5_worst 8 (some .long)) {D : va_G} {cI cJ cZ : ClassId} {ad : Nat → Nat} {z : Int64 × SS} {kf_41 : Int32 → Int64 → Int32 → TI → TJ → Option (Int64 × SS)} {kf_66 : Int32 → Int64 → Int32 → TI → TJ → Option (Int64 × SS)} (kt_41 : ∀ {H : Heap} {locs : List Loc} {ls : Array Slot} {I : TI} {J : TJ} {v1 : Int32} {v2 : Int64} {v4 : Int32}, MB D cI cJ cZ ad s H locs I J → lv_has ls 8 [(0, .ref (ad 0)), (1, .int v1), (2, .long v2), (4, .int v4)] → kf_41 v1 v2 v4 I J = some z → W p l e (rmd 4) s m args below meth c H locs 0 0 (MQ below (gQl D (mw cI cJ cZ ad) (mt cI cJ cZ) (mL ad) s.heap.size z) args s 0 0 (gA (mL ad) s.heap.size)) (F0 m 41 ls [])) (kt_66 : ∀ {H : Heap} {locs : List Loc} {ls : Array Slot} {I : TI} {J : TJ} {v1 : Int32} {v2 : Int64} {v7 : Int32}, MB D cI cJ cZ ad s H locs I J → lv_has ls 8 [(0, .ref (ad 0)), (1, .int v1), (2, .long v2), (7, .int v7)] → kf_66 v1 v2 v7 I J = some z → W p l e (rmd 4) s m args below meth c H locs 0 0 (MQ below (gQl D (mw cI cJ cZ ad) (mt cI cJ cZ) (mL ad) s.heap.size z) args s 0 0 (gA (mL ad) s.heap.size)) (F0 m 66 ls [])) {H : Heap} {locs : List Loc} {ls : Array Slot} {I : TI} {J : TJ} {v1 : Int32} {v2 : Int64} {v7 : Int32} {w0 : Int32} (hB : MB D cI cJ cZ ad s H locs I J)  (hl : lv_has ls 8 [(0, .ref (ad 0)), (1, .int v1), (2, .long v2), (7, .int v7)]) (h : fX5_worst_102 kf_41 kf_66 v1 v2 v7 w0 I J = some z) : W p l e (rmd 4) s m args below meth c H locs 0 0 (MQ below (gQl D (mw cI cJ cZ ad) (mt cI cJ cZ) (mL ad) s.heap.size z) args s 0 0 (gA (mL ad) s.heap.size)) (F0 m 102 ls [.int w0, .ref (ad 15)]) := by
  unfold fX5_worst_102 at h
  refine lv_iconst (v := (0 : Int32)) C.hx C.hb dX5_worst_102 (by decide) ?_
  exact tX5_worst_103 C (kt_41) (kt_66) hB (lv_sub hl [0, 1, 2, 3] rfl) h
def fX5_worst_66 (kf_41 : Int32 → Int64 → Int32 → TI → TJ → Option (Int64 × SS)) : Nat → Int32 → Int64 → Int32 → TI → TJ → Option (Int64 × SS)
  | 0, _, _, _, _, _ => none
  | n + 1, v1, v2, v7, I, J =>
    if (16 : Int32) ≤ v7 then
    fX5_worst_124 (kf_41) v1 v2 I J
    else
    if (I 13 0) ≤ v7 then
    fX5_worst_102 (kf_41) (fX5_worst_66 kf_41 n) v1 v2 v7 v7 I J
    else
    if okx v7 then
    if (I 0 v7.toNatClampNeg) = 0 then
    fX5_worst_103 (kf_41) (fX5_worst_66 kf_41 n) v1 v2 v7 (1 : Int32) v7 I J
    else
    fX5_worst_102 (kf_41) (fX5_worst_66 kf_41 n) v1 v2 v7 v7 I J
    else none
theorem eX5_worst_66 (kf_41 : Int32 → Int64 → Int32 → TI → TJ → Option (Int64 × SS)) (n : Nat) (v1 : Int32) (v2 : Int64) (v7 : Int32) (I : TI) (J : TJ) : fX5_worst_66 kf_41 (n + 1) v1 v2 v7 I J = (
    if (16 : Int32) ≤ v7 then
    fX5_worst_124 (kf_41) v1 v2 I J
    else
    if (I 13 0) ≤ v7 then
    fX5_worst_102 (kf_41) (fX5_worst_66 kf_41 n) v1 v2 v7 v7 I J
    else
    if okx v7 then
    if (I 0 v7.toNatClampNeg) = 0 then
    fX5_worst_103 (kf_41) (fX5_worst_66 kf_41 n) v1 v2 v7 (1 : Int32) v7 I J
    else
    fX5_worst_102 (kf_41) (fX5_worst_66 kf_41 n) v1 v2 v7 v7 I J
    else none) := rfl
set_option maxHeartbeats 4000000 in
set_option maxRecDepth 100000 in
theorem tX5_worst_66 {p : Program} {l : Launch} {e : Env} {s : State} {m : MethodId} {args : Array Value} {below : List Frame} {meth : Method} {c : Code} (C : KX p s m args meth c "BitTunerModel" cX5_worst 8 (some .long)) {D : va_G} {cI cJ cZ : ClassId} {ad : Nat → Nat} {z : Int64 × SS} {kf_41 : Int32 → Int64 → Int32 → TI → TJ → Option (Int64 × SS)} (kt_41 : ∀ {H : Heap} {locs : List Loc} {ls : Array Slot} {I : TI} {J : TJ} {v1 : Int32} {v2 : Int64} {v4 : Int32}, MB D cI cJ cZ ad s H locs I J → lv_has ls 8 [(0, .ref (ad 0)), (1, .int v1), (2, .long v2), (4, .int v4)] → kf_41 v1 v2 v4 I J = some z → W p l e (rmd 4) s m args below meth c H locs 0 0 (MQ below (gQl D (mw cI cJ cZ ad) (mt cI cJ cZ) (mL ad) s.heap.size z) args s 0 0 (gA (mL ad) s.heap.size)) (F0 m 41 ls [])) : ∀ (n : Nat), ∀ {H : Heap} {locs : List Loc} {ls : Array Slot} {I : TI} {J : TJ} {v1 : Int32} {v2 : Int64} {v7 : Int32}, MB D cI cJ cZ ad s H locs I J → lv_has ls 8 [(0, .ref (ad 0)), (1, .int v1), (2, .long v2), (7, .int v7)] → fX5_worst_66 kf_41 n v1 v2 v7 I J = some z → W p l e (rmd 4) s m args below meth c H locs 0 0 (MQ below (gQl D (mw cI cJ cZ ad) (mt cI cJ cZ) (mL ad) s.heap.size z) args s 0 0 (gA (mL ad) s.heap.size)) (F0 m 66 ls []) := by
  intro n
  induction n with
  | zero =>
    intro H locs ls I J v1 v2 v7 hB  hl h
    have h : (none : Option (Int64 × SS)) = some z := h
    cases h
  | succ n ih =>
    intro H locs ls I J v1 v2 v7 hB  hl h
    replace h := (eX5_worst_66 kf_41 n v1 v2 v7 I J).symm.trans h
    refine lv_iload C.hx C.hb dX5_worst_66 (lv_at hl 3 rfl) ?_
    refine lv_bipush (v := (16 : Int32)) C.hx C.hb dX5_worst_68 (by decide) ?_
    refine lv_icmp_ge (tgt := 124) C.hx C.hb dX5_worst_70 (by decide) (fun c_11 => ?_) (fun c_11 => ?_)
    · replace h := (if_pos c_11).symm.trans h
      exact tX5_worst_124 C (kt_41) hB (lv_sub hl [0, 1, 2] rfl) h
    · replace h := (if_neg c_11).symm.trans h
      refine lv_aload_n C.hx C.hb dX5_worst_73 rfl (lv_at hl 0 rfl) ?_
      refine mg_wasInput C hB tw_572 dX5_worst_74 ?_
      refine lv_iload C.hx C.hb dX5_worst_77 (lv_at hl 3 rfl) ?_
      refine lv_iload C.hx C.hb dX5_worst_79 (lv_at hl 3 rfl) ?_
      refine lv_aload_n C.hx C.hb dX5_worst_81 rfl (lv_at hl 0 rfl) ?_
      refine mg_values C hB tw_557 dX5_worst_82 ?_
      refine lv_icmp_ge (tgt := 102) C.hx C.hb dX5_worst_85 (by decide) (fun c_12 => ?_) (fun c_12 => ?_)
      · replace h := (if_pos c_12).symm.trans h
        exact tX5_worst_102 C (kt_41) (ih) hB (lv_sub hl [0, 1, 2, 3] rfl) h
      · replace h := (if_neg c_12).symm.trans h
        refine lv_aload_n C.hx C.hb dX5_worst_88 rfl (lv_at hl 0 rfl) ?_
        refine mg_kinds C hB tw_558 dX5_worst_89 ?_
        refine lv_iload C.hx C.hb dX5_worst_92 (lv_at hl 3 rfl) ?_
        obtain ⟨c_15, h⟩ := ite_ck h
        refine ma_kinds_ld C hB c_15 dX5_worst_94 ?_
        refine lv_if_ne (tgt := 102) C.hx C.hb dX5_worst_95 (by decide) (fun c_16 => ?_) (fun c_16 => ?_)
        · replace h := (if_neg c_16).symm.trans h
          exact tX5_worst_102 C (kt_41) (ih) hB (lv_sub hl [0, 1, 2, 3] rfl) h
        · replace h := (if_pos c_16).symm.trans h
          refine lv_iconst (v := (1 : Int32)) C.hx C.hb dX5_worst_98 (by decide) ?_
          refine lv_goto (tgt := 103) C.hx C.hb dX5_worst_99 (by decide) ?_
          exact tX5_worst_103 C (kt_41) (ih) hB (lv_sub hl [0, 1, 2, 3] rfl) h
def fX5_worst_41  : Nat → Int32 → Int64 → Int32 → TI → TJ → Option (Int64 × SS)
  | 0, _, _, _, _, _ => none
  | n + 1, v1, v2, v4, I, J =>
    if v4 = 0 then
    bnd (fX5_restore I J) (fun q_7 I_7 J_7 =>
    some (v2, I_7, J_7))
    else
    bnd (fX5_missNow v1 I J) (fun q_8 I_8 J_8 =>
    if q_8 ≤ v2 then
    fX5_worst_124 (fX5_worst_41 n) v1 v2 I_8 J_8
    else
    fX5_worst_66 (fX5_worst_41 n) fuel v1 q_8 (0 : Int32) I_8 J_8)
theorem eX5_worst_41  (n : Nat) (v1 : Int32) (v2 : Int64) (v4 : Int32) (I : TI) (J : TJ) : fX5_worst_41 (n + 1) v1 v2 v4 I J = (
    if v4 = 0 then
    bnd (fX5_restore I J) (fun q_7 I_7 J_7 =>
    some (v2, I_7, J_7))
    else
    bnd (fX5_missNow v1 I J) (fun q_8 I_8 J_8 =>
    if q_8 ≤ v2 then
    fX5_worst_124 (fX5_worst_41 n) v1 v2 I_8 J_8
    else
    fX5_worst_66 (fX5_worst_41 n) fuel v1 q_8 (0 : Int32) I_8 J_8)) := rfl
set_option maxHeartbeats 4000000 in
set_option maxRecDepth 100000 in
theorem tX5_worst_41 {p : Program} {l : Launch} {e : Env} {s : State} {m : MethodId} {args : Array Value} {below : List Frame} {meth : Method} {c : Code} (C : KX p s m args meth c "BitTunerModel" cX5_worst 8 (some .long)) {D : va_G} {cI cJ cZ : ClassId} {ad : Nat → Nat} {z : Int64 × SS}   : ∀ (n : Nat), ∀ {H : Heap} {locs : List Loc} {ls : Array Slot} {I : TI} {J : TJ} {v1 : Int32} {v2 : Int64} {v4 : Int32}, MB D cI cJ cZ ad s H locs I J → lv_has ls 8 [(0, .ref (ad 0)), (1, .int v1), (2, .long v2), (4, .int v4)] → fX5_worst_41 n v1 v2 v4 I J = some z → W p l e (rmd 4) s m args below meth c H locs 0 0 (MQ below (gQl D (mw cI cJ cZ ad) (mt cI cJ cZ) (mL ad) s.heap.size z) args s 0 0 (gA (mL ad) s.heap.size)) (F0 m 41 ls []) := by
  intro n
  induction n with
  | zero =>
    intro H locs ls I J v1 v2 v4 hB  hl h
    have h : (none : Option (Int64 × SS)) = some z := h
    cases h
  | succ n ih =>
    intro H locs ls I J v1 v2 v4 hB  hl h
    replace h := (eX5_worst_41 n v1 v2 v4 I J).symm.trans h
    refine lv_iload C.hx C.hb dX5_worst_41 (lv_at hl 3 rfl) ?_
    refine lv_if_eq (tgt := 133) C.hx C.hb dX5_worst_43 (by decide) (fun c_6 => ?_) (fun c_6 => ?_)
    · replace h := (if_pos c_6).symm.trans h
      refine lv_aload_n C.hx C.hb dX5_worst_133 rfl (lv_at hl 0 rfl) ?_
      obtain ⟨q_7, I_7, J_7, hc_7, h⟩ := bnd_some h
      refine g_gov hB (g_runV C hB [] [] (cnX5_restore l D cI cJ cZ ad H.size  hc_7) 0 rfl rfl tw_783 tw_785 tw_25 tw_38 tw_786 ⟨rfl, rfl⟩ hdX5_restore ⟨Nat.le_of_ble_eq_true rfl, Nat.le_of_ble_eq_true rfl⟩ hl.1 rfl (Nat.le_of_ble_eq_true rfl) dX5_worst_134) (fun H locs hB => ?_)
      refine lv_lload_n C.hx C.hb dX5_worst_137 rfl (lv_at hl 2 rfl) ?_
      exact g_lret C hB h dX5_worst_138
    · replace h := (if_neg c_6).symm.trans h
      refine lv_aload_n C.hx C.hb dX5_worst_46 rfl (lv_at hl 0 rfl) ?_
      refine lv_iload_n C.hx C.hb dX5_worst_47 rfl (lv_at hl 1 rfl) ?_
      obtain ⟨q_8, I_8, J_8, hc_8, h⟩ := bnd_some h
      refine g_gol hB (g_runV C hB [.int v1] [] (cnX5_missNow l D cI cJ cZ ad H.size  hc_8) 0 rfl rfl tw_752 tw_754 tw_22 tw_38 tw_755 ⟨rfl, rfl⟩ hdX5_missNow ⟨Nat.le_of_ble_eq_true rfl, Nat.le_of_ble_eq_true rfl⟩ hl.1 rfl (Nat.le_of_ble_eq_true rfl) dX5_worst_48) (fun H locs hB => ?_)
      refine lv_lstore (lv' := [(5, .long q_8), (0, .ref (ad 0)), (1, .int v1), (2, .long v2), (4, .int v4)]) C.hx C.hb dX5_worst_51 hl (by decide) rfl (fun ls hl => ?_)
      refine lv_lload C.hx C.hb dX5_worst_53 (lv_at hl 0 rfl) ?_
      refine lv_lload_n C.hx C.hb dX5_worst_55 rfl (lv_at hl 3 rfl) ?_
      refine g_lcmp_le C (tgt := 124) dX5_worst_56 dX5_worst_57 (by decide) (fun c_9 => ?_) (fun c_9 => ?_)
      · replace h := (if_pos c_9).symm.trans h
        exact tX5_worst_124 C (ih) hB (lv_sub hl [1, 2, 3] rfl) h
      · replace h := (if_neg c_9).symm.trans h
        refine lv_lload C.hx C.hb dX5_worst_60 (lv_at hl 0 rfl) ?_
        refine lv_lstore_n (lv' := [(2, .long q_8), (5, .long q_8), (0, .ref (ad 0)), (1, .int v1), (4, .int v4)]) C.hx C.hb dX5_worst_62 rfl hl (by decide) rfl (fun ls hl => ?_)
        refine lv_iconst (v := (0 : Int32)) C.hx C.hb dX5_worst_63 (by decide) ?_
        refine lv_istore (lv' := [(7, .int (0 : Int32)), (2, .long q_8), (5, .long q_8), (0, .ref (ad 0)), (1, .int v1), (4, .int v4)]) C.hx C.hb dX5_worst_64 hl (by decide) rfl (fun ls hl => ?_)
        exact tX5_worst_66 C (ih) fuel hB (lv_sub hl [3, 4, 1, 0] rfl) h
def fX5_worst  (v1 : Int32) (I : TI) (J : TJ) : Option (Int64 × SS) :=
  bnd (fX5_isValue v1 I J) (fun q_1 I_1 J_1 =>
  if q_1 = 0 then
  bnd (fX5_no (-2 : Int32) I_1 J_1) (fun q_18 I_18 J_18 =>
  some (q_18, I_18, J_18))
  else
  bnd (fX5_rows I_1 J_1) (fun q_3 I_3 J_3 =>
  if q_3 ≤ (4000 : Int32) then
  bnd (fX5_keep I_3 J_3) (fun q_5 I_5 J_5 =>
  fX5_worst_41 fuel v1 (-1 : Int64) (1 : Int32) I_5 J_5)
  else
  bnd (fX5_no (-5 : Int32) I_3 J_3) (fun q_17 I_17 J_17 =>
  some (q_17, I_17, J_17))))
set_option maxHeartbeats 4000000 in
set_option maxRecDepth 100000 in
theorem tX5_worst {p : Program} {l : Launch} {e : Env} {s : State} {m : MethodId} {args : Array Value} {below : List Frame} {meth : Method} {c : Code} (C : KX p s m args meth c "BitTunerModel" cX5_worst 8 (some .long)) {D : va_G} {cI cJ cZ : ClassId} {ad : Nat → Nat} {z : Int64 × SS}   {H : Heap} {locs : List Loc} {ls : Array Slot} {I : TI} {J : TJ} {v1 : Int32} (hB : MB D cI cJ cZ ad s H locs I J)  (hl : lv_has ls 8 [(0, .ref (ad 0)), (1, .int v1)]) (h : fX5_worst v1 I J = some z) : W p l e (rmd 4) s m args below meth c H locs 0 0 (MQ below (gQl D (mw cI cJ cZ ad) (mt cI cJ cZ) (mL ad) s.heap.size z) args s 0 0 (gA (mL ad) s.heap.size)) (F0 m 0 ls []) := by
  unfold fX5_worst at h
  refine lv_aload_n C.hx C.hb dX5_worst_0 rfl (lv_at hl 0 rfl) ?_
  refine lv_iload_n C.hx C.hb dX5_worst_1 rfl (lv_at hl 1 rfl) ?_
  obtain ⟨q_1, I_1, J_1, hc_1, h⟩ := bnd_some h
  refine g_goi hB (g_runV C hB [.int v1] [] (cnX5_isValue l D cI cJ cZ ad H.size  hc_1) 0 rfl rfl tw_642 tw_644 tw_15 tw_38 tw_645 ⟨rfl, rfl⟩ hdX5_isValue ⟨Nat.le_of_ble_eq_true rfl, Nat.le_of_ble_eq_true rfl⟩ hl.1 rfl (Nat.le_of_ble_eq_true rfl) dX5_worst_2) (fun H locs hB => ?_)
  refine lv_if_ne (tgt := 14) C.hx C.hb dX5_worst_5 (by decide) (fun c_2 => ?_) (fun c_2 => ?_)
  · replace h := (if_neg c_2).symm.trans h
    refine lv_aload_n C.hx C.hb dX5_worst_14 rfl (lv_at hl 0 rfl) ?_
    obtain ⟨q_3, I_3, J_3, hc_3, h⟩ := bnd_some h
    refine g_goi hB (g_runV C hB [] [] (cnX5_rows l D cI cJ cZ ad H.size  hc_3) 0 rfl rfl tw_773 tw_765 tw_766 tw_38 tw_767 ⟨rfl, rfl⟩ hdX5_rows ⟨Nat.le_of_ble_eq_true rfl, Nat.le_of_ble_eq_true rfl⟩ hl.1 rfl (Nat.le_of_ble_eq_true rfl) dX5_worst_15) (fun H locs hB => ?_)
    refine lv_sipush (v := (4000 : Int32)) C.hx C.hb dX5_worst_18 (by decide) ?_
    refine lv_icmp_le (tgt := 30) C.hx C.hb dX5_worst_21 (by decide) (fun c_4 => ?_) (fun c_4 => ?_)
    · replace h := (if_pos c_4).symm.trans h
      refine lv_aload_n C.hx C.hb dX5_worst_30 rfl (lv_at hl 0 rfl) ?_
      obtain ⟨q_5, I_5, J_5, hc_5, h⟩ := bnd_some h
      refine g_gov hB (g_runV C hB [] [] (cnX5_keep l D cI cJ cZ ad H.size  hc_5) 0 rfl rfl tw_774 tw_776 tw_23 tw_38 tw_777 ⟨rfl, rfl⟩ hdX5_keep ⟨Nat.le_of_ble_eq_true rfl, Nat.le_of_ble_eq_true rfl⟩ hl.1 rfl (Nat.le_of_ble_eq_true rfl) dX5_worst_31) (fun H locs hB => ?_)
      refine lv_ldc2 C.hx C.hb C.hown (C.hts _ tw_778) dX5_worst_34 ?_
      refine lv_lstore_n (lv' := [(2, .long (-1 : Int64)), (0, .ref (ad 0)), (1, .int v1)]) C.hx C.hb dX5_worst_37 rfl hl (by decide) rfl (fun ls hl => ?_)
      refine lv_iconst (v := (1 : Int32)) C.hx C.hb dX5_worst_38 (by decide) ?_
      refine lv_istore (lv' := [(4, .int (1 : Int32)), (2, .long (-1 : Int64)), (0, .ref (ad 0)), (1, .int v1)]) C.hx C.hb dX5_worst_39 hl (by decide) rfl (fun ls hl => ?_)
      exact tX5_worst_41 C  fuel hB (lv_sub hl [2, 3, 1, 0] rfl) h
    · replace h := (if_neg c_4).symm.trans h
      refine lv_bipush (v := (-5 : Int32)) C.hx C.hb dX5_worst_24 (by decide) ?_
      obtain ⟨q_17, I_17, J_17, hc_17, h⟩ := bnd_some h
      refine g_gol hB (g_runS C hB [.int (-5 : Int32)] [] (cnX5_no l D cI cJ cZ ad H.size  hc_17) tw_684 tw_685 tw_38 tw_686 ⟨rfl, rfl⟩ hdX5_no ⟨Nat.le_of_ble_eq_true rfl, Nat.le_of_ble_eq_true rfl⟩ hl.1 rfl (Nat.le_of_ble_eq_true rfl) dX5_worst_26) (fun H locs hB => ?_)
      exact g_lret C hB h dX5_worst_29
  · replace h := (if_pos c_2).symm.trans h
    refine lv_bipush (v := (-2 : Int32)) C.hx C.hb dX5_worst_8 (by decide) ?_
    obtain ⟨q_18, I_18, J_18, hc_18, h⟩ := bnd_some h
    refine g_gol hB (g_runS C hB [.int (-2 : Int32)] [] (cnX5_no l D cI cJ cZ ad H.size  hc_18) tw_684 tw_685 tw_38 tw_686 ⟨rfl, rfl⟩ hdX5_no ⟨Nat.le_of_ble_eq_true rfl, Nat.le_of_ble_eq_true rfl⟩ hl.1 rfl (Nat.le_of_ble_eq_true rfl) dX5_worst_10) (fun H locs hB => ?_)
    exact g_lret C hB h dX5_worst_13
set_option maxHeartbeats 4000000 in
set_option maxRecDepth 100000 in
theorem cnX5_worst (l : Launch) (D : va_G) (cI cJ cZ : ClassId) (ad : Nat → Nat) (sz : Nat) {v1 : Int32} {I : TI} {J : TJ} {z : Int64 × SS}  (h : fX5_worst v1 I J = some z) : Met l yX5_worst (wsm yX5_worst cX5_worst 8 (some .long)) (rmd 4) (va_Pc [.ref (ad 0), .int v1] (gPre D (mw cI cJ cZ ad) (mt cI cJ cZ) sz I J)) (gQl D (mw cI cJ cZ ad) (mt cI cJ cZ) (mL ad) sz z) 0 0 (gA (mL ad) sz) :=
  g_met (by decide) mw_WL (fun p e s m below meth c hsz C hB ls hl => by subst hsz; exact tX5_worst C hB  hl h) (Nat.le_of_ble_eq_true rfl)
theorem hdX5_worstAt : yX5_worstAt.cls = "BitTunerModel" ∧ yX5_worstAt.cls ≠ "java/lang/invoke/MethodHandle" ∧ yX5_worstAt.cls ≠ "java/lang/invoke/VarHandle" ∧ (parseMethodDescriptor yX5_worstAt.desc).map (fun d => d.parameters.length) = some 1 := by decide +kernel
def fX5_worstAt  (v1 : Int32) (I : TI) (J : TJ) : Option (Int32 × SS) :=
  bnd (fX5_in v1.toInt64 (0 : Int64) (15 : Int64) I J) (fun q_1 I_1 J_1 =>
  if q_1 = 0 then
  some ((-2 : Int32), I_1, J_1)
  else
  if okx v1 then
  if (I_1 9 v1.toNatClampNeg) = 0 then
  some ((-2 : Int32), I_1, J_1)
  else
  some (I_1 10 v1.toNatClampNeg, I_1, J_1)
  else none)
set_option maxHeartbeats 4000000 in
set_option maxRecDepth 100000 in
theorem tX5_worstAt {p : Program} {l : Launch} {e : Env} {s : State} {m : MethodId} {args : Array Value} {below : List Frame} {meth : Method} {c : Code} (C : KX p s m args meth c "BitTunerModel" cX5_worstAt 2 (some .int)) {D : va_G} {cI cJ cZ : ClassId} {ad : Nat → Nat} {z : Int32 × SS}   {H : Heap} {locs : List Loc} {ls : Array Slot} {I : TI} {J : TJ} {v1 : Int32} (hB : MB D cI cJ cZ ad s H locs I J)  (hl : lv_has ls 2 [(0, .ref (ad 0)), (1, .int v1)]) (h : fX5_worstAt v1 I J = some z) : W p l e (rmd 1) s m args below meth c H locs 0 0 (MQ below (gQi D (mw cI cJ cZ ad) (mt cI cJ cZ) (mL ad) s.heap.size z) args s 0 0 (gA (mL ad) s.heap.size)) (F0 m 0 ls []) := by
  unfold fX5_worstAt at h
  refine lv_iload_n C.hx C.hb dX5_worstAt_0 rfl (lv_at hl 1 rfl) ?_
  refine lv_i2l C.hx C.hb dX5_worstAt_1 rfl ?_
  refine lv_lconst (v := (0 : Int64)) C.hx C.hb dX5_worstAt_2 (by decide) ?_
  refine lv_ldc2 C.hx C.hb C.hown (C.hts _ tw_791) dX5_worstAt_3 ?_
  obtain ⟨q_1, I_1, J_1, hc_1, h⟩ := bnd_some h
  refine g_goi hB (g_runS C hB [.long v1.toInt64, .long (0 : Int64), .long (15 : Int64)] [] (cnX5_in l D cI cJ cZ ad H.size  hc_1) tw_625 tw_626 tw_38 tw_627 ⟨rfl, rfl⟩ hdX5_in ⟨Nat.le_of_ble_eq_true rfl, Nat.le_of_ble_eq_true rfl⟩ hl.1 rfl (Nat.le_of_ble_eq_true rfl) dX5_worstAt_6) (fun H locs hB => ?_)
  refine lv_if_eq (tgt := 30) C.hx C.hb dX5_worstAt_9 (by decide) (fun c_2 => ?_) (fun c_2 => ?_)
  · replace h := (if_pos c_2).symm.trans h
    refine lv_bipush (v := (-2 : Int32)) C.hx C.hb dX5_worstAt_30 (by decide) ?_
    exact g_iret C hB h dX5_worstAt_32
  · replace h := (if_neg c_2).symm.trans h
    refine lv_aload_n C.hx C.hb dX5_worstAt_12 rfl (lv_at hl 0 rfl) ?_
    refine mg_wasInput C hB tw_572 dX5_worstAt_13 ?_
    refine lv_iload_n C.hx C.hb dX5_worstAt_16 rfl (lv_at hl 1 rfl) ?_
    obtain ⟨c_3, h⟩ := ite_ck h
    refine ma_wasInput_ld C hB c_3 dX5_worstAt_17 ?_
    refine lv_if_eq (tgt := 30) C.hx C.hb dX5_worstAt_18 (by decide) (fun c_4 => ?_) (fun c_4 => ?_)
    · replace h := (if_pos c_4).symm.trans h
      refine lv_bipush (v := (-2 : Int32)) C.hx C.hb dX5_worstAt_30 (by decide) ?_
      exact g_iret C hB h dX5_worstAt_32
    · replace h := (if_neg c_4).symm.trans h
      refine lv_aload_n C.hx C.hb dX5_worstAt_21 rfl (lv_at hl 0 rfl) ?_
      refine mg_worstOf C hB tw_573 dX5_worstAt_22 ?_
      refine lv_iload_n C.hx C.hb dX5_worstAt_25 rfl (lv_at hl 1 rfl) ?_
      refine ma_worstOf_ld C hB c_3 dX5_worstAt_26 ?_
      refine lv_goto (tgt := 32) C.hx C.hb dX5_worstAt_27 (by decide) ?_
      exact g_iret C hB h dX5_worstAt_32
set_option maxHeartbeats 4000000 in
set_option maxRecDepth 100000 in
theorem cnX5_worstAt (l : Launch) (D : va_G) (cI cJ cZ : ClassId) (ad : Nat → Nat) (sz : Nat) {v1 : Int32} {I : TI} {J : TJ} {z : Int32 × SS}  (h : fX5_worstAt v1 I J = some z) : Met l yX5_worstAt (wsm yX5_worstAt cX5_worstAt 2 (some .int)) (rmd 1) (va_Pc [.ref (ad 0), .int v1] (gPre D (mw cI cJ cZ ad) (mt cI cJ cZ) sz I J)) (gQi D (mw cI cJ cZ ad) (mt cI cJ cZ) (mL ad) sz z) 0 0 (gA (mL ad) sz) :=
  g_met (by decide) mw_WL (fun p e s m below meth c hsz C hB ls hl => by subst hsz; exact tX5_worstAt C hB  hl h) (Nat.le_of_ble_eq_true rfl)
theorem hdX5_above : yX5_above.cls = "BitTunerModel" ∧ yX5_above.cls ≠ "java/lang/invoke/MethodHandle" ∧ yX5_above.cls ≠ "java/lang/invoke/VarHandle" ∧ (parseMethodDescriptor yX5_above.desc).map (fun d => d.parameters.length) = some 2 := by decide +kernel
def fX5_above_56 (kf_34 : Int32 → Int64 → Int32 → Int32 → TI → TJ → Option (Int32 × SS)) (v1 : Int32) (v2 : Int64) (w0 : Int32) (w1 : Int32) (I : TI) (J : TJ) : Option (Int32 × SS) :=
  bnd (fX5_goesOn I J) (fun q_10 I_10 J_10 =>
  kf_34 v1 v2 (w1 + w0) q_10 I_10 J_10)
set_option maxHeartbeats 4000000 in
set_option maxRecDepth 100000 in
theorem tX5_above_56 {p : Program} {l : Launch} {e : Env} {s : State} {m : MethodId} {args : Array Value} {below : List Frame} {meth : Method} {c : Code} (C : KX p s m args meth c "BitTunerModel" cX5_above 6 (some .int)) {D : va_G} {cI cJ cZ : ClassId} {ad : Nat → Nat} {z : Int32 × SS} {kf_34 : Int32 → Int64 → Int32 → Int32 → TI → TJ → Option (Int32 × SS)} (kt_34 : ∀ {H : Heap} {locs : List Loc} {ls : Array Slot} {I : TI} {J : TJ} {v1 : Int32} {v2 : Int64} {v4 : Int32} {v5 : Int32}, MB D cI cJ cZ ad s H locs I J → lv_has ls 6 [(0, .ref (ad 0)), (1, .int v1), (2, .long v2), (4, .int v4), (5, .int v5)] → kf_34 v1 v2 v4 v5 I J = some z → W p l e (rmd 4) s m args below meth c H locs 0 0 (MQ below (gQi D (mw cI cJ cZ ad) (mt cI cJ cZ) (mL ad) s.heap.size z) args s 0 0 (gA (mL ad) s.heap.size)) (F0 m 34 ls [])) {H : Heap} {locs : List Loc} {ls : Array Slot} {I : TI} {J : TJ} {v1 : Int32} {v2 : Int64} {w0 : Int32} {w1 : Int32} (hB : MB D cI cJ cZ ad s H locs I J)  (hl : lv_has ls 6 [(0, .ref (ad 0)), (1, .int v1), (2, .long v2)]) (h : fX5_above_56 kf_34 v1 v2 w0 w1 I J = some z) : W p l e (rmd 4) s m args below meth c H locs 0 0 (MQ below (gQi D (mw cI cJ cZ ad) (mt cI cJ cZ) (mL ad) s.heap.size z) args s 0 0 (gA (mL ad) s.heap.size)) (F0 m 56 ls [.int w0, .int w1]) := by
  unfold fX5_above_56 at h
  refine lv_iadd C.hx C.hb dX5_above_56 ?_
  refine lv_istore (lv' := [(4, .int (w1 + w0)), (0, .ref (ad 0)), (1, .int v1), (2, .long v2)]) C.hx C.hb dX5_above_57 hl (by decide) rfl (fun ls hl => ?_)
  refine lv_aload_n C.hx C.hb dX5_above_59 rfl (lv_at hl 1 rfl) ?_
  obtain ⟨q_10, I_10, J_10, hc_10, h⟩ := bnd_some h
  refine g_goi hB (g_runV C hB [] [] (cnX5_goesOn l D cI cJ cZ ad H.size  hc_10) 0 rfl rfl tw_779 tw_781 tw_24 tw_38 tw_782 ⟨rfl, rfl⟩ hdX5_goesOn ⟨Nat.le_of_ble_eq_true rfl, Nat.le_of_ble_eq_true rfl⟩ hl.1 rfl (Nat.le_of_ble_eq_true rfl) dX5_above_60) (fun H locs hB => ?_)
  refine lv_istore (lv' := [(5, .int q_10), (4, .int (w1 + w0)), (0, .ref (ad 0)), (1, .int v1), (2, .long v2)]) C.hx C.hb dX5_above_63 hl (by decide) rfl (fun ls hl => ?_)
  refine lv_goto (tgt := 34) C.hx C.hb dX5_above_65 (by decide) ?_
  exact kt_34 hB (lv_sub hl [2, 3, 4, 1, 0] rfl) h
def fX5_above_34  : Nat → Int32 → Int64 → Int32 → Int32 → TI → TJ → Option (Int32 × SS)
  | 0, _, _, _, _, _, _ => none
  | n + 1, v1, v2, v4, v5, I, J =>
    if v5 = 0 then
    bnd (fX5_restore I J) (fun q_7 I_7 J_7 =>
    some (v4, I_7, J_7))
    else
    bnd (fX5_missNow v1 I J) (fun q_8 I_8 J_8 =>
    if q_8 ≤ v2 then
    fX5_above_56 (fX5_above_34 n) v1 v2 (0 : Int32) v4 I_8 J_8
    else
    fX5_above_56 (fX5_above_34 n) v1 v2 (1 : Int32) v4 I_8 J_8)
theorem eX5_above_34  (n : Nat) (v1 : Int32) (v2 : Int64) (v4 : Int32) (v5 : Int32) (I : TI) (J : TJ) : fX5_above_34 (n + 1) v1 v2 v4 v5 I J = (
    if v5 = 0 then
    bnd (fX5_restore I J) (fun q_7 I_7 J_7 =>
    some (v4, I_7, J_7))
    else
    bnd (fX5_missNow v1 I J) (fun q_8 I_8 J_8 =>
    if q_8 ≤ v2 then
    fX5_above_56 (fX5_above_34 n) v1 v2 (0 : Int32) v4 I_8 J_8
    else
    fX5_above_56 (fX5_above_34 n) v1 v2 (1 : Int32) v4 I_8 J_8)) := rfl
set_option maxHeartbeats 4000000 in
set_option maxRecDepth 100000 in
theorem tX5_above_34 {p : Program} {l : Launch} {e : Env} {s : State} {m : MethodId} {args : Array Value} {below : List Frame} {meth : Method} {c : Code} (C : KX p s m args meth c "BitTunerModel" cX5_above 6 (some .int)) {D : va_G} {cI cJ cZ : ClassId} {ad : Nat → Nat} {z : Int32 × SS}   : ∀ (n : Nat), ∀ {H : Heap} {locs : List Loc} {ls : Array Slot} {I : TI} {J : TJ} {v1 : Int32} {v2 : Int64} {v4 : Int32} {v5 : Int32}, MB D cI cJ cZ ad s H locs I J → lv_has ls 6 [(0, .ref (ad 0)), (1, .int v1), (2, .long v2), (4, .int v4), (5, .int v5)] → fX5_above_34 n v1 v2 v4 v5 I J = some z → W p l e (rmd 4) s m args below meth c H locs 0 0 (MQ below (gQi D (mw cI cJ cZ ad) (mt cI cJ cZ) (mL ad) s.heap.size z) args s 0 0 (gA (mL ad) s.heap.size)) (F0 m 34 ls []) := by
  intro n
  induction n with
  | zero =>
    intro H locs ls I J v1 v2 v4 v5 hB  hl h
    have h : (none : Option (Int32 × SS)) = some z := h
    cases h
  | succ n ih =>
    intro H locs ls I J v1 v2 v4 v5 hB  hl h
    replace h := (eX5_above_34 n v1 v2 v4 v5 I J).symm.trans h
    refine lv_iload C.hx C.hb dX5_above_34 (lv_at hl 4 rfl) ?_
    refine lv_if_eq (tgt := 68) C.hx C.hb dX5_above_36 (by decide) (fun c_6 => ?_) (fun c_6 => ?_)
    · replace h := (if_pos c_6).symm.trans h
      refine lv_aload_n C.hx C.hb dX5_above_68 rfl (lv_at hl 0 rfl) ?_
      obtain ⟨q_7, I_7, J_7, hc_7, h⟩ := bnd_some h
      refine g_gov hB (g_runV C hB [] [] (cnX5_restore l D cI cJ cZ ad H.size  hc_7) 0 rfl rfl tw_783 tw_785 tw_25 tw_38 tw_786 ⟨rfl, rfl⟩ hdX5_restore ⟨Nat.le_of_ble_eq_true rfl, Nat.le_of_ble_eq_true rfl⟩ hl.1 rfl (Nat.le_of_ble_eq_true rfl) dX5_above_69) (fun H locs hB => ?_)
      refine lv_iload C.hx C.hb dX5_above_72 (lv_at hl 3 rfl) ?_
      exact g_iret C hB h dX5_above_74
    · replace h := (if_neg c_6).symm.trans h
      refine lv_iload C.hx C.hb dX5_above_39 (lv_at hl 3 rfl) ?_
      refine lv_aload_n C.hx C.hb dX5_above_41 rfl (lv_at hl 0 rfl) ?_
      refine lv_iload_n C.hx C.hb dX5_above_42 rfl (lv_at hl 1 rfl) ?_
      obtain ⟨q_8, I_8, J_8, hc_8, h⟩ := bnd_some h
      refine g_gol hB (g_runV C hB [.int v1] [.int v4] (cnX5_missNow l D cI cJ cZ ad H.size  hc_8) 0 rfl rfl tw_752 tw_754 tw_22 tw_38 tw_755 ⟨rfl, rfl⟩ hdX5_missNow ⟨Nat.le_of_ble_eq_true rfl, Nat.le_of_ble_eq_true rfl⟩ hl.1 rfl (Nat.le_of_ble_eq_true rfl) dX5_above_43) (fun H locs hB => ?_)
      refine lv_lload_n C.hx C.hb dX5_above_46 rfl (lv_at hl 2 rfl) ?_
      refine g_lcmp_le C (tgt := 55) dX5_above_47 dX5_above_48 (by decide) (fun c_9 => ?_) (fun c_9 => ?_)
      · replace h := (if_pos c_9).symm.trans h
        refine lv_iconst (v := (0 : Int32)) C.hx C.hb dX5_above_55 (by decide) ?_
        exact tX5_above_56 C (ih) hB (lv_sub hl [0, 1, 2] rfl) h
      · replace h := (if_neg c_9).symm.trans h
        refine lv_iconst (v := (1 : Int32)) C.hx C.hb dX5_above_51 (by decide) ?_
        refine lv_goto (tgt := 56) C.hx C.hb dX5_above_52 (by decide) ?_
        exact tX5_above_56 C (ih) hB (lv_sub hl [0, 1, 2] rfl) h
def fX5_above  (v1 : Int32) (v2 : Int64) (I : TI) (J : TJ) : Option (Int32 × SS) :=
  bnd (fX5_isValue v1 I J) (fun q_1 I_1 J_1 =>
  if q_1 = 0 then
  some ((-2 : Int32), I_1, J_1)
  else
  bnd (fX5_rows I_1 J_1) (fun q_3 I_3 J_3 =>
  if q_3 ≤ (4000 : Int32) then
  bnd (fX5_keep I_3 J_3) (fun q_5 I_5 J_5 =>
  fX5_above_34 fuel v1 v2 (0 : Int32) (1 : Int32) I_5 J_5)
  else
  some ((-5 : Int32), I_3, J_3)))
set_option maxHeartbeats 4000000 in
set_option maxRecDepth 100000 in
theorem tX5_above {p : Program} {l : Launch} {e : Env} {s : State} {m : MethodId} {args : Array Value} {below : List Frame} {meth : Method} {c : Code} (C : KX p s m args meth c "BitTunerModel" cX5_above 6 (some .int)) {D : va_G} {cI cJ cZ : ClassId} {ad : Nat → Nat} {z : Int32 × SS}   {H : Heap} {locs : List Loc} {ls : Array Slot} {I : TI} {J : TJ} {v1 : Int32} {v2 : Int64} (hB : MB D cI cJ cZ ad s H locs I J)  (hl : lv_has ls 6 [(0, .ref (ad 0)), (1, .int v1), (2, .long v2)]) (h : fX5_above v1 v2 I J = some z) : W p l e (rmd 4) s m args below meth c H locs 0 0 (MQ below (gQi D (mw cI cJ cZ ad) (mt cI cJ cZ) (mL ad) s.heap.size z) args s 0 0 (gA (mL ad) s.heap.size)) (F0 m 0 ls []) := by
  unfold fX5_above at h
  refine lv_aload_n C.hx C.hb dX5_above_0 rfl (lv_at hl 0 rfl) ?_
  refine lv_iload_n C.hx C.hb dX5_above_1 rfl (lv_at hl 1 rfl) ?_
  obtain ⟨q_1, I_1, J_1, hc_1, h⟩ := bnd_some h
  refine g_goi hB (g_runV C hB [.int v1] [] (cnX5_isValue l D cI cJ cZ ad H.size  hc_1) 0 rfl rfl tw_642 tw_644 tw_15 tw_38 tw_645 ⟨rfl, rfl⟩ hdX5_isValue ⟨Nat.le_of_ble_eq_true rfl, Nat.le_of_ble_eq_true rfl⟩ hl.1 rfl (Nat.le_of_ble_eq_true rfl) dX5_above_2) (fun H locs hB => ?_)
  refine lv_if_ne (tgt := 11) C.hx C.hb dX5_above_5 (by decide) (fun c_2 => ?_) (fun c_2 => ?_)
  · replace h := (if_neg c_2).symm.trans h
    refine lv_aload_n C.hx C.hb dX5_above_11 rfl (lv_at hl 0 rfl) ?_
    obtain ⟨q_3, I_3, J_3, hc_3, h⟩ := bnd_some h
    refine g_goi hB (g_runV C hB [] [] (cnX5_rows l D cI cJ cZ ad H.size  hc_3) 0 rfl rfl tw_773 tw_765 tw_766 tw_38 tw_767 ⟨rfl, rfl⟩ hdX5_rows ⟨Nat.le_of_ble_eq_true rfl, Nat.le_of_ble_eq_true rfl⟩ hl.1 rfl (Nat.le_of_ble_eq_true rfl) dX5_above_12) (fun H locs hB => ?_)
    refine lv_sipush (v := (4000 : Int32)) C.hx C.hb dX5_above_15 (by decide) ?_
    refine lv_icmp_le (tgt := 24) C.hx C.hb dX5_above_18 (by decide) (fun c_4 => ?_) (fun c_4 => ?_)
    · replace h := (if_pos c_4).symm.trans h
      refine lv_aload_n C.hx C.hb dX5_above_24 rfl (lv_at hl 0 rfl) ?_
      obtain ⟨q_5, I_5, J_5, hc_5, h⟩ := bnd_some h
      refine g_gov hB (g_runV C hB [] [] (cnX5_keep l D cI cJ cZ ad H.size  hc_5) 0 rfl rfl tw_774 tw_776 tw_23 tw_38 tw_777 ⟨rfl, rfl⟩ hdX5_keep ⟨Nat.le_of_ble_eq_true rfl, Nat.le_of_ble_eq_true rfl⟩ hl.1 rfl (Nat.le_of_ble_eq_true rfl) dX5_above_25) (fun H locs hB => ?_)
      refine lv_iconst (v := (0 : Int32)) C.hx C.hb dX5_above_28 (by decide) ?_
      refine lv_istore (lv' := [(4, .int (0 : Int32)), (0, .ref (ad 0)), (1, .int v1), (2, .long v2)]) C.hx C.hb dX5_above_29 hl (by decide) rfl (fun ls hl => ?_)
      refine lv_iconst (v := (1 : Int32)) C.hx C.hb dX5_above_31 (by decide) ?_
      refine lv_istore (lv' := [(5, .int (1 : Int32)), (4, .int (0 : Int32)), (0, .ref (ad 0)), (1, .int v1), (2, .long v2)]) C.hx C.hb dX5_above_32 hl (by decide) rfl (fun ls hl => ?_)
      exact tX5_above_34 C  fuel hB (lv_sub hl [2, 3, 4, 1, 0] rfl) h
    · replace h := (if_neg c_4).symm.trans h
      refine lv_bipush (v := (-5 : Int32)) C.hx C.hb dX5_above_21 (by decide) ?_
      exact g_iret C hB h dX5_above_23
  · replace h := (if_pos c_2).symm.trans h
    refine lv_bipush (v := (-2 : Int32)) C.hx C.hb dX5_above_8 (by decide) ?_
    exact g_iret C hB h dX5_above_10
set_option maxHeartbeats 4000000 in
set_option maxRecDepth 100000 in
theorem cnX5_above (l : Launch) (D : va_G) (cI cJ cZ : ClassId) (ad : Nat → Nat) (sz : Nat) {v1 : Int32} {v2 : Int64} {I : TI} {J : TJ} {z : Int32 × SS}  (h : fX5_above v1 v2 I J = some z) : Met l yX5_above (wsm yX5_above cX5_above 6 (some .int)) (rmd 4) (va_Pc [.ref (ad 0), .int v1, .long v2] (gPre D (mw cI cJ cZ ad) (mt cI cJ cZ) sz I J)) (gQi D (mw cI cJ cZ ad) (mt cI cJ cZ) (mL ad) sz z) 0 0 (gA (mL ad) sz) :=
  g_met (by decide) mw_WL (fun p e s m below meth c hsz C hB ls hl => by subst hsz; exact tX5_above C hB  hl h) (Nat.le_of_ble_eq_true rfl)
theorem hdX5_works : yX5_works.cls = "BitTunerModel" ∧ yX5_works.cls ≠ "java/lang/invoke/MethodHandle" ∧ yX5_works.cls ≠ "java/lang/invoke/VarHandle" ∧ (parseMethodDescriptor yX5_works.desc).map (fun d => d.parameters.length) = some 0 := by decide +kernel
def fX5_works_4  : Nat → Int32 → Int32 → TI → TJ → Option (Int32 × SS)
  | 0, _, _, _, _ => none
  | n + 1, v1, v2, I, J =>
    if (I 13 0) ≤ v2 then
    some (v1, I, J)
    else
    if okx v2 then
    if (I 0 v2.toNatClampNeg) ≤ (1 : Int32) then
    fX5_works_4 n (v1 + (0 : Int32)) (v2 + (1 : Int32)) I J
    else
    fX5_works_4 n (v1 + (1 : Int32)) (v2 + (1 : Int32)) I J
    else none
theorem eX5_works_4  (n : Nat) (v1 : Int32) (v2 : Int32) (I : TI) (J : TJ) : fX5_works_4 (n + 1) v1 v2 I J = (
    if (I 13 0) ≤ v2 then
    some (v1, I, J)
    else
    if okx v2 then
    if (I 0 v2.toNatClampNeg) ≤ (1 : Int32) then
    fX5_works_4 n (v1 + (0 : Int32)) (v2 + (1 : Int32)) I J
    else
    fX5_works_4 n (v1 + (1 : Int32)) (v2 + (1 : Int32)) I J
    else none) := rfl
set_option maxHeartbeats 4000000 in
set_option maxRecDepth 100000 in
theorem tX5_works_4 {p : Program} {l : Launch} {e : Env} {s : State} {m : MethodId} {args : Array Value} {below : List Frame} {meth : Method} {c : Code} (C : KX p s m args meth c "BitTunerModel" cX5_works 3 (some .int)) {D : va_G} {cI cJ cZ : ClassId} {ad : Nat → Nat} {z : Int32 × SS}   : ∀ (n : Nat), ∀ {H : Heap} {locs : List Loc} {ls : Array Slot} {I : TI} {J : TJ} {v1 : Int32} {v2 : Int32}, MB D cI cJ cZ ad s H locs I J → lv_has ls 3 [(0, .ref (ad 0)), (1, .int v1), (2, .int v2)] → fX5_works_4 n v1 v2 I J = some z → W p l e (rmd 0) s m args below meth c H locs 0 0 (MQ below (gQi D (mw cI cJ cZ ad) (mt cI cJ cZ) (mL ad) s.heap.size z) args s 0 0 (gA (mL ad) s.heap.size)) (F0 m 4 ls []) := by
  intro n
  induction n with
  | zero =>
    intro H locs ls I J v1 v2 hB  hl h
    have h : (none : Option (Int32 × SS)) = some z := h
    cases h
  | succ n ih =>
    intro H locs ls I J v1 v2 hB  hl h
    replace h := (eX5_works_4 n v1 v2 I J).symm.trans h
    refine lv_iload_n C.hx C.hb dX5_works_4 rfl (lv_at hl 2 rfl) ?_
    refine lv_aload_n C.hx C.hb dX5_works_5 rfl (lv_at hl 0 rfl) ?_
    refine mg_values C hB tw_557 dX5_works_6 ?_
    refine lv_icmp_ge (tgt := 36) C.hx C.hb dX5_works_9 (by decide) (fun c_1 => ?_) (fun c_1 => ?_)
    · replace h := (if_pos c_1).symm.trans h
      refine lv_iload_n C.hx C.hb dX5_works_36 rfl (lv_at hl 1 rfl) ?_
      exact g_iret C hB h dX5_works_37
    · replace h := (if_neg c_1).symm.trans h
      refine lv_iload_n C.hx C.hb dX5_works_12 rfl (lv_at hl 1 rfl) ?_
      refine lv_aload_n C.hx C.hb dX5_works_13 rfl (lv_at hl 0 rfl) ?_
      refine mg_kinds C hB tw_558 dX5_works_14 ?_
      refine lv_iload_n C.hx C.hb dX5_works_17 rfl (lv_at hl 2 rfl) ?_
      obtain ⟨c_2, h⟩ := ite_ck h
      refine ma_kinds_ld C hB c_2 dX5_works_18 ?_
      refine lv_iconst (v := (1 : Int32)) C.hx C.hb dX5_works_19 (by decide) ?_
      refine lv_icmp_le (tgt := 27) C.hx C.hb dX5_works_20 (by decide) (fun c_3 => ?_) (fun c_3 => ?_)
      · replace h := (if_pos c_3).symm.trans h
        refine lv_iconst (v := (0 : Int32)) C.hx C.hb dX5_works_27 (by decide) ?_
        refine lv_iadd C.hx C.hb dX5_works_28 ?_
        refine lv_istore_n (lv' := [(1, .int (v1 + (0 : Int32))), (0, .ref (ad 0)), (2, .int v2)]) C.hx C.hb dX5_works_29 rfl hl (by decide) rfl (fun ls hl => ?_)
        refine lv_iinc (v := v2 + (1 : Int32)) (lv' := [(2, .int (v2 + (1 : Int32))), (1, .int (v1 + (0 : Int32))), (0, .ref (ad 0))]) C.hx C.hb dX5_works_30 hl (k := 2) rfl rfl (by decide) rfl (fun ls hl => ?_)
        refine lv_goto (tgt := 4) C.hx C.hb dX5_works_33 (by decide) ?_
        exact ih hB (lv_sub hl [2, 1, 0] rfl) h
      · replace h := (if_neg c_3).symm.trans h
        refine lv_iconst (v := (1 : Int32)) C.hx C.hb dX5_works_23 (by decide) ?_
        refine lv_goto (tgt := 28) C.hx C.hb dX5_works_24 (by decide) ?_
        refine lv_iadd C.hx C.hb dX5_works_28 ?_
        refine lv_istore_n (lv' := [(1, .int (v1 + (1 : Int32))), (0, .ref (ad 0)), (2, .int v2)]) C.hx C.hb dX5_works_29 rfl hl (by decide) rfl (fun ls hl => ?_)
        refine lv_iinc (v := v2 + (1 : Int32)) (lv' := [(2, .int (v2 + (1 : Int32))), (1, .int (v1 + (1 : Int32))), (0, .ref (ad 0))]) C.hx C.hb dX5_works_30 hl (k := 2) rfl rfl (by decide) rfl (fun ls hl => ?_)
        refine lv_goto (tgt := 4) C.hx C.hb dX5_works_33 (by decide) ?_
        exact ih hB (lv_sub hl [2, 1, 0] rfl) h
def fX5_works   (I : TI) (J : TJ) : Option (Int32 × SS) :=
  fX5_works_4 fuel (0 : Int32) (0 : Int32) I J
set_option maxHeartbeats 4000000 in
set_option maxRecDepth 100000 in
theorem tX5_works {p : Program} {l : Launch} {e : Env} {s : State} {m : MethodId} {args : Array Value} {below : List Frame} {meth : Method} {c : Code} (C : KX p s m args meth c "BitTunerModel" cX5_works 3 (some .int)) {D : va_G} {cI cJ cZ : ClassId} {ad : Nat → Nat} {z : Int32 × SS}   {H : Heap} {locs : List Loc} {ls : Array Slot} {I : TI} {J : TJ}  (hB : MB D cI cJ cZ ad s H locs I J)  (hl : lv_has ls 3 [(0, .ref (ad 0))]) (h : fX5_works I J = some z) : W p l e (rmd 0) s m args below meth c H locs 0 0 (MQ below (gQi D (mw cI cJ cZ ad) (mt cI cJ cZ) (mL ad) s.heap.size z) args s 0 0 (gA (mL ad) s.heap.size)) (F0 m 0 ls []) := by
  unfold fX5_works at h
  refine lv_iconst (v := (0 : Int32)) C.hx C.hb dX5_works_0 (by decide) ?_
  refine lv_istore_n (lv' := [(1, .int (0 : Int32)), (0, .ref (ad 0))]) C.hx C.hb dX5_works_1 rfl hl (by decide) rfl (fun ls hl => ?_)
  refine lv_iconst (v := (0 : Int32)) C.hx C.hb dX5_works_2 (by decide) ?_
  refine lv_istore_n (lv' := [(2, .int (0 : Int32)), (1, .int (0 : Int32)), (0, .ref (ad 0))]) C.hx C.hb dX5_works_3 rfl hl (by decide) rfl (fun ls hl => ?_)
  exact tX5_works_4 C  fuel hB (lv_sub hl [2, 1, 0] rfl) h
set_option maxHeartbeats 4000000 in
set_option maxRecDepth 100000 in
theorem cnX5_works (l : Launch) (D : va_G) (cI cJ cZ : ClassId) (ad : Nat → Nat) (sz : Nat)  {I : TI} {J : TJ} {z : Int32 × SS}  (h : fX5_works I J = some z) : Met l yX5_works (wsm yX5_works cX5_works 3 (some .int)) (rmd 0) (va_Pc [.ref (ad 0)] (gPre D (mw cI cJ cZ ad) (mt cI cJ cZ) sz I J)) (gQi D (mw cI cJ cZ ad) (mt cI cJ cZ) (mL ad) sz z) 0 0 (gA (mL ad) sz) :=
  g_met (by decide) mw_WL (fun p e s m below meth c hsz C hB ls hl => by subst hsz; exact tX5_works C hB  hl h) (Nat.le_of_ble_eq_true rfl)
theorem hdX5_save : yX5_save.cls = "BitTunerModel" ∧ yX5_save.cls ≠ "java/lang/invoke/MethodHandle" ∧ yX5_save.cls ≠ "java/lang/invoke/VarHandle" ∧ (parseMethodDescriptor yX5_save.desc).map (fun d => d.parameters.length) = some 1 := by decide +kernel
def fX5_save_17_2  : Nat → Int32 → TI → TJ → Option (Unit × SS)
  | 0, _, _, _ => none
  | n + 1, v2, I, J =>
    if (I 13 0) ≤ v2 then
    some ((), I, J)
    else
    if okx v2 then
    fX5_save_17_2 n (v2 + (1 : Int32)) (uI I 11 (v2.toNatClampNeg) (I 4 v2.toNatClampNeg)) J
    else none
theorem eX5_save_17_2  (n : Nat) (v2 : Int32) (I : TI) (J : TJ) : fX5_save_17_2 (n + 1) v2 I J = (
    if (I 13 0) ≤ v2 then
    some ((), I, J)
    else
    if okx v2 then
    fX5_save_17_2 n (v2 + (1 : Int32)) (uI I 11 (v2.toNatClampNeg) (I 4 v2.toNatClampNeg)) J
    else none) := rfl
set_option maxHeartbeats 4000000 in
set_option maxRecDepth 100000 in
theorem tX5_save_17_2 {p : Program} {l : Launch} {e : Env} {s : State} {m : MethodId} {args : Array Value} {below : List Frame} {meth : Method} {c : Code} (C : KX p s m args meth c "BitTunerModel" cX5_save 3 none) {D : va_G} {cI cJ cZ : ClassId} {ad : Nat → Nat} {z : Unit × SS}   : ∀ (n : Nat), ∀ {H : Heap} {locs : List Loc} {ls : Array Slot} {I : TI} {J : TJ} {v2 : Int32}, MB D cI cJ cZ ad s H locs I J → lv_has ls 3 [(0, .ref (ad 0)), (1, .ref (ad 17)), (2, .int v2)] → fX5_save_17_2 n v2 I J = some z → W p l e (rmd 0) s m args below meth c H locs 0 0 (MQ below (gQv D (mw cI cJ cZ ad) (mt cI cJ cZ) (mL ad) s.heap.size z) args s 0 0 (gA (mL ad) s.heap.size)) (F0 m 2 ls []) := by
  intro n
  induction n with
  | zero =>
    intro H locs ls I J v2 hB  hl h
    have h : (none : Option (Unit × SS)) = some z := h
    cases h
  | succ n ih =>
    intro H locs ls I J v2 hB  hl h
    replace h := (eX5_save_17_2 n v2 I J).symm.trans h
    refine lv_iload_n C.hx C.hb dX5_save_2 rfl (lv_at hl 2 rfl) ?_
    refine lv_aload_n C.hx C.hb dX5_save_3 rfl (lv_at hl 0 rfl) ?_
    refine mg_values C hB tw_557 dX5_save_4 ?_
    refine lv_icmp_ge (tgt := 25) C.hx C.hb dX5_save_7 (by decide) (fun c_1 => ?_) (fun c_1 => ?_)
    · replace h := (if_pos c_1).symm.trans h
      exact g_vret C hB h dX5_save_25
    · replace h := (if_neg c_1).symm.trans h
      refine lv_aload_n C.hx C.hb dX5_save_10 rfl (lv_at hl 1 rfl) ?_
      refine lv_iload_n C.hx C.hb dX5_save_11 rfl (lv_at hl 2 rfl) ?_
      refine lv_aload_n C.hx C.hb dX5_save_12 rfl (lv_at hl 0 rfl) ?_
      refine mg_bits C hB tw_564 dX5_save_13 ?_
      refine lv_iload_n C.hx C.hb dX5_save_16 rfl (lv_at hl 2 rfl) ?_
      obtain ⟨c_2, h⟩ := ite_ck h
      refine ma_bits_ld C hB c_2 dX5_save_17 ?_
      refine ma_were_st C hB c_2 dX5_save_18 (fun H locs hB => ?_)
      refine lv_iinc (v := v2 + (1 : Int32)) (lv' := [(2, .int (v2 + (1 : Int32))), (0, .ref (ad 0)), (1, .ref (ad 17))]) C.hx C.hb dX5_save_19 hl (k := 2) rfl rfl (by decide) rfl (fun ls hl => ?_)
      refine lv_goto (tgt := 2) C.hx C.hb dX5_save_22 (by decide) ?_
      exact ih hB (lv_sub hl [1, 2, 0] rfl) h
def fX5_save_17   (I : TI) (J : TJ) : Option (Unit × SS) :=
  fX5_save_17_2 fuel (0 : Int32) I J
set_option maxHeartbeats 4000000 in
set_option maxRecDepth 100000 in
theorem tX5_save_17 {p : Program} {l : Launch} {e : Env} {s : State} {m : MethodId} {args : Array Value} {below : List Frame} {meth : Method} {c : Code} (C : KX p s m args meth c "BitTunerModel" cX5_save 3 none) {D : va_G} {cI cJ cZ : ClassId} {ad : Nat → Nat} {z : Unit × SS}   {H : Heap} {locs : List Loc} {ls : Array Slot} {I : TI} {J : TJ}  (hB : MB D cI cJ cZ ad s H locs I J)  (hl : lv_has ls 3 [(0, .ref (ad 0)), (1, .ref (ad 17))]) (h : fX5_save_17 I J = some z) : W p l e (rmd 0) s m args below meth c H locs 0 0 (MQ below (gQv D (mw cI cJ cZ ad) (mt cI cJ cZ) (mL ad) s.heap.size z) args s 0 0 (gA (mL ad) s.heap.size)) (F0 m 0 ls []) := by
  unfold fX5_save_17 at h
  refine lv_iconst (v := (0 : Int32)) C.hx C.hb dX5_save_0 (by decide) ?_
  refine lv_istore_n (lv' := [(2, .int (0 : Int32)), (0, .ref (ad 0)), (1, .ref (ad 17))]) C.hx C.hb dX5_save_1 rfl hl (by decide) rfl (fun ls hl => ?_)
  exact tX5_save_17_2 C  fuel hB (lv_sub hl [1, 2, 0] rfl) h
set_option maxHeartbeats 4000000 in
set_option maxRecDepth 100000 in
theorem cnX5_save_17 (l : Launch) (D : va_G) (cI cJ cZ : ClassId) (ad : Nat → Nat) (sz : Nat)  {I : TI} {J : TJ} {z : Unit × SS}  (h : fX5_save_17 I J = some z) : Met l yX5_save (wsm yX5_save cX5_save 3 none) (rmd 0) (va_Pc [.ref (ad 0), .ref (ad 17)] (gPre D (mw cI cJ cZ ad) (mt cI cJ cZ) sz I J)) (gQv D (mw cI cJ cZ ad) (mt cI cJ cZ) (mL ad) sz z) 0 0 (gA (mL ad) sz) :=
  g_met (by decide) mw_WL (fun p e s m below meth c hsz C hB ls hl => by subst hsz; exact tX5_save_17 C hB  hl h) (Nat.le_of_ble_eq_true rfl)
def fX5_save_18_2  : Nat → Int32 → TI → TJ → Option (Unit × SS)
  | 0, _, _, _ => none
  | n + 1, v2, I, J =>
    if (I 13 0) ≤ v2 then
    some ((), I, J)
    else
    if okx v2 then
    fX5_save_18_2 n (v2 + (1 : Int32)) (uI I 12 (v2.toNatClampNeg) (I 4 v2.toNatClampNeg)) J
    else none
theorem eX5_save_18_2  (n : Nat) (v2 : Int32) (I : TI) (J : TJ) : fX5_save_18_2 (n + 1) v2 I J = (
    if (I 13 0) ≤ v2 then
    some ((), I, J)
    else
    if okx v2 then
    fX5_save_18_2 n (v2 + (1 : Int32)) (uI I 12 (v2.toNatClampNeg) (I 4 v2.toNatClampNeg)) J
    else none) := rfl
set_option maxHeartbeats 4000000 in
set_option maxRecDepth 100000 in
theorem tX5_save_18_2 {p : Program} {l : Launch} {e : Env} {s : State} {m : MethodId} {args : Array Value} {below : List Frame} {meth : Method} {c : Code} (C : KX p s m args meth c "BitTunerModel" cX5_save 3 none) {D : va_G} {cI cJ cZ : ClassId} {ad : Nat → Nat} {z : Unit × SS}   : ∀ (n : Nat), ∀ {H : Heap} {locs : List Loc} {ls : Array Slot} {I : TI} {J : TJ} {v2 : Int32}, MB D cI cJ cZ ad s H locs I J → lv_has ls 3 [(0, .ref (ad 0)), (1, .ref (ad 18)), (2, .int v2)] → fX5_save_18_2 n v2 I J = some z → W p l e (rmd 0) s m args below meth c H locs 0 0 (MQ below (gQv D (mw cI cJ cZ ad) (mt cI cJ cZ) (mL ad) s.heap.size z) args s 0 0 (gA (mL ad) s.heap.size)) (F0 m 2 ls []) := by
  intro n
  induction n with
  | zero =>
    intro H locs ls I J v2 hB  hl h
    have h : (none : Option (Unit × SS)) = some z := h
    cases h
  | succ n ih =>
    intro H locs ls I J v2 hB  hl h
    replace h := (eX5_save_18_2 n v2 I J).symm.trans h
    refine lv_iload_n C.hx C.hb dX5_save_2 rfl (lv_at hl 2 rfl) ?_
    refine lv_aload_n C.hx C.hb dX5_save_3 rfl (lv_at hl 0 rfl) ?_
    refine mg_values C hB tw_557 dX5_save_4 ?_
    refine lv_icmp_ge (tgt := 25) C.hx C.hb dX5_save_7 (by decide) (fun c_1 => ?_) (fun c_1 => ?_)
    · replace h := (if_pos c_1).symm.trans h
      exact g_vret C hB h dX5_save_25
    · replace h := (if_neg c_1).symm.trans h
      refine lv_aload_n C.hx C.hb dX5_save_10 rfl (lv_at hl 1 rfl) ?_
      refine lv_iload_n C.hx C.hb dX5_save_11 rfl (lv_at hl 2 rfl) ?_
      refine lv_aload_n C.hx C.hb dX5_save_12 rfl (lv_at hl 0 rfl) ?_
      refine mg_bits C hB tw_564 dX5_save_13 ?_
      refine lv_iload_n C.hx C.hb dX5_save_16 rfl (lv_at hl 2 rfl) ?_
      obtain ⟨c_2, h⟩ := ite_ck h
      refine ma_bits_ld C hB c_2 dX5_save_17 ?_
      refine ma_best_st C hB c_2 dX5_save_18 (fun H locs hB => ?_)
      refine lv_iinc (v := v2 + (1 : Int32)) (lv' := [(2, .int (v2 + (1 : Int32))), (0, .ref (ad 0)), (1, .ref (ad 18))]) C.hx C.hb dX5_save_19 hl (k := 2) rfl rfl (by decide) rfl (fun ls hl => ?_)
      refine lv_goto (tgt := 2) C.hx C.hb dX5_save_22 (by decide) ?_
      exact ih hB (lv_sub hl [1, 2, 0] rfl) h
def fX5_save_18   (I : TI) (J : TJ) : Option (Unit × SS) :=
  fX5_save_18_2 fuel (0 : Int32) I J
set_option maxHeartbeats 4000000 in
set_option maxRecDepth 100000 in
theorem tX5_save_18 {p : Program} {l : Launch} {e : Env} {s : State} {m : MethodId} {args : Array Value} {below : List Frame} {meth : Method} {c : Code} (C : KX p s m args meth c "BitTunerModel" cX5_save 3 none) {D : va_G} {cI cJ cZ : ClassId} {ad : Nat → Nat} {z : Unit × SS}   {H : Heap} {locs : List Loc} {ls : Array Slot} {I : TI} {J : TJ}  (hB : MB D cI cJ cZ ad s H locs I J)  (hl : lv_has ls 3 [(0, .ref (ad 0)), (1, .ref (ad 18))]) (h : fX5_save_18 I J = some z) : W p l e (rmd 0) s m args below meth c H locs 0 0 (MQ below (gQv D (mw cI cJ cZ ad) (mt cI cJ cZ) (mL ad) s.heap.size z) args s 0 0 (gA (mL ad) s.heap.size)) (F0 m 0 ls []) := by
  unfold fX5_save_18 at h
  refine lv_iconst (v := (0 : Int32)) C.hx C.hb dX5_save_0 (by decide) ?_
  refine lv_istore_n (lv' := [(2, .int (0 : Int32)), (0, .ref (ad 0)), (1, .ref (ad 18))]) C.hx C.hb dX5_save_1 rfl hl (by decide) rfl (fun ls hl => ?_)
  exact tX5_save_18_2 C  fuel hB (lv_sub hl [1, 2, 0] rfl) h
set_option maxHeartbeats 4000000 in
set_option maxRecDepth 100000 in
theorem cnX5_save_18 (l : Launch) (D : va_G) (cI cJ cZ : ClassId) (ad : Nat → Nat) (sz : Nat)  {I : TI} {J : TJ} {z : Unit × SS}  (h : fX5_save_18 I J = some z) : Met l yX5_save (wsm yX5_save cX5_save 3 none) (rmd 0) (va_Pc [.ref (ad 0), .ref (ad 18)] (gPre D (mw cI cJ cZ ad) (mt cI cJ cZ) sz I J)) (gQv D (mw cI cJ cZ ad) (mt cI cJ cZ) (mL ad) sz z) 0 0 (gA (mL ad) sz) :=
  g_met (by decide) mw_WL (fun p e s m below meth c hsz C hB ls hl => by subst hsz; exact tX5_save_18 C hB  hl h) (Nat.le_of_ble_eq_true rfl)
theorem hdX5_take : yX5_take.cls = "BitTunerModel" ∧ yX5_take.cls ≠ "java/lang/invoke/MethodHandle" ∧ yX5_take.cls ≠ "java/lang/invoke/VarHandle" ∧ (parseMethodDescriptor yX5_take.desc).map (fun d => d.parameters.length) = some 1 := by decide +kernel
def fX5_take_17_2  : Nat → Int32 → TI → TJ → Option (Unit × SS)
  | 0, _, _, _ => none
  | n + 1, v2, I, J =>
    if (I 13 0) ≤ v2 then
    some ((), I, J)
    else
    if okx v2 then
    fX5_take_17_2 n (v2 + (1 : Int32)) (uI I 4 (v2.toNatClampNeg) (I 11 v2.toNatClampNeg)) J
    else none
theorem eX5_take_17_2  (n : Nat) (v2 : Int32) (I : TI) (J : TJ) : fX5_take_17_2 (n + 1) v2 I J = (
    if (I 13 0) ≤ v2 then
    some ((), I, J)
    else
    if okx v2 then
    fX5_take_17_2 n (v2 + (1 : Int32)) (uI I 4 (v2.toNatClampNeg) (I 11 v2.toNatClampNeg)) J
    else none) := rfl
set_option maxHeartbeats 4000000 in
set_option maxRecDepth 100000 in
theorem tX5_take_17_2 {p : Program} {l : Launch} {e : Env} {s : State} {m : MethodId} {args : Array Value} {below : List Frame} {meth : Method} {c : Code} (C : KX p s m args meth c "BitTunerModel" cX5_take 3 none) {D : va_G} {cI cJ cZ : ClassId} {ad : Nat → Nat} {z : Unit × SS}   : ∀ (n : Nat), ∀ {H : Heap} {locs : List Loc} {ls : Array Slot} {I : TI} {J : TJ} {v2 : Int32}, MB D cI cJ cZ ad s H locs I J → lv_has ls 3 [(0, .ref (ad 0)), (1, .ref (ad 17)), (2, .int v2)] → fX5_take_17_2 n v2 I J = some z → W p l e (rmd 0) s m args below meth c H locs 0 0 (MQ below (gQv D (mw cI cJ cZ ad) (mt cI cJ cZ) (mL ad) s.heap.size z) args s 0 0 (gA (mL ad) s.heap.size)) (F0 m 2 ls []) := by
  intro n
  induction n with
  | zero =>
    intro H locs ls I J v2 hB  hl h
    have h : (none : Option (Unit × SS)) = some z := h
    cases h
  | succ n ih =>
    intro H locs ls I J v2 hB  hl h
    replace h := (eX5_take_17_2 n v2 I J).symm.trans h
    refine lv_iload_n C.hx C.hb dX5_take_2 rfl (lv_at hl 2 rfl) ?_
    refine lv_aload_n C.hx C.hb dX5_take_3 rfl (lv_at hl 0 rfl) ?_
    refine mg_values C hB tw_557 dX5_take_4 ?_
    refine lv_icmp_ge (tgt := 25) C.hx C.hb dX5_take_7 (by decide) (fun c_1 => ?_) (fun c_1 => ?_)
    · replace h := (if_pos c_1).symm.trans h
      exact g_vret C hB h dX5_take_25
    · replace h := (if_neg c_1).symm.trans h
      refine lv_aload_n C.hx C.hb dX5_take_10 rfl (lv_at hl 0 rfl) ?_
      refine mg_bits C hB tw_564 dX5_take_11 ?_
      refine lv_iload_n C.hx C.hb dX5_take_14 rfl (lv_at hl 2 rfl) ?_
      refine lv_aload_n C.hx C.hb dX5_take_15 rfl (lv_at hl 1 rfl) ?_
      refine lv_iload_n C.hx C.hb dX5_take_16 rfl (lv_at hl 2 rfl) ?_
      obtain ⟨c_2, h⟩ := ite_ck h
      refine ma_were_ld C hB c_2 dX5_take_17 ?_
      refine ma_bits_st C hB c_2 dX5_take_18 (fun H locs hB => ?_)
      refine lv_iinc (v := v2 + (1 : Int32)) (lv' := [(2, .int (v2 + (1 : Int32))), (0, .ref (ad 0)), (1, .ref (ad 17))]) C.hx C.hb dX5_take_19 hl (k := 2) rfl rfl (by decide) rfl (fun ls hl => ?_)
      refine lv_goto (tgt := 2) C.hx C.hb dX5_take_22 (by decide) ?_
      exact ih hB (lv_sub hl [1, 2, 0] rfl) h
def fX5_take_17   (I : TI) (J : TJ) : Option (Unit × SS) :=
  fX5_take_17_2 fuel (0 : Int32) I J
set_option maxHeartbeats 4000000 in
set_option maxRecDepth 100000 in
theorem tX5_take_17 {p : Program} {l : Launch} {e : Env} {s : State} {m : MethodId} {args : Array Value} {below : List Frame} {meth : Method} {c : Code} (C : KX p s m args meth c "BitTunerModel" cX5_take 3 none) {D : va_G} {cI cJ cZ : ClassId} {ad : Nat → Nat} {z : Unit × SS}   {H : Heap} {locs : List Loc} {ls : Array Slot} {I : TI} {J : TJ}  (hB : MB D cI cJ cZ ad s H locs I J)  (hl : lv_has ls 3 [(0, .ref (ad 0)), (1, .ref (ad 17))]) (h : fX5_take_17 I J = some z) : W p l e (rmd 0) s m args below meth c H locs 0 0 (MQ below (gQv D (mw cI cJ cZ ad) (mt cI cJ cZ) (mL ad) s.heap.size z) args s 0 0 (gA (mL ad) s.heap.size)) (F0 m 0 ls []) := by
  unfold fX5_take_17 at h
  refine lv_iconst (v := (0 : Int32)) C.hx C.hb dX5_take_0 (by decide) ?_
  refine lv_istore_n (lv' := [(2, .int (0 : Int32)), (0, .ref (ad 0)), (1, .ref (ad 17))]) C.hx C.hb dX5_take_1 rfl hl (by decide) rfl (fun ls hl => ?_)
  exact tX5_take_17_2 C  fuel hB (lv_sub hl [1, 2, 0] rfl) h
set_option maxHeartbeats 4000000 in
set_option maxRecDepth 100000 in
theorem cnX5_take_17 (l : Launch) (D : va_G) (cI cJ cZ : ClassId) (ad : Nat → Nat) (sz : Nat)  {I : TI} {J : TJ} {z : Unit × SS}  (h : fX5_take_17 I J = some z) : Met l yX5_take (wsm yX5_take cX5_take 3 none) (rmd 0) (va_Pc [.ref (ad 0), .ref (ad 17)] (gPre D (mw cI cJ cZ ad) (mt cI cJ cZ) sz I J)) (gQv D (mw cI cJ cZ ad) (mt cI cJ cZ) (mL ad) sz z) 0 0 (gA (mL ad) sz) :=
  g_met (by decide) mw_WL (fun p e s m below meth c hsz C hB ls hl => by subst hsz; exact tX5_take_17 C hB  hl h) (Nat.le_of_ble_eq_true rfl)
def fX5_take_18_2  : Nat → Int32 → TI → TJ → Option (Unit × SS)
  | 0, _, _, _ => none
  | n + 1, v2, I, J =>
    if (I 13 0) ≤ v2 then
    some ((), I, J)
    else
    if okx v2 then
    fX5_take_18_2 n (v2 + (1 : Int32)) (uI I 4 (v2.toNatClampNeg) (I 12 v2.toNatClampNeg)) J
    else none
theorem eX5_take_18_2  (n : Nat) (v2 : Int32) (I : TI) (J : TJ) : fX5_take_18_2 (n + 1) v2 I J = (
    if (I 13 0) ≤ v2 then
    some ((), I, J)
    else
    if okx v2 then
    fX5_take_18_2 n (v2 + (1 : Int32)) (uI I 4 (v2.toNatClampNeg) (I 12 v2.toNatClampNeg)) J
    else none) := rfl
set_option maxHeartbeats 4000000 in
set_option maxRecDepth 100000 in
theorem tX5_take_18_2 {p : Program} {l : Launch} {e : Env} {s : State} {m : MethodId} {args : Array Value} {below : List Frame} {meth : Method} {c : Code} (C : KX p s m args meth c "BitTunerModel" cX5_take 3 none) {D : va_G} {cI cJ cZ : ClassId} {ad : Nat → Nat} {z : Unit × SS}   : ∀ (n : Nat), ∀ {H : Heap} {locs : List Loc} {ls : Array Slot} {I : TI} {J : TJ} {v2 : Int32}, MB D cI cJ cZ ad s H locs I J → lv_has ls 3 [(0, .ref (ad 0)), (1, .ref (ad 18)), (2, .int v2)] → fX5_take_18_2 n v2 I J = some z → W p l e (rmd 0) s m args below meth c H locs 0 0 (MQ below (gQv D (mw cI cJ cZ ad) (mt cI cJ cZ) (mL ad) s.heap.size z) args s 0 0 (gA (mL ad) s.heap.size)) (F0 m 2 ls []) := by
  intro n
  induction n with
  | zero =>
    intro H locs ls I J v2 hB  hl h
    have h : (none : Option (Unit × SS)) = some z := h
    cases h
  | succ n ih =>
    intro H locs ls I J v2 hB  hl h
    replace h := (eX5_take_18_2 n v2 I J).symm.trans h
    refine lv_iload_n C.hx C.hb dX5_take_2 rfl (lv_at hl 2 rfl) ?_
    refine lv_aload_n C.hx C.hb dX5_take_3 rfl (lv_at hl 0 rfl) ?_
    refine mg_values C hB tw_557 dX5_take_4 ?_
    refine lv_icmp_ge (tgt := 25) C.hx C.hb dX5_take_7 (by decide) (fun c_1 => ?_) (fun c_1 => ?_)
    · replace h := (if_pos c_1).symm.trans h
      exact g_vret C hB h dX5_take_25
    · replace h := (if_neg c_1).symm.trans h
      refine lv_aload_n C.hx C.hb dX5_take_10 rfl (lv_at hl 0 rfl) ?_
      refine mg_bits C hB tw_564 dX5_take_11 ?_
      refine lv_iload_n C.hx C.hb dX5_take_14 rfl (lv_at hl 2 rfl) ?_
      refine lv_aload_n C.hx C.hb dX5_take_15 rfl (lv_at hl 1 rfl) ?_
      refine lv_iload_n C.hx C.hb dX5_take_16 rfl (lv_at hl 2 rfl) ?_
      obtain ⟨c_2, h⟩ := ite_ck h
      refine ma_best_ld C hB c_2 dX5_take_17 ?_
      refine ma_bits_st C hB c_2 dX5_take_18 (fun H locs hB => ?_)
      refine lv_iinc (v := v2 + (1 : Int32)) (lv' := [(2, .int (v2 + (1 : Int32))), (0, .ref (ad 0)), (1, .ref (ad 18))]) C.hx C.hb dX5_take_19 hl (k := 2) rfl rfl (by decide) rfl (fun ls hl => ?_)
      refine lv_goto (tgt := 2) C.hx C.hb dX5_take_22 (by decide) ?_
      exact ih hB (lv_sub hl [1, 2, 0] rfl) h
def fX5_take_18   (I : TI) (J : TJ) : Option (Unit × SS) :=
  fX5_take_18_2 fuel (0 : Int32) I J
set_option maxHeartbeats 4000000 in
set_option maxRecDepth 100000 in
theorem tX5_take_18 {p : Program} {l : Launch} {e : Env} {s : State} {m : MethodId} {args : Array Value} {below : List Frame} {meth : Method} {c : Code} (C : KX p s m args meth c "BitTunerModel" cX5_take 3 none) {D : va_G} {cI cJ cZ : ClassId} {ad : Nat → Nat} {z : Unit × SS}   {H : Heap} {locs : List Loc} {ls : Array Slot} {I : TI} {J : TJ}  (hB : MB D cI cJ cZ ad s H locs I J)  (hl : lv_has ls 3 [(0, .ref (ad 0)), (1, .ref (ad 18))]) (h : fX5_take_18 I J = some z) : W p l e (rmd 0) s m args below meth c H locs 0 0 (MQ below (gQv D (mw cI cJ cZ ad) (mt cI cJ cZ) (mL ad) s.heap.size z) args s 0 0 (gA (mL ad) s.heap.size)) (F0 m 0 ls []) := by
  unfold fX5_take_18 at h
  refine lv_iconst (v := (0 : Int32)) C.hx C.hb dX5_take_0 (by decide) ?_
  refine lv_istore_n (lv' := [(2, .int (0 : Int32)), (0, .ref (ad 0)), (1, .ref (ad 18))]) C.hx C.hb dX5_take_1 rfl hl (by decide) rfl (fun ls hl => ?_)
  exact tX5_take_18_2 C  fuel hB (lv_sub hl [1, 2, 0] rfl) h
set_option maxHeartbeats 4000000 in
set_option maxRecDepth 100000 in
theorem cnX5_take_18 (l : Launch) (D : va_G) (cI cJ cZ : ClassId) (ad : Nat → Nat) (sz : Nat)  {I : TI} {J : TJ} {z : Unit × SS}  (h : fX5_take_18 I J = some z) : Met l yX5_take (wsm yX5_take cX5_take 3 none) (rmd 0) (va_Pc [.ref (ad 0), .ref (ad 18)] (gPre D (mw cI cJ cZ ad) (mt cI cJ cZ) sz I J)) (gQv D (mw cI cJ cZ ad) (mt cI cJ cZ) (mL ad) sz z) 0 0 (gA (mL ad) sz) :=
  g_met (by decide) mw_WL (fun p e s m below meth c hsz C hB ls hl => by subst hsz; exact tX5_take_18 C hB  hl h) (Nat.le_of_ble_eq_true rfl)
theorem hdX5_setAll : yX5_setAll.cls = "BitTunerModel" ∧ yX5_setAll.cls ≠ "java/lang/invoke/MethodHandle" ∧ yX5_setAll.cls ≠ "java/lang/invoke/VarHandle" ∧ (parseMethodDescriptor yX5_setAll.desc).map (fun d => d.parameters.length) = some 1 := by decide +kernel
def fX5_setAll_2  : Nat → Int32 → Int32 → TI → TJ → Option (Unit × SS)
  | 0, _, _, _, _ => none
  | n + 1, v1, v2, I, J =>
    if (I 13 0) ≤ v2 then
    some ((), I, J)
    else
    if okx v2 then
    if (I 0 v2.toNatClampNeg) ≤ (1 : Int32) then
    fX5_setAll_2 n v1 (v2 + (1 : Int32)) (uI I 4 (v2.toNatClampNeg) (16 : Int32)) J
    else
    fX5_setAll_2 n v1 (v2 + (1 : Int32)) (uI I 4 (v2.toNatClampNeg) v1) J
    else none
theorem eX5_setAll_2  (n : Nat) (v1 : Int32) (v2 : Int32) (I : TI) (J : TJ) : fX5_setAll_2 (n + 1) v1 v2 I J = (
    if (I 13 0) ≤ v2 then
    some ((), I, J)
    else
    if okx v2 then
    if (I 0 v2.toNatClampNeg) ≤ (1 : Int32) then
    fX5_setAll_2 n v1 (v2 + (1 : Int32)) (uI I 4 (v2.toNatClampNeg) (16 : Int32)) J
    else
    fX5_setAll_2 n v1 (v2 + (1 : Int32)) (uI I 4 (v2.toNatClampNeg) v1) J
    else none) := rfl
set_option maxHeartbeats 4000000 in
set_option maxRecDepth 100000 in
theorem tX5_setAll_2 {p : Program} {l : Launch} {e : Env} {s : State} {m : MethodId} {args : Array Value} {below : List Frame} {meth : Method} {c : Code} (C : KX p s m args meth c "BitTunerModel" cX5_setAll 3 none) {D : va_G} {cI cJ cZ : ClassId} {ad : Nat → Nat} {z : Unit × SS}   : ∀ (n : Nat), ∀ {H : Heap} {locs : List Loc} {ls : Array Slot} {I : TI} {J : TJ} {v1 : Int32} {v2 : Int32}, MB D cI cJ cZ ad s H locs I J → lv_has ls 3 [(0, .ref (ad 0)), (1, .int v1), (2, .int v2)] → fX5_setAll_2 n v1 v2 I J = some z → W p l e (rmd 0) s m args below meth c H locs 0 0 (MQ below (gQv D (mw cI cJ cZ ad) (mt cI cJ cZ) (mL ad) s.heap.size z) args s 0 0 (gA (mL ad) s.heap.size)) (F0 m 2 ls []) := by
  intro n
  induction n with
  | zero =>
    intro H locs ls I J v1 v2 hB  hl h
    have h : (none : Option (Unit × SS)) = some z := h
    cases h
  | succ n ih =>
    intro H locs ls I J v1 v2 hB  hl h
    replace h := (eX5_setAll_2 n v1 v2 I J).symm.trans h
    refine lv_iload_n C.hx C.hb dX5_setAll_2 rfl (lv_at hl 2 rfl) ?_
    refine lv_aload_n C.hx C.hb dX5_setAll_3 rfl (lv_at hl 0 rfl) ?_
    refine mg_values C hB tw_557 dX5_setAll_4 ?_
    refine lv_icmp_ge (tgt := 38) C.hx C.hb dX5_setAll_7 (by decide) (fun c_1 => ?_) (fun c_1 => ?_)
    · replace h := (if_pos c_1).symm.trans h
      exact g_vret C hB h dX5_setAll_38
    · replace h := (if_neg c_1).symm.trans h
      refine lv_aload_n C.hx C.hb dX5_setAll_10 rfl (lv_at hl 0 rfl) ?_
      refine mg_bits C hB tw_564 dX5_setAll_11 ?_
      refine lv_iload_n C.hx C.hb dX5_setAll_14 rfl (lv_at hl 2 rfl) ?_
      refine lv_aload_n C.hx C.hb dX5_setAll_15 rfl (lv_at hl 0 rfl) ?_
      refine mg_kinds C hB tw_558 dX5_setAll_16 ?_
      refine lv_iload_n C.hx C.hb dX5_setAll_19 rfl (lv_at hl 2 rfl) ?_
      obtain ⟨c_2, h⟩ := ite_ck h
      refine ma_kinds_ld C hB c_2 dX5_setAll_20 ?_
      refine lv_iconst (v := (1 : Int32)) C.hx C.hb dX5_setAll_21 (by decide) ?_
      refine lv_icmp_le (tgt := 29) C.hx C.hb dX5_setAll_22 (by decide) (fun c_3 => ?_) (fun c_3 => ?_)
      · replace h := (if_pos c_3).symm.trans h
        refine lv_bipush (v := (16 : Int32)) C.hx C.hb dX5_setAll_29 (by decide) ?_
        refine ma_bits_st C hB c_2 dX5_setAll_31 (fun H locs hB => ?_)
        refine lv_iinc (v := v2 + (1 : Int32)) (lv' := [(2, .int (v2 + (1 : Int32))), (0, .ref (ad 0)), (1, .int v1)]) C.hx C.hb dX5_setAll_32 hl (k := 2) rfl rfl (by decide) rfl (fun ls hl => ?_)
        refine lv_goto (tgt := 2) C.hx C.hb dX5_setAll_35 (by decide) ?_
        exact ih hB (lv_sub hl [1, 2, 0] rfl) h
      · replace h := (if_neg c_3).symm.trans h
        refine lv_iload_n C.hx C.hb dX5_setAll_25 rfl (lv_at hl 1 rfl) ?_
        refine lv_goto (tgt := 31) C.hx C.hb dX5_setAll_26 (by decide) ?_
        refine ma_bits_st C hB c_2 dX5_setAll_31 (fun H locs hB => ?_)
        refine lv_iinc (v := v2 + (1 : Int32)) (lv' := [(2, .int (v2 + (1 : Int32))), (0, .ref (ad 0)), (1, .int v1)]) C.hx C.hb dX5_setAll_32 hl (k := 2) rfl rfl (by decide) rfl (fun ls hl => ?_)
        refine lv_goto (tgt := 2) C.hx C.hb dX5_setAll_35 (by decide) ?_
        exact ih hB (lv_sub hl [1, 2, 0] rfl) h
def fX5_setAll  (v1 : Int32) (I : TI) (J : TJ) : Option (Unit × SS) :=
  fX5_setAll_2 fuel v1 (0 : Int32) I J
set_option maxHeartbeats 4000000 in
set_option maxRecDepth 100000 in
theorem tX5_setAll {p : Program} {l : Launch} {e : Env} {s : State} {m : MethodId} {args : Array Value} {below : List Frame} {meth : Method} {c : Code} (C : KX p s m args meth c "BitTunerModel" cX5_setAll 3 none) {D : va_G} {cI cJ cZ : ClassId} {ad : Nat → Nat} {z : Unit × SS}   {H : Heap} {locs : List Loc} {ls : Array Slot} {I : TI} {J : TJ} {v1 : Int32} (hB : MB D cI cJ cZ ad s H locs I J)  (hl : lv_has ls 3 [(0, .ref (ad 0)), (1, .int v1)]) (h : fX5_setAll v1 I J = some z) : W p l e (rmd 0) s m args below meth c H locs 0 0 (MQ below (gQv D (mw cI cJ cZ ad) (mt cI cJ cZ) (mL ad) s.heap.size z) args s 0 0 (gA (mL ad) s.heap.size)) (F0 m 0 ls []) := by
  unfold fX5_setAll at h
  refine lv_iconst (v := (0 : Int32)) C.hx C.hb dX5_setAll_0 (by decide) ?_
  refine lv_istore_n (lv' := [(2, .int (0 : Int32)), (0, .ref (ad 0)), (1, .int v1)]) C.hx C.hb dX5_setAll_1 rfl hl (by decide) rfl (fun ls hl => ?_)
  exact tX5_setAll_2 C  fuel hB (lv_sub hl [1, 2, 0] rfl) h
set_option maxHeartbeats 4000000 in
set_option maxRecDepth 100000 in
theorem cnX5_setAll (l : Launch) (D : va_G) (cI cJ cZ : ClassId) (ad : Nat → Nat) (sz : Nat) {v1 : Int32} {I : TI} {J : TJ} {z : Unit × SS}  (h : fX5_setAll v1 I J = some z) : Met l yX5_setAll (wsm yX5_setAll cX5_setAll 3 none) (rmd 0) (va_Pc [.ref (ad 0), .int v1] (gPre D (mw cI cJ cZ ad) (mt cI cJ cZ) sz I J)) (gQv D (mw cI cJ cZ ad) (mt cI cJ cZ) (mL ad) sz z) 0 0 (gA (mL ad) sz) :=
  g_met (by decide) mw_WL (fun p e s m below meth c hsz C hB ls hl => by subst hsz; exact tX5_setAll C hB  hl h) (Nat.le_of_ble_eq_true rfl)
theorem hdX5_choosesOn : yX5_choosesOn.cls = "BitTunerModel" ∧ yX5_choosesOn.cls ≠ "java/lang/invoke/MethodHandle" ∧ yX5_choosesOn.cls ≠ "java/lang/invoke/VarHandle" ∧ (parseMethodDescriptor yX5_choosesOn.desc).map (fun d => d.parameters.length) = some 0 := by decide +kernel
def fX5_choosesOn_60  (v1 : Int32) (I : TI) (J : TJ) : Option (Int32 × SS) :=
  if 0 ≤ v1 then
  if okx v1 then
  some ((1 : Int32), (uI I 4 (v1.toNatClampNeg) ((I 4 v1.toNatClampNeg) + (4 : Int32))), J)
  else none
  else
  some ((0 : Int32), I, J)
set_option maxHeartbeats 4000000 in
set_option maxRecDepth 100000 in
theorem tX5_choosesOn_60 {p : Program} {l : Launch} {e : Env} {s : State} {m : MethodId} {args : Array Value} {below : List Frame} {meth : Method} {c : Code} (C : KX p s m args meth c "BitTunerModel" cX5_choosesOn 2 (some .boolean)) {D : va_G} {cI cJ cZ : ClassId} {ad : Nat → Nat} {z : Int32 × SS}   {H : Heap} {locs : List Loc} {ls : Array Slot} {I : TI} {J : TJ} {v1 : Int32} (hB : MB D cI cJ cZ ad s H locs I J)  (hl : lv_has ls 2 [(0, .ref (ad 0)), (1, .int v1)]) (h : fX5_choosesOn_60 v1 I J = some z) : W p l e (rmd 0) s m args below meth c H locs 0 0 (MQ below (gQi D (mw cI cJ cZ ad) (mt cI cJ cZ) (mL ad) s.heap.size z) args s 0 0 (gA (mL ad) s.heap.size)) (F0 m 60 ls []) := by
  unfold fX5_choosesOn_60 at h
  refine lv_iload_n C.hx C.hb dX5_choosesOn_60 rfl (lv_at hl 1 rfl) ?_
  refine lv_if_ge (tgt := 66) C.hx C.hb dX5_choosesOn_61 (by decide) (fun c_2 => ?_) (fun c_2 => ?_)
  · replace h := (if_pos c_2).symm.trans h
    refine lv_aload_n C.hx C.hb dX5_choosesOn_66 rfl (lv_at hl 0 rfl) ?_
    refine mg_bits C hB tw_564 dX5_choosesOn_67 ?_
    refine lv_iload_n C.hx C.hb dX5_choosesOn_70 rfl (lv_at hl 1 rfl) ?_
    refine lv_dup2_11 C.hx C.hb dX5_choosesOn_71 rfl rfl ?_
    obtain ⟨c_3, h⟩ := ite_ck h
    refine ma_bits_ld C hB c_3 dX5_choosesOn_72 ?_
    refine lv_iconst (v := (4 : Int32)) C.hx C.hb dX5_choosesOn_73 (by decide) ?_
    refine lv_iadd C.hx C.hb dX5_choosesOn_74 ?_
    refine ma_bits_st C hB c_3 dX5_choosesOn_75 (fun H locs hB => ?_)
    refine lv_iconst (v := (1 : Int32)) C.hx C.hb dX5_choosesOn_76 (by decide) ?_
    exact g_zret C hB h (by decide) dX5_choosesOn_77
  · replace h := (if_neg c_2).symm.trans h
    refine lv_iconst (v := (0 : Int32)) C.hx C.hb dX5_choosesOn_64 (by decide) ?_
    exact g_zret C hB h (by decide) dX5_choosesOn_65
def fX5_choosesOn_32 (kf_7 : Int32 → TI → TJ → Option (Int32 × SS)) (v1 : Int32) (I : TI) (J : TJ) : Option (Int32 × SS) :=
  if okx v1 then
  if (I 0 v1.toNatClampNeg) ≤ (1 : Int32) then
  kf_7 (v1 + (-1 : Int32)) (uI I 4 (v1.toNatClampNeg) (16 : Int32)) J
  else
  kf_7 (v1 + (-1 : Int32)) (uI I 4 (v1.toNatClampNeg) (0 : Int32)) J
  else none
set_option maxHeartbeats 4000000 in
set_option maxRecDepth 100000 in
theorem tX5_choosesOn_32 {p : Program} {l : Launch} {e : Env} {s : State} {m : MethodId} {args : Array Value} {below : List Frame} {meth : Method} {c : Code} (C : KX p s m args meth c "BitTunerModel" cX5_choosesOn 2 (some .boolean)) {D : va_G} {cI cJ cZ : ClassId} {ad : Nat → Nat} {z : Int32 × SS} {kf_7 : Int32 → TI → TJ → Option (Int32 × SS)} (kt_7 : ∀ {H : Heap} {locs : List Loc} {ls : Array Slot} {I : TI} {J : TJ} {v1 : Int32}, MB D cI cJ cZ ad s H locs I J → lv_has ls 2 [(0, .ref (ad 0)), (1, .int v1)] → kf_7 v1 I J = some z → W p l e (rmd 0) s m args below meth c H locs 0 0 (MQ below (gQi D (mw cI cJ cZ ad) (mt cI cJ cZ) (mL ad) s.heap.size z) args s 0 0 (gA (mL ad) s.heap.size)) (F0 m 7 ls [])) {H : Heap} {locs : List Loc} {ls : Array Slot} {I : TI} {J : TJ} {v1 : Int32} (hB : MB D cI cJ cZ ad s H locs I J)  (hl : lv_has ls 2 [(0, .ref (ad 0)), (1, .int v1)]) (h : fX5_choosesOn_32 kf_7 v1 I J = some z) : W p l e (rmd 0) s m args below meth c H locs 0 0 (MQ below (gQi D (mw cI cJ cZ ad) (mt cI cJ cZ) (mL ad) s.heap.size z) args s 0 0 (gA (mL ad) s.heap.size)) (F0 m 32 ls []) := by
  unfold fX5_choosesOn_32 at h
  refine lv_aload_n C.hx C.hb dX5_choosesOn_32 rfl (lv_at hl 0 rfl) ?_
  refine mg_bits C hB tw_564 dX5_choosesOn_33 ?_
  refine lv_iload_n C.hx C.hb dX5_choosesOn_36 rfl (lv_at hl 1 rfl) ?_
  refine lv_aload_n C.hx C.hb dX5_choosesOn_37 rfl (lv_at hl 0 rfl) ?_
  refine mg_kinds C hB tw_558 dX5_choosesOn_38 ?_
  refine lv_iload_n C.hx C.hb dX5_choosesOn_41 rfl (lv_at hl 1 rfl) ?_
  obtain ⟨c_6, h⟩ := ite_ck h
  refine ma_kinds_ld C hB c_6 dX5_choosesOn_42 ?_
  refine lv_iconst (v := (1 : Int32)) C.hx C.hb dX5_choosesOn_43 (by decide) ?_
  refine lv_icmp_le (tgt := 51) C.hx C.hb dX5_choosesOn_44 (by decide) (fun c_7 => ?_) (fun c_7 => ?_)
  · replace h := (if_pos c_7).symm.trans h
    refine lv_bipush (v := (16 : Int32)) C.hx C.hb dX5_choosesOn_51 (by decide) ?_
    refine ma_bits_st C hB c_6 dX5_choosesOn_53 (fun H locs hB => ?_)
    refine lv_iinc (v := v1 + (-1 : Int32)) (lv' := [(1, .int (v1 + (-1 : Int32))), (0, .ref (ad 0))]) C.hx C.hb dX5_choosesOn_54 hl (k := 1) rfl rfl (by decide) rfl (fun ls hl => ?_)
    refine lv_goto (tgt := 7) C.hx C.hb dX5_choosesOn_57 (by decide) ?_
    exact kt_7 hB (lv_sub hl [1, 0] rfl) h
  · replace h := (if_neg c_7).symm.trans h
    refine lv_iconst (v := (0 : Int32)) C.hx C.hb dX5_choosesOn_47 (by decide) ?_
    refine lv_goto (tgt := 53) C.hx C.hb dX5_choosesOn_48 (by decide) ?_
    refine ma_bits_st C hB c_6 dX5_choosesOn_53 (fun H locs hB => ?_)
    refine lv_iinc (v := v1 + (-1 : Int32)) (lv' := [(1, .int (v1 + (-1 : Int32))), (0, .ref (ad 0))]) C.hx C.hb dX5_choosesOn_54 hl (k := 1) rfl rfl (by decide) rfl (fun ls hl => ?_)
    refine lv_goto (tgt := 7) C.hx C.hb dX5_choosesOn_57 (by decide) ?_
    exact kt_7 hB (lv_sub hl [1, 0] rfl) h
def fX5_choosesOn_7  : Nat → Int32 → TI → TJ → Option (Int32 × SS)
  | 0, _, _, _ => none
  | n + 1, v1, I, J =>
    if v1 < 0 then
    fX5_choosesOn_60 v1 I J
    else
    if okx v1 then
    if (I 0 v1.toNatClampNeg) ≤ (1 : Int32) then
    fX5_choosesOn_32 (fX5_choosesOn_7 n) v1 I J
    else
    if (I 4 v1.toNatClampNeg) = (16 : Int32) then
    fX5_choosesOn_32 (fX5_choosesOn_7 n) v1 I J
    else
    fX5_choosesOn_60 v1 I J
    else none
theorem eX5_choosesOn_7  (n : Nat) (v1 : Int32) (I : TI) (J : TJ) : fX5_choosesOn_7 (n + 1) v1 I J = (
    if v1 < 0 then
    fX5_choosesOn_60 v1 I J
    else
    if okx v1 then
    if (I 0 v1.toNatClampNeg) ≤ (1 : Int32) then
    fX5_choosesOn_32 (fX5_choosesOn_7 n) v1 I J
    else
    if (I 4 v1.toNatClampNeg) = (16 : Int32) then
    fX5_choosesOn_32 (fX5_choosesOn_7 n) v1 I J
    else
    fX5_choosesOn_60 v1 I J
    else none) := rfl
set_option maxHeartbeats 4000000 in
set_option maxRecDepth 100000 in
theorem tX5_choosesOn_7 {p : Program} {l : Launch} {e : Env} {s : State} {m : MethodId} {args : Array Value} {below : List Frame} {meth : Method} {c : Code} (C : KX p s m args meth c "BitTunerModel" cX5_choosesOn 2 (some .boolean)) {D : va_G} {cI cJ cZ : ClassId} {ad : Nat → Nat} {z : Int32 × SS}   : ∀ (n : Nat), ∀ {H : Heap} {locs : List Loc} {ls : Array Slot} {I : TI} {J : TJ} {v1 : Int32}, MB D cI cJ cZ ad s H locs I J → lv_has ls 2 [(0, .ref (ad 0)), (1, .int v1)] → fX5_choosesOn_7 n v1 I J = some z → W p l e (rmd 0) s m args below meth c H locs 0 0 (MQ below (gQi D (mw cI cJ cZ ad) (mt cI cJ cZ) (mL ad) s.heap.size z) args s 0 0 (gA (mL ad) s.heap.size)) (F0 m 7 ls []) := by
  intro n
  induction n with
  | zero =>
    intro H locs ls I J v1 hB  hl h
    have h : (none : Option (Int32 × SS)) = some z := h
    cases h
  | succ n ih =>
    intro H locs ls I J v1 hB  hl h
    replace h := (eX5_choosesOn_7 n v1 I J).symm.trans h
    refine lv_iload_n C.hx C.hb dX5_choosesOn_7 rfl (lv_at hl 1 rfl) ?_
    refine lv_if_lt (tgt := 60) C.hx C.hb dX5_choosesOn_8 (by decide) (fun c_1 => ?_) (fun c_1 => ?_)
    · replace h := (if_pos c_1).symm.trans h
      exact tX5_choosesOn_60 C  hB (lv_sub hl [0, 1] rfl) h
    · replace h := (if_neg c_1).symm.trans h
      refine lv_aload_n C.hx C.hb dX5_choosesOn_11 rfl (lv_at hl 0 rfl) ?_
      refine mg_kinds C hB tw_558 dX5_choosesOn_12 ?_
      refine lv_iload_n C.hx C.hb dX5_choosesOn_15 rfl (lv_at hl 1 rfl) ?_
      obtain ⟨c_4, h⟩ := ite_ck h
      refine ma_kinds_ld C hB c_4 dX5_choosesOn_16 ?_
      refine lv_iconst (v := (1 : Int32)) C.hx C.hb dX5_choosesOn_17 (by decide) ?_
      refine lv_icmp_le (tgt := 32) C.hx C.hb dX5_choosesOn_18 (by decide) (fun c_5 => ?_) (fun c_5 => ?_)
      · replace h := (if_pos c_5).symm.trans h
        exact tX5_choosesOn_32 C (ih) hB (lv_sub hl [0, 1] rfl) h
      · replace h := (if_neg c_5).symm.trans h
        refine lv_aload_n C.hx C.hb dX5_choosesOn_21 rfl (lv_at hl 0 rfl) ?_
        refine mg_bits C hB tw_564 dX5_choosesOn_22 ?_
        refine lv_iload_n C.hx C.hb dX5_choosesOn_25 rfl (lv_at hl 1 rfl) ?_
        refine ma_bits_ld C hB c_4 dX5_choosesOn_26 ?_
        refine lv_bipush (v := (16 : Int32)) C.hx C.hb dX5_choosesOn_27 (by decide) ?_
        refine lv_icmp_ne (tgt := 60) C.hx C.hb dX5_choosesOn_29 (by decide) (fun c_8 => ?_) (fun c_8 => ?_)
        · replace h := (if_neg c_8).symm.trans h
          exact tX5_choosesOn_60 C  hB (lv_sub hl [0, 1] rfl) h
        · replace h := (if_pos c_8).symm.trans h
          exact tX5_choosesOn_32 C (ih) hB (lv_sub hl [0, 1] rfl) h
def fX5_choosesOn   (I : TI) (J : TJ) : Option (Int32 × SS) :=
  fX5_choosesOn_7 fuel ((I 13 0) - (1 : Int32)) I J
set_option maxHeartbeats 4000000 in
set_option maxRecDepth 100000 in
theorem tX5_choosesOn {p : Program} {l : Launch} {e : Env} {s : State} {m : MethodId} {args : Array Value} {below : List Frame} {meth : Method} {c : Code} (C : KX p s m args meth c "BitTunerModel" cX5_choosesOn 2 (some .boolean)) {D : va_G} {cI cJ cZ : ClassId} {ad : Nat → Nat} {z : Int32 × SS}   {H : Heap} {locs : List Loc} {ls : Array Slot} {I : TI} {J : TJ}  (hB : MB D cI cJ cZ ad s H locs I J)  (hl : lv_has ls 2 [(0, .ref (ad 0))]) (h : fX5_choosesOn I J = some z) : W p l e (rmd 0) s m args below meth c H locs 0 0 (MQ below (gQi D (mw cI cJ cZ ad) (mt cI cJ cZ) (mL ad) s.heap.size z) args s 0 0 (gA (mL ad) s.heap.size)) (F0 m 0 ls []) := by
  unfold fX5_choosesOn at h
  refine lv_aload_n C.hx C.hb dX5_choosesOn_0 rfl (lv_at hl 0 rfl) ?_
  refine mg_values C hB tw_557 dX5_choosesOn_1 ?_
  refine lv_iconst (v := (1 : Int32)) C.hx C.hb dX5_choosesOn_4 (by decide) ?_
  refine lv_isub C.hx C.hb dX5_choosesOn_5 ?_
  refine lv_istore_n (lv' := [(1, .int ((I 13 0) - (1 : Int32))), (0, .ref (ad 0))]) C.hx C.hb dX5_choosesOn_6 rfl hl (by decide) rfl (fun ls hl => ?_)
  exact tX5_choosesOn_7 C  fuel hB (lv_sub hl [1, 0] rfl) h
set_option maxHeartbeats 4000000 in
set_option maxRecDepth 100000 in
theorem cnX5_choosesOn (l : Launch) (D : va_G) (cI cJ cZ : ClassId) (ad : Nat → Nat) (sz : Nat)  {I : TI} {J : TJ} {z : Int32 × SS}  (h : fX5_choosesOn I J = some z) : Met l yX5_choosesOn (wsm yX5_choosesOn cX5_choosesOn 2 (some .boolean)) (rmd 0) (va_Pc [.ref (ad 0)] (gPre D (mw cI cJ cZ ad) (mt cI cJ cZ) sz I J)) (gQi D (mw cI cJ cZ ad) (mt cI cJ cZ) (mL ad) sz z) 0 0 (gA (mL ad) sz) :=
  g_met (by decide) mw_WL (fun p e s m below meth c hsz C hB ls hl => by subst hsz; exact tX5_choosesOn C hB  hl h) (Nat.le_of_ble_eq_true rfl)
theorem hdX5_least : yX5_least.cls = "BitTunerModel" ∧ yX5_least.cls ≠ "java/lang/invoke/MethodHandle" ∧ yX5_least.cls ≠ "java/lang/invoke/VarHandle" ∧ (parseMethodDescriptor yX5_least.desc).map (fun d => d.parameters.length) = some 2 := by decide +kernel
def fX5_least_92 (kf_48 : Int32 → Int64 → Int32 → Int32 → TI → TJ → Option (Int32 × SS)) (v1 : Int32) (v2 : Int64) (v4 : Int32) (I : TI) (J : TJ) : Option (Int32 × SS) :=
  bnd (fX5_choosesOn I J) (fun q_14 I_14 J_14 =>
  kf_48 v1 v2 v4 q_14 I_14 J_14)
set_option maxHeartbeats 4000000 in
set_option maxRecDepth 100000 in
theorem tX5_least_92 {p : Program} {l : Launch} {e : Env} {s : State} {m : MethodId} {args : Array Value} {below : List Frame} {meth : Method} {c : Code} (C : KX p s m args meth c "BitTunerModel" cX5_least 6 (some .int)) {D : va_G} {cI cJ cZ : ClassId} {ad : Nat → Nat} {z : Int32 × SS} {kf_48 : Int32 → Int64 → Int32 → Int32 → TI → TJ → Option (Int32 × SS)} (kt_48 : ∀ {H : Heap} {locs : List Loc} {ls : Array Slot} {I : TI} {J : TJ} {v1 : Int32} {v2 : Int64} {v4 : Int32} {v5 : Int32}, MB D cI cJ cZ ad s H locs I J → lv_has ls 6 [(0, .ref (ad 0)), (1, .int v1), (2, .long v2), (4, .int v4), (5, .int v5)] → kf_48 v1 v2 v4 v5 I J = some z → W p l e (rmd 3) s m args below meth c H locs 0 0 (MQ below (gQi D (mw cI cJ cZ ad) (mt cI cJ cZ) (mL ad) s.heap.size z) args s 0 0 (gA (mL ad) s.heap.size)) (F0 m 48 ls [])) {H : Heap} {locs : List Loc} {ls : Array Slot} {I : TI} {J : TJ} {v1 : Int32} {v2 : Int64} {v4 : Int32} (hB : MB D cI cJ cZ ad s H locs I J)  (hl : lv_has ls 6 [(0, .ref (ad 0)), (1, .int v1), (2, .long v2), (4, .int v4)]) (h : fX5_least_92 kf_48 v1 v2 v4 I J = some z) : W p l e (rmd 3) s m args below meth c H locs 0 0 (MQ below (gQi D (mw cI cJ cZ ad) (mt cI cJ cZ) (mL ad) s.heap.size z) args s 0 0 (gA (mL ad) s.heap.size)) (F0 m 92 ls []) := by
  unfold fX5_least_92 at h
  refine lv_aload_n C.hx C.hb dX5_least_92 rfl (lv_at hl 0 rfl) ?_
  obtain ⟨q_14, I_14, J_14, hc_14, h⟩ := bnd_some h
  refine g_goi hB (g_runV C hB [] [] (cnX5_choosesOn l D cI cJ cZ ad H.size  hc_14) 0 rfl rfl tw_813 tw_815 tw_29 tw_38 tw_816 ⟨rfl, rfl⟩ hdX5_choosesOn ⟨Nat.le_of_ble_eq_true rfl, Nat.le_of_ble_eq_true rfl⟩ hl.1 rfl (Nat.le_of_ble_eq_true rfl) dX5_least_93) (fun H locs hB => ?_)
  refine lv_istore (lv' := [(5, .int q_14), (0, .ref (ad 0)), (1, .int v1), (2, .long v2), (4, .int v4)]) C.hx C.hb dX5_least_96 hl (by decide) rfl (fun ls hl => ?_)
  refine lv_goto (tgt := 48) C.hx C.hb dX5_least_98 (by decide) ?_
  exact kt_48 hB (lv_sub hl [1, 2, 3, 4, 0] rfl) h
def fX5_least_78 (kf_48 : Int32 → Int64 → Int32 → Int32 → TI → TJ → Option (Int32 × SS)) (v1 : Int32) (v2 : Int64) (I : TI) (J : TJ) : Option (Int32 × SS) :=
  bnd (fX5_price I J) (fun q_16 I_16 J_16 =>
  bnd (fX5_save_18 I_16 J_16) (fun q_17 I_17 J_17 =>
  fX5_least_92 (kf_48) v1 v2 q_16 I_17 J_17))
set_option maxHeartbeats 4000000 in
set_option maxRecDepth 100000 in
theorem tX5_least_78 {p : Program} {l : Launch} {e : Env} {s : State} {m : MethodId} {args : Array Value} {below : List Frame} {meth : Method} {c : Code} (C : KX p s m args meth c "BitTunerModel" cX5_least 6 (some .int)) {D : va_G} {cI cJ cZ : ClassId} {ad : Nat → Nat} {z : Int32 × SS} {kf_48 : Int32 → Int64 → Int32 → Int32 → TI → TJ → Option (Int32 × SS)} (kt_48 : ∀ {H : Heap} {locs : List Loc} {ls : Array Slot} {I : TI} {J : TJ} {v1 : Int32} {v2 : Int64} {v4 : Int32} {v5 : Int32}, MB D cI cJ cZ ad s H locs I J → lv_has ls 6 [(0, .ref (ad 0)), (1, .int v1), (2, .long v2), (4, .int v4), (5, .int v5)] → kf_48 v1 v2 v4 v5 I J = some z → W p l e (rmd 3) s m args below meth c H locs 0 0 (MQ below (gQi D (mw cI cJ cZ ad) (mt cI cJ cZ) (mL ad) s.heap.size z) args s 0 0 (gA (mL ad) s.heap.size)) (F0 m 48 ls [])) {H : Heap} {locs : List Loc} {ls : Array Slot} {I : TI} {J : TJ} {v1 : Int32} {v2 : Int64} (hB : MB D cI cJ cZ ad s H locs I J)  (hl : lv_has ls 6 [(0, .ref (ad 0)), (1, .int v1), (2, .long v2)]) (h : fX5_least_78 kf_48 v1 v2 I J = some z) : W p l e (rmd 3) s m args below meth c H locs 0 0 (MQ below (gQi D (mw cI cJ cZ ad) (mt cI cJ cZ) (mL ad) s.heap.size z) args s 0 0 (gA (mL ad) s.heap.size)) (F0 m 78 ls []) := by
  unfold fX5_least_78 at h
  refine lv_aload_n C.hx C.hb dX5_least_78 rfl (lv_at hl 0 rfl) ?_
  obtain ⟨q_16, I_16, J_16, hc_16, h⟩ := bnd_some h
  refine g_goi hB (g_runV C hB [] [] (cnX5_price l D cI cJ cZ ad H.size  hc_16) 0 rfl rfl tw_812 tw_702 tw_703 tw_38 tw_704 ⟨rfl, rfl⟩ hdX5_price ⟨Nat.le_of_ble_eq_true rfl, Nat.le_of_ble_eq_true rfl⟩ hl.1 rfl (Nat.le_of_ble_eq_true rfl) dX5_least_79) (fun H locs hB => ?_)
  refine lv_istore (lv' := [(4, .int q_16), (0, .ref (ad 0)), (1, .int v1), (2, .long v2)]) C.hx C.hb dX5_least_82 hl (by decide) rfl (fun ls hl => ?_)
  refine lv_aload_n C.hx C.hb dX5_least_84 rfl (lv_at hl 1 rfl) ?_
  refine lv_aload_n C.hx C.hb dX5_least_85 rfl (lv_at hl 1 rfl) ?_
  refine mg_best C hB tw_575 dX5_least_86 ?_
  obtain ⟨q_17, I_17, J_17, hc_17, h⟩ := bnd_some h
  refine g_gov hB (g_runV C hB [.ref (ad 18)] [] (cnX5_save_18 l D cI cJ cZ ad H.size  hc_17) 0 rfl rfl tw_804 tw_806 tw_27 tw_38 tw_807 ⟨rfl, rfl⟩ hdX5_save ⟨Nat.le_of_ble_eq_true rfl, Nat.le_of_ble_eq_true rfl⟩ hl.1 rfl (Nat.le_of_ble_eq_true rfl) dX5_least_89) (fun H locs hB => ?_)
  exact tX5_least_92 C (kt_48) hB (lv_sub hl [1, 2, 3, 0] rfl) h
def fX5_least_48  : Nat → Int32 → Int64 → Int32 → Int32 → TI → TJ → Option (Int32 × SS)
  | 0, _, _, _, _, _, _ => none
  | n + 1, v1, v2, v4, v5, I, J =>
    if v5 = 0 then
    if v4 = (-1 : Int32) then
    bnd (fX5_take_17 I J) (fun q_11 I_11 J_11 =>
    some ((-5 : Int32), I_11, J_11))
    else
    bnd (fX5_take_18 I J) (fun q_10 I_10 J_10 =>
    some (v4, I_10, J_10))
    else
    bnd (fX5_bound v1 I J) (fun q_12 I_12 J_12 =>
    if v2 < q_12 then
    fX5_least_92 (fX5_least_48 n) v1 v2 v4 I_12 J_12
    else
    if v4 = (-1 : Int32) then
    fX5_least_78 (fX5_least_48 n) v1 v2 I_12 J_12
    else
    bnd (fX5_price I_12 J_12) (fun q_18 I_18 J_18 =>
    if v4 ≤ q_18 then
    fX5_least_92 (fX5_least_48 n) v1 v2 v4 I_18 J_18
    else
    fX5_least_78 (fX5_least_48 n) v1 v2 I_18 J_18))
theorem eX5_least_48  (n : Nat) (v1 : Int32) (v2 : Int64) (v4 : Int32) (v5 : Int32) (I : TI) (J : TJ) : fX5_least_48 (n + 1) v1 v2 v4 v5 I J = (
    if v5 = 0 then
    if v4 = (-1 : Int32) then
    bnd (fX5_take_17 I J) (fun q_11 I_11 J_11 =>
    some ((-5 : Int32), I_11, J_11))
    else
    bnd (fX5_take_18 I J) (fun q_10 I_10 J_10 =>
    some (v4, I_10, J_10))
    else
    bnd (fX5_bound v1 I J) (fun q_12 I_12 J_12 =>
    if v2 < q_12 then
    fX5_least_92 (fX5_least_48 n) v1 v2 v4 I_12 J_12
    else
    if v4 = (-1 : Int32) then
    fX5_least_78 (fX5_least_48 n) v1 v2 I_12 J_12
    else
    bnd (fX5_price I_12 J_12) (fun q_18 I_18 J_18 =>
    if v4 ≤ q_18 then
    fX5_least_92 (fX5_least_48 n) v1 v2 v4 I_18 J_18
    else
    fX5_least_78 (fX5_least_48 n) v1 v2 I_18 J_18))) := rfl
set_option maxHeartbeats 4000000 in
set_option maxRecDepth 100000 in
theorem tX5_least_48 {p : Program} {l : Launch} {e : Env} {s : State} {m : MethodId} {args : Array Value} {below : List Frame} {meth : Method} {c : Code} (C : KX p s m args meth c "BitTunerModel" cX5_least 6 (some .int)) {D : va_G} {cI cJ cZ : ClassId} {ad : Nat → Nat} {z : Int32 × SS}   : ∀ (n : Nat), ∀ {H : Heap} {locs : List Loc} {ls : Array Slot} {I : TI} {J : TJ} {v1 : Int32} {v2 : Int64} {v4 : Int32} {v5 : Int32}, MB D cI cJ cZ ad s H locs I J → lv_has ls 6 [(0, .ref (ad 0)), (1, .int v1), (2, .long v2), (4, .int v4), (5, .int v5)] → fX5_least_48 n v1 v2 v4 v5 I J = some z → W p l e (rmd 3) s m args below meth c H locs 0 0 (MQ below (gQi D (mw cI cJ cZ ad) (mt cI cJ cZ) (mL ad) s.heap.size z) args s 0 0 (gA (mL ad) s.heap.size)) (F0 m 48 ls []) := by
  intro n
  induction n with
  | zero =>
    intro H locs ls I J v1 v2 v4 v5 hB  hl h
    have h : (none : Option (Int32 × SS)) = some z := h
    cases h
  | succ n ih =>
    intro H locs ls I J v1 v2 v4 v5 hB  hl h
    replace h := (eX5_least_48 n v1 v2 v4 v5 I J).symm.trans h
    refine lv_iload C.hx C.hb dX5_least_48 (lv_at hl 4 rfl) ?_
    refine lv_if_eq (tgt := 101) C.hx C.hb dX5_least_50 (by decide) (fun c_8 => ?_) (fun c_8 => ?_)
    · replace h := (if_pos c_8).symm.trans h
      refine lv_iload C.hx C.hb dX5_least_101 (lv_at hl 3 rfl) ?_
      refine lv_iconst (v := (-1 : Int32)) C.hx C.hb dX5_least_103 (by decide) ?_
      refine lv_icmp_ne (tgt := 118) C.hx C.hb dX5_least_104 (by decide) (fun c_9 => ?_) (fun c_9 => ?_)
      · replace h := (if_neg c_9).symm.trans h
        refine lv_aload_n C.hx C.hb dX5_least_118 rfl (lv_at hl 0 rfl) ?_
        refine lv_aload_n C.hx C.hb dX5_least_119 rfl (lv_at hl 0 rfl) ?_
        refine mg_best C hB tw_575 dX5_least_120 ?_
        obtain ⟨q_10, I_10, J_10, hc_10, h⟩ := bnd_some h
        refine g_gov hB (g_runV C hB [.ref (ad 18)] [] (cnX5_take_18 l D cI cJ cZ ad H.size  hc_10) 0 rfl rfl tw_817 tw_819 tw_30 tw_38 tw_820 ⟨rfl, rfl⟩ hdX5_take ⟨Nat.le_of_ble_eq_true rfl, Nat.le_of_ble_eq_true rfl⟩ hl.1 rfl (Nat.le_of_ble_eq_true rfl) dX5_least_123) (fun H locs hB => ?_)
        refine lv_iload C.hx C.hb dX5_least_126 (lv_at hl 3 rfl) ?_
        exact g_iret C hB h dX5_least_128
      · replace h := (if_pos c_9).symm.trans h
        refine lv_aload_n C.hx C.hb dX5_least_107 rfl (lv_at hl 0 rfl) ?_
        refine lv_aload_n C.hx C.hb dX5_least_108 rfl (lv_at hl 0 rfl) ?_
        refine mg_were C hB tw_574 dX5_least_109 ?_
        obtain ⟨q_11, I_11, J_11, hc_11, h⟩ := bnd_some h
        refine g_gov hB (g_runV C hB [.ref (ad 17)] [] (cnX5_take_17 l D cI cJ cZ ad H.size  hc_11) 0 rfl rfl tw_817 tw_819 tw_30 tw_38 tw_820 ⟨rfl, rfl⟩ hdX5_take ⟨Nat.le_of_ble_eq_true rfl, Nat.le_of_ble_eq_true rfl⟩ hl.1 rfl (Nat.le_of_ble_eq_true rfl) dX5_least_112) (fun H locs hB => ?_)
        refine lv_bipush (v := (-5 : Int32)) C.hx C.hb dX5_least_115 (by decide) ?_
        exact g_iret C hB h dX5_least_117
    · replace h := (if_neg c_8).symm.trans h
      refine lv_aload_n C.hx C.hb dX5_least_53 rfl (lv_at hl 0 rfl) ?_
      refine lv_iload_n C.hx C.hb dX5_least_54 rfl (lv_at hl 1 rfl) ?_
      obtain ⟨q_12, I_12, J_12, hc_12, h⟩ := bnd_some h
      refine g_gol hB (g_runV C hB [.int v1] [] (cnX5_bound l D cI cJ cZ ad H.size  hc_12) 0 rfl rfl tw_688 tw_690 tw_17 tw_38 tw_691 ⟨rfl, rfl⟩ hdX5_bound ⟨Nat.le_of_ble_eq_true rfl, Nat.le_of_ble_eq_true rfl⟩ hl.1 rfl (Nat.le_of_ble_eq_true rfl) dX5_least_55) (fun H locs hB => ?_)
      refine lv_lload_n C.hx C.hb dX5_least_58 rfl (lv_at hl 2 rfl) ?_
      refine g_lcmp_gt C (tgt := 92) dX5_least_59 dX5_least_60 (by decide) (fun c_13 => ?_) (fun c_13 => ?_)
      · replace h := (if_pos c_13).symm.trans h
        exact tX5_least_92 C (ih) hB (lv_sub hl [0, 1, 2, 3] rfl) h
      · replace h := (if_neg c_13).symm.trans h
        refine lv_iload C.hx C.hb dX5_least_63 (lv_at hl 3 rfl) ?_
        refine lv_iconst (v := (-1 : Int32)) C.hx C.hb dX5_least_65 (by decide) ?_
        refine lv_icmp_eq (tgt := 78) C.hx C.hb dX5_least_66 (by decide) (fun c_15 => ?_) (fun c_15 => ?_)
        · replace h := (if_pos c_15).symm.trans h
          exact tX5_least_78 C (ih) hB (lv_sub hl [0, 1, 2] rfl) h
        · replace h := (if_neg c_15).symm.trans h
          refine lv_aload_n C.hx C.hb dX5_least_69 rfl (lv_at hl 0 rfl) ?_
          obtain ⟨q_18, I_18, J_18, hc_18, h⟩ := bnd_some h
          refine g_goi hB (g_runV C hB [] [] (cnX5_price l D cI cJ cZ ad H.size  hc_18) 0 rfl rfl tw_812 tw_702 tw_703 tw_38 tw_704 ⟨rfl, rfl⟩ hdX5_price ⟨Nat.le_of_ble_eq_true rfl, Nat.le_of_ble_eq_true rfl⟩ hl.1 rfl (Nat.le_of_ble_eq_true rfl) dX5_least_70) (fun H locs hB => ?_)
          refine lv_iload C.hx C.hb dX5_least_73 (lv_at hl 3 rfl) ?_
          refine lv_icmp_ge (tgt := 92) C.hx C.hb dX5_least_75 (by decide) (fun c_19 => ?_) (fun c_19 => ?_)
          · replace h := (if_pos c_19).symm.trans h
            exact tX5_least_92 C (ih) hB (lv_sub hl [0, 1, 2, 3] rfl) h
          · replace h := (if_neg c_19).symm.trans h
            exact tX5_least_78 C (ih) hB (lv_sub hl [0, 1, 2] rfl) h
def fX5_least  (v1 : Int32) (v2 : Int64) (I : TI) (J : TJ) : Option (Int32 × SS) :=
  bnd (fX5_isValue v1 I J) (fun q_1 I_1 J_1 =>
  if q_1 = 0 then
  some ((-2 : Int32), I_1, J_1)
  else
  if (0 : Int64) ≤ v2 then
  bnd (fX5_works I_1 J_1) (fun q_4 I_4 J_4 =>
  if q_4 ≤ (6 : Int32) then
  bnd (fX5_save_17 I_4 J_4) (fun q_6 I_6 J_6 =>
  bnd (fX5_setAll (0 : Int32) I_6 J_6) (fun q_7 I_7 J_7 =>
  fX5_least_48 fuel v1 v2 (-1 : Int32) (1 : Int32) I_7 J_7))
  else
  some ((-5 : Int32), I_4, J_4))
  else
  some ((-2 : Int32), I_1, J_1))
set_option maxHeartbeats 4000000 in
set_option maxRecDepth 100000 in
theorem tX5_least {p : Program} {l : Launch} {e : Env} {s : State} {m : MethodId} {args : Array Value} {below : List Frame} {meth : Method} {c : Code} (C : KX p s m args meth c "BitTunerModel" cX5_least 6 (some .int)) {D : va_G} {cI cJ cZ : ClassId} {ad : Nat → Nat} {z : Int32 × SS}   {H : Heap} {locs : List Loc} {ls : Array Slot} {I : TI} {J : TJ} {v1 : Int32} {v2 : Int64} (hB : MB D cI cJ cZ ad s H locs I J)  (hl : lv_has ls 6 [(0, .ref (ad 0)), (1, .int v1), (2, .long v2)]) (h : fX5_least v1 v2 I J = some z) : W p l e (rmd 3) s m args below meth c H locs 0 0 (MQ below (gQi D (mw cI cJ cZ ad) (mt cI cJ cZ) (mL ad) s.heap.size z) args s 0 0 (gA (mL ad) s.heap.size)) (F0 m 0 ls []) := by
  unfold fX5_least at h
  refine lv_aload_n C.hx C.hb dX5_least_0 rfl (lv_at hl 0 rfl) ?_
  refine lv_iload_n C.hx C.hb dX5_least_1 rfl (lv_at hl 1 rfl) ?_
  obtain ⟨q_1, I_1, J_1, hc_1, h⟩ := bnd_some h
  refine g_goi hB (g_runV C hB [.int v1] [] (cnX5_isValue l D cI cJ cZ ad H.size  hc_1) 0 rfl rfl tw_642 tw_644 tw_15 tw_38 tw_645 ⟨rfl, rfl⟩ hdX5_isValue ⟨Nat.le_of_ble_eq_true rfl, Nat.le_of_ble_eq_true rfl⟩ hl.1 rfl (Nat.le_of_ble_eq_true rfl) dX5_least_2) (fun H locs hB => ?_)
  refine lv_if_eq (tgt := 14) C.hx C.hb dX5_least_5 (by decide) (fun c_2 => ?_) (fun c_2 => ?_)
  · replace h := (if_pos c_2).symm.trans h
    refine lv_bipush (v := (-2 : Int32)) C.hx C.hb dX5_least_14 (by decide) ?_
    exact g_iret C hB h dX5_least_16
  · replace h := (if_neg c_2).symm.trans h
    refine lv_lload_n C.hx C.hb dX5_least_8 rfl (lv_at hl 2 rfl) ?_
    refine lv_lconst (v := (0 : Int64)) C.hx C.hb dX5_least_9 (by decide) ?_
    refine g_lcmp_ge C (tgt := 17) dX5_least_10 dX5_least_11 (by decide) (fun c_3 => ?_) (fun c_3 => ?_)
    · replace h := (if_pos c_3).symm.trans h
      refine lv_aload_n C.hx C.hb dX5_least_17 rfl (lv_at hl 0 rfl) ?_
      obtain ⟨q_4, I_4, J_4, hc_4, h⟩ := bnd_some h
      refine g_goi hB (g_runV C hB [] [] (cnX5_works l D cI cJ cZ ad H.size  hc_4) 0 rfl rfl tw_800 tw_802 tw_26 tw_38 tw_803 ⟨rfl, rfl⟩ hdX5_works ⟨Nat.le_of_ble_eq_true rfl, Nat.le_of_ble_eq_true rfl⟩ hl.1 rfl (Nat.le_of_ble_eq_true rfl) dX5_least_18) (fun H locs hB => ?_)
      refine lv_bipush (v := (6 : Int32)) C.hx C.hb dX5_least_21 (by decide) ?_
      refine lv_icmp_le (tgt := 29) C.hx C.hb dX5_least_23 (by decide) (fun c_5 => ?_) (fun c_5 => ?_)
      · replace h := (if_pos c_5).symm.trans h
        refine lv_aload_n C.hx C.hb dX5_least_29 rfl (lv_at hl 0 rfl) ?_
        refine lv_aload_n C.hx C.hb dX5_least_30 rfl (lv_at hl 0 rfl) ?_
        refine mg_were C hB tw_574 dX5_least_31 ?_
        obtain ⟨q_6, I_6, J_6, hc_6, h⟩ := bnd_some h
        refine g_gov hB (g_runV C hB [.ref (ad 17)] [] (cnX5_save_17 l D cI cJ cZ ad H.size  hc_6) 0 rfl rfl tw_804 tw_806 tw_27 tw_38 tw_807 ⟨rfl, rfl⟩ hdX5_save ⟨Nat.le_of_ble_eq_true rfl, Nat.le_of_ble_eq_true rfl⟩ hl.1 rfl (Nat.le_of_ble_eq_true rfl) dX5_least_34) (fun H locs hB => ?_)
        refine lv_aload_n C.hx C.hb dX5_least_37 rfl (lv_at hl 0 rfl) ?_
        refine lv_iconst (v := (0 : Int32)) C.hx C.hb dX5_least_38 (by decide) ?_
        obtain ⟨q_7, I_7, J_7, hc_7, h⟩ := bnd_some h
        refine g_gov hB (g_runV C hB [.int (0 : Int32)] [] (cnX5_setAll l D cI cJ cZ ad H.size  hc_7) 0 rfl rfl tw_808 tw_810 tw_28 tw_38 tw_811 ⟨rfl, rfl⟩ hdX5_setAll ⟨Nat.le_of_ble_eq_true rfl, Nat.le_of_ble_eq_true rfl⟩ hl.1 rfl (Nat.le_of_ble_eq_true rfl) dX5_least_39) (fun H locs hB => ?_)
        refine lv_iconst (v := (-1 : Int32)) C.hx C.hb dX5_least_42 (by decide) ?_
        refine lv_istore (lv' := [(4, .int (-1 : Int32)), (0, .ref (ad 0)), (1, .int v1), (2, .long v2)]) C.hx C.hb dX5_least_43 hl (by decide) rfl (fun ls hl => ?_)
        refine lv_iconst (v := (1 : Int32)) C.hx C.hb dX5_least_45 (by decide) ?_
        refine lv_istore (lv' := [(5, .int (1 : Int32)), (4, .int (-1 : Int32)), (0, .ref (ad 0)), (1, .int v1), (2, .long v2)]) C.hx C.hb dX5_least_46 hl (by decide) rfl (fun ls hl => ?_)
        exact tX5_least_48 C  fuel hB (lv_sub hl [2, 3, 4, 1, 0] rfl) h
      · replace h := (if_neg c_5).symm.trans h
        refine lv_bipush (v := (-5 : Int32)) C.hx C.hb dX5_least_26 (by decide) ?_
        exact g_iret C hB h dX5_least_28
    · replace h := (if_neg c_3).symm.trans h
      refine lv_bipush (v := (-2 : Int32)) C.hx C.hb dX5_least_14 (by decide) ?_
      exact g_iret C hB h dX5_least_16
set_option maxHeartbeats 4000000 in
set_option maxRecDepth 100000 in
theorem cnX5_least (l : Launch) (D : va_G) (cI cJ cZ : ClassId) (ad : Nat → Nat) (sz : Nat) {v1 : Int32} {v2 : Int64} {I : TI} {J : TJ} {z : Int32 × SS}  (h : fX5_least v1 v2 I J = some z) : Met l yX5_least (wsm yX5_least cX5_least 6 (some .int)) (rmd 3) (va_Pc [.ref (ad 0), .int v1, .long v2] (gPre D (mw cI cJ cZ ad) (mt cI cJ cZ) sz I J)) (gQi D (mw cI cJ cZ ad) (mt cI cJ cZ) (mL ad) sz z) 0 0 (gA (mL ad) sz) :=
  g_met (by decide) mw_WL (fun p e s m below meth c hsz C hB ls hl => by subst hsz; exact tX5_least C hB  hl h) (Nat.le_of_ble_eq_true rfl)
theorem hdX5_trim : yX5_trim.cls = "BitTunerModel" ∧ yX5_trim.cls ≠ "java/lang/invoke/MethodHandle" ∧ yX5_trim.cls ≠ "java/lang/invoke/VarHandle" ∧ (parseMethodDescriptor yX5_trim.desc).map (fun d => d.parameters.length) = some 2 := by decide +kernel
def fX5_trim_82 (kf_55 : Int32 → Int64 → Int32 → TI → TJ → Option (Int32 × SS)) : Nat → Int32 → Int64 → Int32 → Int32 → TI → TJ → Option (Int32 × SS)
  | 0, _, _, _, _, _, _ => none
  | n + 1, v1, v2, v4, v5, I, J =>
    if v5 = 0 then
    kf_55 v1 v2 (v4 + (1 : Int32)) I J
    else
    if okx v4 then
    if (I 4 v4.toNatClampNeg) ≤ 0 then
    kf_55 v1 v2 (v4 + (1 : Int32)) I J
    else
    bnd (fX5_bound v1 (uI I 4 (v4.toNatClampNeg) ((I 4 v4.toNatClampNeg) - (1 : Int32))) J) (fun q_15 I_15 J_15 =>
    if q_15 ≤ v2 then
    fX5_trim_82 kf_55 n v1 v2 v4 v5 I_15 J_15
    else
    fX5_trim_82 kf_55 n v1 v2 v4 (0 : Int32) (uI I_15 4 (v4.toNatClampNeg) ((I_15 4 v4.toNatClampNeg) + (1 : Int32))) J_15)
    else none
theorem eX5_trim_82 (kf_55 : Int32 → Int64 → Int32 → TI → TJ → Option (Int32 × SS)) (n : Nat) (v1 : Int32) (v2 : Int64) (v4 : Int32) (v5 : Int32) (I : TI) (J : TJ) : fX5_trim_82 kf_55 (n + 1) v1 v2 v4 v5 I J = (
    if v5 = 0 then
    kf_55 v1 v2 (v4 + (1 : Int32)) I J
    else
    if okx v4 then
    if (I 4 v4.toNatClampNeg) ≤ 0 then
    kf_55 v1 v2 (v4 + (1 : Int32)) I J
    else
    bnd (fX5_bound v1 (uI I 4 (v4.toNatClampNeg) ((I 4 v4.toNatClampNeg) - (1 : Int32))) J) (fun q_15 I_15 J_15 =>
    if q_15 ≤ v2 then
    fX5_trim_82 kf_55 n v1 v2 v4 v5 I_15 J_15
    else
    fX5_trim_82 kf_55 n v1 v2 v4 (0 : Int32) (uI I_15 4 (v4.toNatClampNeg) ((I_15 4 v4.toNatClampNeg) + (1 : Int32))) J_15)
    else none) := rfl
set_option maxHeartbeats 4000000 in
set_option maxRecDepth 100000 in
theorem tX5_trim_82 {p : Program} {l : Launch} {e : Env} {s : State} {m : MethodId} {args : Array Value} {below : List Frame} {meth : Method} {c : Code} (C : KX p s m args meth c "BitTunerModel" cX5_trim 6 (some .int)) {D : va_G} {cI cJ cZ : ClassId} {ad : Nat → Nat} {z : Int32 × SS} {kf_55 : Int32 → Int64 → Int32 → TI → TJ → Option (Int32 × SS)} (kt_55 : ∀ {H : Heap} {locs : List Loc} {ls : Array Slot} {I : TI} {J : TJ} {v1 : Int32} {v2 : Int64} {v4 : Int32}, MB D cI cJ cZ ad s H locs I J → lv_has ls 6 [(0, .ref (ad 0)), (1, .int v1), (2, .long v2), (4, .int v4)] → kf_55 v1 v2 v4 I J = some z → W p l e (rmd 3) s m args below meth c H locs 0 0 (MQ below (gQi D (mw cI cJ cZ ad) (mt cI cJ cZ) (mL ad) s.heap.size z) args s 0 0 (gA (mL ad) s.heap.size)) (F0 m 55 ls [])) : ∀ (n : Nat), ∀ {H : Heap} {locs : List Loc} {ls : Array Slot} {I : TI} {J : TJ} {v1 : Int32} {v2 : Int64} {v4 : Int32} {v5 : Int32}, MB D cI cJ cZ ad s H locs I J → lv_has ls 6 [(0, .ref (ad 0)), (1, .int v1), (2, .long v2), (4, .int v4), (5, .int v5)] → fX5_trim_82 kf_55 n v1 v2 v4 v5 I J = some z → W p l e (rmd 3) s m args below meth c H locs 0 0 (MQ below (gQi D (mw cI cJ cZ ad) (mt cI cJ cZ) (mL ad) s.heap.size z) args s 0 0 (gA (mL ad) s.heap.size)) (F0 m 82 ls []) := by
  intro n
  induction n with
  | zero =>
    intro H locs ls I J v1 v2 v4 v5 hB  hl h
    have h : (none : Option (Int32 × SS)) = some z := h
    cases h
  | succ n ih =>
    intro H locs ls I J v1 v2 v4 v5 hB  hl h
    replace h := (eX5_trim_82 kf_55 n v1 v2 v4 v5 I J).symm.trans h
    refine lv_iload C.hx C.hb dX5_trim_82 (lv_at hl 4 rfl) ?_
    refine lv_if_eq (tgt := 135) C.hx C.hb dX5_trim_84 (by decide) (fun c_12 => ?_) (fun c_12 => ?_)
    · replace h := (if_pos c_12).symm.trans h
      refine lv_iinc (v := v4 + (1 : Int32)) (lv' := [(4, .int (v4 + (1 : Int32))), (0, .ref (ad 0)), (1, .int v1), (2, .long v2), (5, .int v5)]) C.hx C.hb dX5_trim_135 hl (k := 3) rfl rfl (by decide) rfl (fun ls hl => ?_)
      refine lv_goto (tgt := 55) C.hx C.hb dX5_trim_138 (by decide) ?_
      exact kt_55 hB (lv_sub hl [1, 2, 3, 0] rfl) h
    · replace h := (if_neg c_12).symm.trans h
      refine lv_aload_n C.hx C.hb dX5_trim_87 rfl (lv_at hl 0 rfl) ?_
      refine mg_bits C hB tw_564 dX5_trim_88 ?_
      refine lv_iload C.hx C.hb dX5_trim_91 (lv_at hl 3 rfl) ?_
      obtain ⟨c_13, h⟩ := ite_ck h
      refine ma_bits_ld C hB c_13 dX5_trim_93 ?_
      refine lv_if_le (tgt := 135) C.hx C.hb dX5_trim_94 (by decide) (fun c_14 => ?_) (fun c_14 => ?_)
      · replace h := (if_pos c_14).symm.trans h
        refine lv_iinc (v := v4 + (1 : Int32)) (lv' := [(4, .int (v4 + (1 : Int32))), (0, .ref (ad 0)), (1, .int v1), (2, .long v2), (5, .int v5)]) C.hx C.hb dX5_trim_135 hl (k := 3) rfl rfl (by decide) rfl (fun ls hl => ?_)
        refine lv_goto (tgt := 55) C.hx C.hb dX5_trim_138 (by decide) ?_
        exact kt_55 hB (lv_sub hl [1, 2, 3, 0] rfl) h
      · replace h := (if_neg c_14).symm.trans h
        refine lv_aload_n C.hx C.hb dX5_trim_97 rfl (lv_at hl 0 rfl) ?_
        refine mg_bits C hB tw_564 dX5_trim_98 ?_
        refine lv_iload C.hx C.hb dX5_trim_101 (lv_at hl 3 rfl) ?_
        refine lv_dup2_11 C.hx C.hb dX5_trim_103 rfl rfl ?_
        refine ma_bits_ld C hB c_13 dX5_trim_104 ?_
        refine lv_iconst (v := (1 : Int32)) C.hx C.hb dX5_trim_105 (by decide) ?_
        refine lv_isub C.hx C.hb dX5_trim_106 ?_
        refine ma_bits_st C hB c_13 dX5_trim_107 (fun H locs hB => ?_)
        refine lv_aload_n C.hx C.hb dX5_trim_108 rfl (lv_at hl 0 rfl) ?_
        refine lv_iload_n C.hx C.hb dX5_trim_109 rfl (lv_at hl 1 rfl) ?_
        obtain ⟨q_15, I_15, J_15, hc_15, h⟩ := bnd_some h
        refine g_gol hB (g_runV C hB [.int v1] [] (cnX5_bound l D cI cJ cZ ad H.size  hc_15) 0 rfl rfl tw_688 tw_690 tw_17 tw_38 tw_691 ⟨rfl, rfl⟩ hdX5_bound ⟨Nat.le_of_ble_eq_true rfl, Nat.le_of_ble_eq_true rfl⟩ hl.1 rfl (Nat.le_of_ble_eq_true rfl) dX5_trim_110) (fun H locs hB => ?_)
        refine lv_lload_n C.hx C.hb dX5_trim_113 rfl (lv_at hl 2 rfl) ?_
        refine g_lcmp_le C (tgt := 82) dX5_trim_114 dX5_trim_115 (by decide) (fun c_16 => ?_) (fun c_16 => ?_)
        · replace h := (if_pos c_16).symm.trans h
          exact ih hB (lv_sub hl [0, 1, 2, 3, 4] rfl) h
        · replace h := (if_neg c_16).symm.trans h
          refine lv_aload_n C.hx C.hb dX5_trim_118 rfl (lv_at hl 0 rfl) ?_
          refine mg_bits C hB tw_564 dX5_trim_119 ?_
          refine lv_iload C.hx C.hb dX5_trim_122 (lv_at hl 3 rfl) ?_
          refine lv_dup2_11 C.hx C.hb dX5_trim_124 rfl rfl ?_
          refine ma_bits_ld C hB c_13 dX5_trim_125 ?_
          refine lv_iconst (v := (1 : Int32)) C.hx C.hb dX5_trim_126 (by decide) ?_
          refine lv_iadd C.hx C.hb dX5_trim_127 ?_
          refine ma_bits_st C hB c_13 dX5_trim_128 (fun H locs hB => ?_)
          refine lv_iconst (v := (0 : Int32)) C.hx C.hb dX5_trim_129 (by decide) ?_
          refine lv_istore (lv' := [(5, .int (0 : Int32)), (0, .ref (ad 0)), (1, .int v1), (2, .long v2), (4, .int v4)]) C.hx C.hb dX5_trim_130 hl (by decide) rfl (fun ls hl => ?_)
          refine lv_goto (tgt := 82) C.hx C.hb dX5_trim_132 (by decide) ?_
          exact ih hB (lv_sub hl [1, 2, 3, 4, 0] rfl) h
def fX5_trim_80 (kf_55 : Int32 → Int64 → Int32 → TI → TJ → Option (Int32 × SS)) (v1 : Int32) (v2 : Int64) (v4 : Int32) (w0 : Int32) (I : TI) (J : TJ) : Option (Int32 × SS) :=
  fX5_trim_82 (kf_55) fuel v1 v2 v4 w0 I J
set_option maxHeartbeats 4000000 in
set_option maxRecDepth 100000 in
theorem tX5_trim_80 {p : Program} {l : Launch} {e : Env} {s : State} {m : MethodId} {args : Array Value} {below : List Frame} {meth : Method} {c : Code} (C : KX p s m args meth c "BitTunerModel" cX5_trim 6 (some .int)) {D : va_G} {cI cJ cZ : ClassId} {ad : Nat → Nat} {z : Int32 × SS} {kf_55 : Int32 → Int64 → Int32 → TI → TJ → Option (Int32 × SS)} (kt_55 : ∀ {H : Heap} {locs : List Loc} {ls : Array Slot} {I : TI} {J : TJ} {v1 : Int32} {v2 : Int64} {v4 : Int32}, MB D cI cJ cZ ad s H locs I J → lv_has ls 6 [(0, .ref (ad 0)), (1, .int v1), (2, .long v2), (4, .int v4)] → kf_55 v1 v2 v4 I J = some z → W p l e (rmd 3) s m args below meth c H locs 0 0 (MQ below (gQi D (mw cI cJ cZ ad) (mt cI cJ cZ) (mL ad) s.heap.size z) args s 0 0 (gA (mL ad) s.heap.size)) (F0 m 55 ls [])) {H : Heap} {locs : List Loc} {ls : Array Slot} {I : TI} {J : TJ} {v1 : Int32} {v2 : Int64} {v4 : Int32} {w0 : Int32} (hB : MB D cI cJ cZ ad s H locs I J)  (hl : lv_has ls 6 [(0, .ref (ad 0)), (1, .int v1), (2, .long v2), (4, .int v4)]) (h : fX5_trim_80 kf_55 v1 v2 v4 w0 I J = some z) : W p l e (rmd 3) s m args below meth c H locs 0 0 (MQ below (gQi D (mw cI cJ cZ ad) (mt cI cJ cZ) (mL ad) s.heap.size z) args s 0 0 (gA (mL ad) s.heap.size)) (F0 m 80 ls [.int w0]) := by
  unfold fX5_trim_80 at h
  refine lv_istore (lv' := [(5, .int w0), (0, .ref (ad 0)), (1, .int v1), (2, .long v2), (4, .int v4)]) C.hx C.hb dX5_trim_80 hl (by decide) rfl (fun ls hl => ?_)
  exact tX5_trim_82 C (kt_55) fuel hB (lv_sub hl [1, 2, 3, 4, 0] rfl) h
def fX5_trim_55  : Nat → Int32 → Int64 → Int32 → TI → TJ → Option (Int32 × SS)
  | 0, _, _, _, _, _ => none
  | n + 1, v1, v2, v4, I, J =>
    if (I 13 0) ≤ v4 then
    bnd (fX5_price I J) (fun q_9 I_9 J_9 =>
    some (q_9, I_9, J_9))
    else
    if okx v4 then
    if (I 0 v4.toNatClampNeg) ≤ (1 : Int32) then
    fX5_trim_80 (fX5_trim_55 n) v1 v2 v4 (0 : Int32) I J
    else
    fX5_trim_80 (fX5_trim_55 n) v1 v2 v4 (1 : Int32) I J
    else none
theorem eX5_trim_55  (n : Nat) (v1 : Int32) (v2 : Int64) (v4 : Int32) (I : TI) (J : TJ) : fX5_trim_55 (n + 1) v1 v2 v4 I J = (
    if (I 13 0) ≤ v4 then
    bnd (fX5_price I J) (fun q_9 I_9 J_9 =>
    some (q_9, I_9, J_9))
    else
    if okx v4 then
    if (I 0 v4.toNatClampNeg) ≤ (1 : Int32) then
    fX5_trim_80 (fX5_trim_55 n) v1 v2 v4 (0 : Int32) I J
    else
    fX5_trim_80 (fX5_trim_55 n) v1 v2 v4 (1 : Int32) I J
    else none) := rfl
set_option maxHeartbeats 4000000 in
set_option maxRecDepth 100000 in
theorem tX5_trim_55 {p : Program} {l : Launch} {e : Env} {s : State} {m : MethodId} {args : Array Value} {below : List Frame} {meth : Method} {c : Code} (C : KX p s m args meth c "BitTunerModel" cX5_trim 6 (some .int)) {D : va_G} {cI cJ cZ : ClassId} {ad : Nat → Nat} {z : Int32 × SS}   : ∀ (n : Nat), ∀ {H : Heap} {locs : List Loc} {ls : Array Slot} {I : TI} {J : TJ} {v1 : Int32} {v2 : Int64} {v4 : Int32}, MB D cI cJ cZ ad s H locs I J → lv_has ls 6 [(0, .ref (ad 0)), (1, .int v1), (2, .long v2), (4, .int v4)] → fX5_trim_55 n v1 v2 v4 I J = some z → W p l e (rmd 3) s m args below meth c H locs 0 0 (MQ below (gQi D (mw cI cJ cZ ad) (mt cI cJ cZ) (mL ad) s.heap.size z) args s 0 0 (gA (mL ad) s.heap.size)) (F0 m 55 ls []) := by
  intro n
  induction n with
  | zero =>
    intro H locs ls I J v1 v2 v4 hB  hl h
    have h : (none : Option (Int32 × SS)) = some z := h
    cases h
  | succ n ih =>
    intro H locs ls I J v1 v2 v4 hB  hl h
    replace h := (eX5_trim_55 n v1 v2 v4 I J).symm.trans h
    refine lv_iload C.hx C.hb dX5_trim_55 (lv_at hl 3 rfl) ?_
    refine lv_aload_n C.hx C.hb dX5_trim_57 rfl (lv_at hl 0 rfl) ?_
    refine mg_values C hB tw_557 dX5_trim_58 ?_
    refine lv_icmp_ge (tgt := 141) C.hx C.hb dX5_trim_61 (by decide) (fun c_8 => ?_) (fun c_8 => ?_)
    · replace h := (if_pos c_8).symm.trans h
      refine lv_aload_n C.hx C.hb dX5_trim_141 rfl (lv_at hl 0 rfl) ?_
      obtain ⟨q_9, I_9, J_9, hc_9, h⟩ := bnd_some h
      refine g_goi hB (g_runV C hB [] [] (cnX5_price l D cI cJ cZ ad H.size  hc_9) 0 rfl rfl tw_812 tw_702 tw_703 tw_38 tw_704 ⟨rfl, rfl⟩ hdX5_price ⟨Nat.le_of_ble_eq_true rfl, Nat.le_of_ble_eq_true rfl⟩ hl.1 rfl (Nat.le_of_ble_eq_true rfl) dX5_trim_142) (fun H locs hB => ?_)
      exact g_iret C hB h dX5_trim_145
    · replace h := (if_neg c_8).symm.trans h
      refine lv_aload_n C.hx C.hb dX5_trim_64 rfl (lv_at hl 0 rfl) ?_
      refine mg_kinds C hB tw_558 dX5_trim_65 ?_
      refine lv_iload C.hx C.hb dX5_trim_68 (lv_at hl 3 rfl) ?_
      obtain ⟨c_10, h⟩ := ite_ck h
      refine ma_kinds_ld C hB c_10 dX5_trim_70 ?_
      refine lv_iconst (v := (1 : Int32)) C.hx C.hb dX5_trim_71 (by decide) ?_
      refine lv_icmp_le (tgt := 79) C.hx C.hb dX5_trim_72 (by decide) (fun c_11 => ?_) (fun c_11 => ?_)
      · replace h := (if_pos c_11).symm.trans h
        refine lv_iconst (v := (0 : Int32)) C.hx C.hb dX5_trim_79 (by decide) ?_
        exact tX5_trim_80 C (ih) hB (lv_sub hl [0, 1, 2, 3] rfl) h
      · replace h := (if_neg c_11).symm.trans h
        refine lv_iconst (v := (1 : Int32)) C.hx C.hb dX5_trim_75 (by decide) ?_
        refine lv_goto (tgt := 80) C.hx C.hb dX5_trim_76 (by decide) ?_
        exact tX5_trim_80 C (ih) hB (lv_sub hl [0, 1, 2, 3] rfl) h
def fX5_trim  (v1 : Int32) (v2 : Int64) (I : TI) (J : TJ) : Option (Int32 × SS) :=
  bnd (fX5_isValue v1 I J) (fun q_1 I_1 J_1 =>
  if q_1 = 0 then
  some ((-2 : Int32), I_1, J_1)
  else
  if (0 : Int64) ≤ v2 then
  bnd (fX5_save_17 I_1 J_1) (fun q_4 I_4 J_4 =>
  bnd (fX5_setAll (16 : Int32) I_4 J_4) (fun q_5 I_5 J_5 =>
  bnd (fX5_bound v1 I_5 J_5) (fun q_6 I_6 J_6 =>
  if q_6 ≤ v2 then
  fX5_trim_55 fuel v1 v2 (0 : Int32) I_6 J_6
  else
  bnd (fX5_take_17 I_6 J_6) (fun q_17 I_17 J_17 =>
  some ((-5 : Int32), I_17, J_17)))))
  else
  some ((-2 : Int32), I_1, J_1))
set_option maxHeartbeats 4000000 in
set_option maxRecDepth 100000 in
theorem tX5_trim {p : Program} {l : Launch} {e : Env} {s : State} {m : MethodId} {args : Array Value} {below : List Frame} {meth : Method} {c : Code} (C : KX p s m args meth c "BitTunerModel" cX5_trim 6 (some .int)) {D : va_G} {cI cJ cZ : ClassId} {ad : Nat → Nat} {z : Int32 × SS}   {H : Heap} {locs : List Loc} {ls : Array Slot} {I : TI} {J : TJ} {v1 : Int32} {v2 : Int64} (hB : MB D cI cJ cZ ad s H locs I J)  (hl : lv_has ls 6 [(0, .ref (ad 0)), (1, .int v1), (2, .long v2)]) (h : fX5_trim v1 v2 I J = some z) : W p l e (rmd 3) s m args below meth c H locs 0 0 (MQ below (gQi D (mw cI cJ cZ ad) (mt cI cJ cZ) (mL ad) s.heap.size z) args s 0 0 (gA (mL ad) s.heap.size)) (F0 m 0 ls []) := by
  unfold fX5_trim at h
  refine lv_aload_n C.hx C.hb dX5_trim_0 rfl (lv_at hl 0 rfl) ?_
  refine lv_iload_n C.hx C.hb dX5_trim_1 rfl (lv_at hl 1 rfl) ?_
  obtain ⟨q_1, I_1, J_1, hc_1, h⟩ := bnd_some h
  refine g_goi hB (g_runV C hB [.int v1] [] (cnX5_isValue l D cI cJ cZ ad H.size  hc_1) 0 rfl rfl tw_642 tw_644 tw_15 tw_38 tw_645 ⟨rfl, rfl⟩ hdX5_isValue ⟨Nat.le_of_ble_eq_true rfl, Nat.le_of_ble_eq_true rfl⟩ hl.1 rfl (Nat.le_of_ble_eq_true rfl) dX5_trim_2) (fun H locs hB => ?_)
  refine lv_if_eq (tgt := 14) C.hx C.hb dX5_trim_5 (by decide) (fun c_2 => ?_) (fun c_2 => ?_)
  · replace h := (if_pos c_2).symm.trans h
    refine lv_bipush (v := (-2 : Int32)) C.hx C.hb dX5_trim_14 (by decide) ?_
    exact g_iret C hB h dX5_trim_16
  · replace h := (if_neg c_2).symm.trans h
    refine lv_lload_n C.hx C.hb dX5_trim_8 rfl (lv_at hl 2 rfl) ?_
    refine lv_lconst (v := (0 : Int64)) C.hx C.hb dX5_trim_9 (by decide) ?_
    refine g_lcmp_ge C (tgt := 17) dX5_trim_10 dX5_trim_11 (by decide) (fun c_3 => ?_) (fun c_3 => ?_)
    · replace h := (if_pos c_3).symm.trans h
      refine lv_aload_n C.hx C.hb dX5_trim_17 rfl (lv_at hl 0 rfl) ?_
      refine lv_aload_n C.hx C.hb dX5_trim_18 rfl (lv_at hl 0 rfl) ?_
      refine mg_were C hB tw_574 dX5_trim_19 ?_
      obtain ⟨q_4, I_4, J_4, hc_4, h⟩ := bnd_some h
      refine g_gov hB (g_runV C hB [.ref (ad 17)] [] (cnX5_save_17 l D cI cJ cZ ad H.size  hc_4) 0 rfl rfl tw_804 tw_806 tw_27 tw_38 tw_807 ⟨rfl, rfl⟩ hdX5_save ⟨Nat.le_of_ble_eq_true rfl, Nat.le_of_ble_eq_true rfl⟩ hl.1 rfl (Nat.le_of_ble_eq_true rfl) dX5_trim_22) (fun H locs hB => ?_)
      refine lv_aload_n C.hx C.hb dX5_trim_25 rfl (lv_at hl 0 rfl) ?_
      refine lv_bipush (v := (16 : Int32)) C.hx C.hb dX5_trim_26 (by decide) ?_
      obtain ⟨q_5, I_5, J_5, hc_5, h⟩ := bnd_some h
      refine g_gov hB (g_runV C hB [.int (16 : Int32)] [] (cnX5_setAll l D cI cJ cZ ad H.size  hc_5) 0 rfl rfl tw_808 tw_810 tw_28 tw_38 tw_811 ⟨rfl, rfl⟩ hdX5_setAll ⟨Nat.le_of_ble_eq_true rfl, Nat.le_of_ble_eq_true rfl⟩ hl.1 rfl (Nat.le_of_ble_eq_true rfl) dX5_trim_28) (fun H locs hB => ?_)
      refine lv_aload_n C.hx C.hb dX5_trim_31 rfl (lv_at hl 0 rfl) ?_
      refine lv_iload_n C.hx C.hb dX5_trim_32 rfl (lv_at hl 1 rfl) ?_
      obtain ⟨q_6, I_6, J_6, hc_6, h⟩ := bnd_some h
      refine g_gol hB (g_runV C hB [.int v1] [] (cnX5_bound l D cI cJ cZ ad H.size  hc_6) 0 rfl rfl tw_688 tw_690 tw_17 tw_38 tw_691 ⟨rfl, rfl⟩ hdX5_bound ⟨Nat.le_of_ble_eq_true rfl, Nat.le_of_ble_eq_true rfl⟩ hl.1 rfl (Nat.le_of_ble_eq_true rfl) dX5_trim_33) (fun H locs hB => ?_)
      refine lv_lload_n C.hx C.hb dX5_trim_36 rfl (lv_at hl 2 rfl) ?_
      refine g_lcmp_le C (tgt := 52) dX5_trim_37 dX5_trim_38 (by decide) (fun c_7 => ?_) (fun c_7 => ?_)
      · replace h := (if_pos c_7).symm.trans h
        refine lv_iconst (v := (0 : Int32)) C.hx C.hb dX5_trim_52 (by decide) ?_
        refine lv_istore (lv' := [(4, .int (0 : Int32)), (0, .ref (ad 0)), (1, .int v1), (2, .long v2)]) C.hx C.hb dX5_trim_53 hl (by decide) rfl (fun ls hl => ?_)
        exact tX5_trim_55 C  fuel hB (lv_sub hl [1, 2, 3, 0] rfl) h
      · replace h := (if_neg c_7).symm.trans h
        refine lv_aload_n C.hx C.hb dX5_trim_41 rfl (lv_at hl 0 rfl) ?_
        refine lv_aload_n C.hx C.hb dX5_trim_42 rfl (lv_at hl 0 rfl) ?_
        refine mg_were C hB tw_574 dX5_trim_43 ?_
        obtain ⟨q_17, I_17, J_17, hc_17, h⟩ := bnd_some h
        refine g_gov hB (g_runV C hB [.ref (ad 17)] [] (cnX5_take_17 l D cI cJ cZ ad H.size  hc_17) 0 rfl rfl tw_817 tw_819 tw_30 tw_38 tw_820 ⟨rfl, rfl⟩ hdX5_take ⟨Nat.le_of_ble_eq_true rfl, Nat.le_of_ble_eq_true rfl⟩ hl.1 rfl (Nat.le_of_ble_eq_true rfl) dX5_trim_46) (fun H locs hB => ?_)
        refine lv_bipush (v := (-5 : Int32)) C.hx C.hb dX5_trim_49 (by decide) ?_
        exact g_iret C hB h dX5_trim_51
    · replace h := (if_neg c_3).symm.trans h
      refine lv_bipush (v := (-2 : Int32)) C.hx C.hb dX5_trim_14 (by decide) ?_
      exact g_iret C hB h dX5_trim_16
set_option maxHeartbeats 4000000 in
set_option maxRecDepth 100000 in
theorem cnX5_trim (l : Launch) (D : va_G) (cI cJ cZ : ClassId) (ad : Nat → Nat) (sz : Nat) {v1 : Int32} {v2 : Int64} {I : TI} {J : TJ} {z : Int32 × SS}  (h : fX5_trim v1 v2 I J = some z) : Met l yX5_trim (wsm yX5_trim cX5_trim 6 (some .int)) (rmd 3) (va_Pc [.ref (ad 0), .int v1, .long v2] (gPre D (mw cI cJ cZ ad) (mt cI cJ cZ) sz I J)) (gQi D (mw cI cJ cZ ad) (mt cI cJ cZ) (mL ad) sz z) 0 0 (gA (mL ad) sz) :=
  g_met (by decide) mw_WL (fun p e s m below meth c hsz C hB ls hl => by subst hsz; exact tX5_trim C hB  hl h) (Nat.le_of_ble_eq_true rfl)
theorem hdX5_floor : yX5_floor.cls = "BitTunerModel" ∧ yX5_floor.cls ≠ "java/lang/invoke/MethodHandle" ∧ yX5_floor.cls ≠ "java/lang/invoke/VarHandle" ∧ (parseMethodDescriptor yX5_floor.desc).map (fun d => d.parameters.length) = some 1 := by decide +kernel
def fX5_floor  (v1 : Int32) (I : TI) (J : TJ) : Option (Int64 × SS) :=
  bnd (fX5_isValue v1 I J) (fun q_1 I_1 J_1 =>
  if q_1 = 0 then
  bnd (fX5_no (-2 : Int32) I_1 J_1) (fun q_7 I_7 J_7 =>
  some (q_7, I_7, J_7))
  else
  bnd (fX5_save_17 I_1 J_1) (fun q_3 I_3 J_3 =>
  bnd (fX5_setAll (16 : Int32) I_3 J_3) (fun q_4 I_4 J_4 =>
  bnd (fX5_bound v1 I_4 J_4) (fun q_5 I_5 J_5 =>
  bnd (fX5_take_17 I_5 J_5) (fun q_6 I_6 J_6 =>
  some (q_5, I_6, J_6))))))
set_option maxHeartbeats 4000000 in
set_option maxRecDepth 100000 in
theorem tX5_floor {p : Program} {l : Launch} {e : Env} {s : State} {m : MethodId} {args : Array Value} {below : List Frame} {meth : Method} {c : Code} (C : KX p s m args meth c "BitTunerModel" cX5_floor 4 (some .long)) {D : va_G} {cI cJ cZ : ClassId} {ad : Nat → Nat} {z : Int64 × SS}   {H : Heap} {locs : List Loc} {ls : Array Slot} {I : TI} {J : TJ} {v1 : Int32} (hB : MB D cI cJ cZ ad s H locs I J)  (hl : lv_has ls 4 [(0, .ref (ad 0)), (1, .int v1)]) (h : fX5_floor v1 I J = some z) : W p l e (rmd 3) s m args below meth c H locs 0 0 (MQ below (gQl D (mw cI cJ cZ ad) (mt cI cJ cZ) (mL ad) s.heap.size z) args s 0 0 (gA (mL ad) s.heap.size)) (F0 m 0 ls []) := by
  unfold fX5_floor at h
  refine lv_aload_n C.hx C.hb dX5_floor_0 rfl (lv_at hl 0 rfl) ?_
  refine lv_iload_n C.hx C.hb dX5_floor_1 rfl (lv_at hl 1 rfl) ?_
  obtain ⟨q_1, I_1, J_1, hc_1, h⟩ := bnd_some h
  refine g_goi hB (g_runV C hB [.int v1] [] (cnX5_isValue l D cI cJ cZ ad H.size  hc_1) 0 rfl rfl tw_642 tw_644 tw_15 tw_38 tw_645 ⟨rfl, rfl⟩ hdX5_isValue ⟨Nat.le_of_ble_eq_true rfl, Nat.le_of_ble_eq_true rfl⟩ hl.1 rfl (Nat.le_of_ble_eq_true rfl) dX5_floor_2) (fun H locs hB => ?_)
  refine lv_if_ne (tgt := 14) C.hx C.hb dX5_floor_5 (by decide) (fun c_2 => ?_) (fun c_2 => ?_)
  · replace h := (if_neg c_2).symm.trans h
    refine lv_aload_n C.hx C.hb dX5_floor_14 rfl (lv_at hl 0 rfl) ?_
    refine lv_aload_n C.hx C.hb dX5_floor_15 rfl (lv_at hl 0 rfl) ?_
    refine mg_were C hB tw_574 dX5_floor_16 ?_
    obtain ⟨q_3, I_3, J_3, hc_3, h⟩ := bnd_some h
    refine g_gov hB (g_runV C hB [.ref (ad 17)] [] (cnX5_save_17 l D cI cJ cZ ad H.size  hc_3) 0 rfl rfl tw_804 tw_806 tw_27 tw_38 tw_807 ⟨rfl, rfl⟩ hdX5_save ⟨Nat.le_of_ble_eq_true rfl, Nat.le_of_ble_eq_true rfl⟩ hl.1 rfl (Nat.le_of_ble_eq_true rfl) dX5_floor_19) (fun H locs hB => ?_)
    refine lv_aload_n C.hx C.hb dX5_floor_22 rfl (lv_at hl 0 rfl) ?_
    refine lv_bipush (v := (16 : Int32)) C.hx C.hb dX5_floor_23 (by decide) ?_
    obtain ⟨q_4, I_4, J_4, hc_4, h⟩ := bnd_some h
    refine g_gov hB (g_runV C hB [.int (16 : Int32)] [] (cnX5_setAll l D cI cJ cZ ad H.size  hc_4) 0 rfl rfl tw_808 tw_810 tw_28 tw_38 tw_811 ⟨rfl, rfl⟩ hdX5_setAll ⟨Nat.le_of_ble_eq_true rfl, Nat.le_of_ble_eq_true rfl⟩ hl.1 rfl (Nat.le_of_ble_eq_true rfl) dX5_floor_25) (fun H locs hB => ?_)
    refine lv_aload_n C.hx C.hb dX5_floor_28 rfl (lv_at hl 0 rfl) ?_
    refine lv_iload_n C.hx C.hb dX5_floor_29 rfl (lv_at hl 1 rfl) ?_
    obtain ⟨q_5, I_5, J_5, hc_5, h⟩ := bnd_some h
    refine g_gol hB (g_runV C hB [.int v1] [] (cnX5_bound l D cI cJ cZ ad H.size  hc_5) 0 rfl rfl tw_688 tw_690 tw_17 tw_38 tw_691 ⟨rfl, rfl⟩ hdX5_bound ⟨Nat.le_of_ble_eq_true rfl, Nat.le_of_ble_eq_true rfl⟩ hl.1 rfl (Nat.le_of_ble_eq_true rfl) dX5_floor_30) (fun H locs hB => ?_)
    refine lv_lstore_n (lv' := [(2, .long q_5), (0, .ref (ad 0)), (1, .int v1)]) C.hx C.hb dX5_floor_33 rfl hl (by decide) rfl (fun ls hl => ?_)
    refine lv_aload_n C.hx C.hb dX5_floor_34 rfl (lv_at hl 1 rfl) ?_
    refine lv_aload_n C.hx C.hb dX5_floor_35 rfl (lv_at hl 1 rfl) ?_
    refine mg_were C hB tw_574 dX5_floor_36 ?_
    obtain ⟨q_6, I_6, J_6, hc_6, h⟩ := bnd_some h
    refine g_gov hB (g_runV C hB [.ref (ad 17)] [] (cnX5_take_17 l D cI cJ cZ ad H.size  hc_6) 0 rfl rfl tw_817 tw_819 tw_30 tw_38 tw_820 ⟨rfl, rfl⟩ hdX5_take ⟨Nat.le_of_ble_eq_true rfl, Nat.le_of_ble_eq_true rfl⟩ hl.1 rfl (Nat.le_of_ble_eq_true rfl) dX5_floor_39) (fun H locs hB => ?_)
    refine lv_lload_n C.hx C.hb dX5_floor_42 rfl (lv_at hl 0 rfl) ?_
    exact g_lret C hB h dX5_floor_43
  · replace h := (if_pos c_2).symm.trans h
    refine lv_bipush (v := (-2 : Int32)) C.hx C.hb dX5_floor_8 (by decide) ?_
    obtain ⟨q_7, I_7, J_7, hc_7, h⟩ := bnd_some h
    refine g_gol hB (g_runS C hB [.int (-2 : Int32)] [] (cnX5_no l D cI cJ cZ ad H.size  hc_7) tw_684 tw_685 tw_38 tw_686 ⟨rfl, rfl⟩ hdX5_no ⟨Nat.le_of_ble_eq_true rfl, Nat.le_of_ble_eq_true rfl⟩ hl.1 rfl (Nat.le_of_ble_eq_true rfl) dX5_floor_10) (fun H locs hB => ?_)
    exact g_lret C hB h dX5_floor_13
set_option maxHeartbeats 4000000 in
set_option maxRecDepth 100000 in
theorem cnX5_floor (l : Launch) (D : va_G) (cI cJ cZ : ClassId) (ad : Nat → Nat) (sz : Nat) {v1 : Int32} {I : TI} {J : TJ} {z : Int64 × SS}  (h : fX5_floor v1 I J = some z) : Met l yX5_floor (wsm yX5_floor cX5_floor 4 (some .long)) (rmd 3) (va_Pc [.ref (ad 0), .int v1] (gPre D (mw cI cJ cZ ad) (mt cI cJ cZ) sz I J)) (gQl D (mw cI cJ cZ ad) (mt cI cJ cZ) (mL ad) sz z) 0 0 (gA (mL ad) sz) :=
  g_met (by decide) mw_WL (fun p e s m below meth c hsz C hB ls hl => by subst hsz; exact tX5_floor C hB  hl h) (Nat.le_of_ble_eq_true rfl)
theorem hdX5_gainOf : yX5_gainOf.cls = "BitTunerModel" ∧ yX5_gainOf.cls ≠ "java/lang/invoke/MethodHandle" ∧ yX5_gainOf.cls ≠ "java/lang/invoke/VarHandle" ∧ (parseMethodDescriptor yX5_gainOf.desc).map (fun d => d.parameters.length) = some 2 := by decide +kernel
def fX5_gainOf  (v1 : Int32) (v2 : Int32) (I : TI) (J : TJ) : Option (Int64 × SS) :=
  bnd (fX5_bound v1 I J) (fun q_1 I_1 J_1 =>
  if okx v2 then
  bnd (fX5_bound v1 (uI I_1 4 (v2.toNatClampNeg) (16 : Int32)) J_1) (fun q_3 I_3 J_3 =>
  some (q_1 - q_3, (uI I_3 4 (v2.toNatClampNeg) (I_1 4 v2.toNatClampNeg)), J_3))
  else none)
set_option maxHeartbeats 4000000 in
set_option maxRecDepth 100000 in
theorem tX5_gainOf {p : Program} {l : Launch} {e : Env} {s : State} {m : MethodId} {args : Array Value} {below : List Frame} {meth : Method} {c : Code} (C : KX p s m args meth c "BitTunerModel" cX5_gainOf 8 (some .long)) {D : va_G} {cI cJ cZ : ClassId} {ad : Nat → Nat} {z : Int64 × SS}   {H : Heap} {locs : List Loc} {ls : Array Slot} {I : TI} {J : TJ} {v1 : Int32} {v2 : Int32} (hB : MB D cI cJ cZ ad s H locs I J)  (hl : lv_has ls 8 [(0, .ref (ad 0)), (1, .int v1), (2, .int v2)]) (h : fX5_gainOf v1 v2 I J = some z) : W p l e (rmd 3) s m args below meth c H locs 0 0 (MQ below (gQl D (mw cI cJ cZ ad) (mt cI cJ cZ) (mL ad) s.heap.size z) args s 0 0 (gA (mL ad) s.heap.size)) (F0 m 0 ls []) := by
  unfold fX5_gainOf at h
  refine lv_aload_n C.hx C.hb dX5_gainOf_0 rfl (lv_at hl 0 rfl) ?_
  refine lv_iload_n C.hx C.hb dX5_gainOf_1 rfl (lv_at hl 1 rfl) ?_
  obtain ⟨q_1, I_1, J_1, hc_1, h⟩ := bnd_some h
  refine g_gol hB (g_runV C hB [.int v1] [] (cnX5_bound l D cI cJ cZ ad H.size  hc_1) 0 rfl rfl tw_688 tw_690 tw_17 tw_38 tw_691 ⟨rfl, rfl⟩ hdX5_bound ⟨Nat.le_of_ble_eq_true rfl, Nat.le_of_ble_eq_true rfl⟩ hl.1 rfl (Nat.le_of_ble_eq_true rfl) dX5_gainOf_2) (fun H locs hB => ?_)
  refine lv_lstore_n (lv' := [(3, .long q_1), (0, .ref (ad 0)), (1, .int v1), (2, .int v2)]) C.hx C.hb dX5_gainOf_5 rfl hl (by decide) rfl (fun ls hl => ?_)
  refine lv_aload_n C.hx C.hb dX5_gainOf_6 rfl (lv_at hl 1 rfl) ?_
  refine mg_bits C hB tw_564 dX5_gainOf_7 ?_
  refine lv_iload_n C.hx C.hb dX5_gainOf_10 rfl (lv_at hl 3 rfl) ?_
  obtain ⟨c_2, h⟩ := ite_ck h
  refine ma_bits_ld C hB c_2 dX5_gainOf_11 ?_
  refine lv_istore (lv' := [(5, .int (I_1 4 v2.toNatClampNeg)), (3, .long q_1), (0, .ref (ad 0)), (1, .int v1), (2, .int v2)]) C.hx C.hb dX5_gainOf_12 hl (by decide) rfl (fun ls hl => ?_)
  refine lv_aload_n C.hx C.hb dX5_gainOf_14 rfl (lv_at hl 2 rfl) ?_
  refine mg_bits C hB tw_564 dX5_gainOf_15 ?_
  refine lv_iload_n C.hx C.hb dX5_gainOf_18 rfl (lv_at hl 4 rfl) ?_
  refine lv_bipush (v := (16 : Int32)) C.hx C.hb dX5_gainOf_19 (by decide) ?_
  refine ma_bits_st C hB c_2 dX5_gainOf_21 (fun H locs hB => ?_)
  refine lv_lload_n C.hx C.hb dX5_gainOf_22 rfl (lv_at hl 1 rfl) ?_
  refine lv_aload_n C.hx C.hb dX5_gainOf_23 rfl (lv_at hl 2 rfl) ?_
  refine lv_iload_n C.hx C.hb dX5_gainOf_24 rfl (lv_at hl 3 rfl) ?_
  obtain ⟨q_3, I_3, J_3, hc_3, h⟩ := bnd_some h
  refine g_gol hB (g_runV C hB [.int v1] [.long q_1] (cnX5_bound l D cI cJ cZ ad H.size  hc_3) 0 rfl rfl tw_688 tw_690 tw_17 tw_38 tw_691 ⟨rfl, rfl⟩ hdX5_bound ⟨Nat.le_of_ble_eq_true rfl, Nat.le_of_ble_eq_true rfl⟩ hl.1 rfl (Nat.le_of_ble_eq_true rfl) dX5_gainOf_25) (fun H locs hB => ?_)
  refine lv_lsub C.hx C.hb dX5_gainOf_28 ?_
  refine lv_lstore (lv' := [(6, .long (q_1 - q_3)), (5, .int (I_1 4 v2.toNatClampNeg)), (3, .long q_1), (0, .ref (ad 0)), (1, .int v1), (2, .int v2)]) C.hx C.hb dX5_gainOf_29 hl (by decide) rfl (fun ls hl => ?_)
  refine lv_aload_n C.hx C.hb dX5_gainOf_31 rfl (lv_at hl 3 rfl) ?_
  refine mg_bits C hB tw_564 dX5_gainOf_32 ?_
  refine lv_iload_n C.hx C.hb dX5_gainOf_35 rfl (lv_at hl 5 rfl) ?_
  refine lv_iload C.hx C.hb dX5_gainOf_36 (lv_at hl 1 rfl) ?_
  refine ma_bits_st C hB c_2 dX5_gainOf_38 (fun H locs hB => ?_)
  refine lv_lload C.hx C.hb dX5_gainOf_39 (lv_at hl 0 rfl) ?_
  exact g_lret C hB h dX5_gainOf_41
set_option maxHeartbeats 4000000 in
set_option maxRecDepth 100000 in
theorem cnX5_gainOf (l : Launch) (D : va_G) (cI cJ cZ : ClassId) (ad : Nat → Nat) (sz : Nat) {v1 : Int32} {v2 : Int32} {I : TI} {J : TJ} {z : Int64 × SS}  (h : fX5_gainOf v1 v2 I J = some z) : Met l yX5_gainOf (wsm yX5_gainOf cX5_gainOf 8 (some .long)) (rmd 3) (va_Pc [.ref (ad 0), .int v1, .int v2] (gPre D (mw cI cJ cZ ad) (mt cI cJ cZ) sz I J)) (gQl D (mw cI cJ cZ ad) (mt cI cJ cZ) (mL ad) sz z) 0 0 (gA (mL ad) sz) :=
  g_met (by decide) mw_WL (fun p e s m below meth c hsz C hB ls hl => by subst hsz; exact tX5_gainOf C hB  hl h) (Nat.le_of_ble_eq_true rfl)
theorem hdX5_gain : yX5_gain.cls = "BitTunerModel" ∧ yX5_gain.cls ≠ "java/lang/invoke/MethodHandle" ∧ yX5_gain.cls ≠ "java/lang/invoke/VarHandle" ∧ (parseMethodDescriptor yX5_gain.desc).map (fun d => d.parameters.length) = some 2 := by decide +kernel
def fX5_gain_25   (I : TI) (J : TJ) : Option (Int64 × SS) :=
  bnd (fX5_no (-2 : Int32) I J) (fun q_3 I_3 J_3 =>
  some (q_3, I_3, J_3))
set_option maxHeartbeats 4000000 in
set_option maxRecDepth 100000 in
theorem tX5_gain_25 {p : Program} {l : Launch} {e : Env} {s : State} {m : MethodId} {args : Array Value} {below : List Frame} {meth : Method} {c : Code} (C : KX p s m args meth c "BitTunerModel" cX5_gain 3 (some .long)) {D : va_G} {cI cJ cZ : ClassId} {ad : Nat → Nat} {z : Int64 × SS}   {H : Heap} {locs : List Loc} {ls : Array Slot} {I : TI} {J : TJ}  (hB : MB D cI cJ cZ ad s H locs I J)  (hl : lv_has ls 3 []) (h : fX5_gain_25 I J = some z) : W p l e (rmd 4) s m args below meth c H locs 0 0 (MQ below (gQl D (mw cI cJ cZ ad) (mt cI cJ cZ) (mL ad) s.heap.size z) args s 0 0 (gA (mL ad) s.heap.size)) (F0 m 25 ls []) := by
  unfold fX5_gain_25 at h
  refine lv_bipush (v := (-2 : Int32)) C.hx C.hb dX5_gain_25 (by decide) ?_
  obtain ⟨q_3, I_3, J_3, hc_3, h⟩ := bnd_some h
  refine g_gol hB (g_runS C hB [.int (-2 : Int32)] [] (cnX5_no l D cI cJ cZ ad H.size  hc_3) tw_684 tw_685 tw_38 tw_686 ⟨rfl, rfl⟩ hdX5_no ⟨Nat.le_of_ble_eq_true rfl, Nat.le_of_ble_eq_true rfl⟩ hl.1 rfl (Nat.le_of_ble_eq_true rfl) dX5_gain_27) (fun H locs hB => ?_)
  exact g_lret C hB h dX5_gain_30
def fX5_gain  (v1 : Int32) (v2 : Int32) (I : TI) (J : TJ) : Option (Int64 × SS) :=
  bnd (fX5_isValue v1 I J) (fun q_1 I_1 J_1 =>
  if q_1 = 0 then
  fX5_gain_25 I_1 J_1
  else
  bnd (fX5_isValue v2 I_1 J_1) (fun q_4 I_4 J_4 =>
  if q_4 = 0 then
  fX5_gain_25 I_4 J_4
  else
  bnd (fX5_gainOf v1 v2 I_4 J_4) (fun q_6 I_6 J_6 =>
  some (q_6, I_6, J_6))))
set_option maxHeartbeats 4000000 in
set_option maxRecDepth 100000 in
theorem tX5_gain {p : Program} {l : Launch} {e : Env} {s : State} {m : MethodId} {args : Array Value} {below : List Frame} {meth : Method} {c : Code} (C : KX p s m args meth c "BitTunerModel" cX5_gain 3 (some .long)) {D : va_G} {cI cJ cZ : ClassId} {ad : Nat → Nat} {z : Int64 × SS}   {H : Heap} {locs : List Loc} {ls : Array Slot} {I : TI} {J : TJ} {v1 : Int32} {v2 : Int32} (hB : MB D cI cJ cZ ad s H locs I J)  (hl : lv_has ls 3 [(0, .ref (ad 0)), (1, .int v1), (2, .int v2)]) (h : fX5_gain v1 v2 I J = some z) : W p l e (rmd 4) s m args below meth c H locs 0 0 (MQ below (gQl D (mw cI cJ cZ ad) (mt cI cJ cZ) (mL ad) s.heap.size z) args s 0 0 (gA (mL ad) s.heap.size)) (F0 m 0 ls []) := by
  unfold fX5_gain at h
  refine lv_aload_n C.hx C.hb dX5_gain_0 rfl (lv_at hl 0 rfl) ?_
  refine lv_iload_n C.hx C.hb dX5_gain_1 rfl (lv_at hl 1 rfl) ?_
  obtain ⟨q_1, I_1, J_1, hc_1, h⟩ := bnd_some h
  refine g_goi hB (g_runV C hB [.int v1] [] (cnX5_isValue l D cI cJ cZ ad H.size  hc_1) 0 rfl rfl tw_642 tw_644 tw_15 tw_38 tw_645 ⟨rfl, rfl⟩ hdX5_isValue ⟨Nat.le_of_ble_eq_true rfl, Nat.le_of_ble_eq_true rfl⟩ hl.1 rfl (Nat.le_of_ble_eq_true rfl) dX5_gain_2) (fun H locs hB => ?_)
  refine lv_if_eq (tgt := 25) C.hx C.hb dX5_gain_5 (by decide) (fun c_2 => ?_) (fun c_2 => ?_)
  · replace h := (if_pos c_2).symm.trans h
    exact tX5_gain_25 C  hB (lv_sub hl [] rfl) h
  · replace h := (if_neg c_2).symm.trans h
    refine lv_aload_n C.hx C.hb dX5_gain_8 rfl (lv_at hl 0 rfl) ?_
    refine lv_iload_n C.hx C.hb dX5_gain_9 rfl (lv_at hl 2 rfl) ?_
    obtain ⟨q_4, I_4, J_4, hc_4, h⟩ := bnd_some h
    refine g_goi hB (g_runV C hB [.int v2] [] (cnX5_isValue l D cI cJ cZ ad H.size  hc_4) 0 rfl rfl tw_642 tw_644 tw_15 tw_38 tw_645 ⟨rfl, rfl⟩ hdX5_isValue ⟨Nat.le_of_ble_eq_true rfl, Nat.le_of_ble_eq_true rfl⟩ hl.1 rfl (Nat.le_of_ble_eq_true rfl) dX5_gain_10) (fun H locs hB => ?_)
    refine lv_if_eq (tgt := 25) C.hx C.hb dX5_gain_13 (by decide) (fun c_5 => ?_) (fun c_5 => ?_)
    · replace h := (if_pos c_5).symm.trans h
      exact tX5_gain_25 C  hB (lv_sub hl [] rfl) h
    · replace h := (if_neg c_5).symm.trans h
      refine lv_aload_n C.hx C.hb dX5_gain_16 rfl (lv_at hl 0 rfl) ?_
      refine lv_iload_n C.hx C.hb dX5_gain_17 rfl (lv_at hl 1 rfl) ?_
      refine lv_iload_n C.hx C.hb dX5_gain_18 rfl (lv_at hl 2 rfl) ?_
      obtain ⟨q_6, I_6, J_6, hc_6, h⟩ := bnd_some h
      refine g_gol hB (g_runV C hB [.int v1, .int v2] [] (cnX5_gainOf l D cI cJ cZ ad H.size  hc_6) 0 rfl rfl tw_833 tw_835 tw_31 tw_38 tw_836 ⟨rfl, rfl⟩ hdX5_gainOf ⟨Nat.le_of_ble_eq_true rfl, Nat.le_of_ble_eq_true rfl⟩ hl.1 rfl (Nat.le_of_ble_eq_true rfl) dX5_gain_19) (fun H locs hB => ?_)
      refine lv_goto (tgt := 30) C.hx C.hb dX5_gain_22 (by decide) ?_
      exact g_lret C hB h dX5_gain_30
set_option maxHeartbeats 4000000 in
set_option maxRecDepth 100000 in
theorem cnX5_gain (l : Launch) (D : va_G) (cI cJ cZ : ClassId) (ad : Nat → Nat) (sz : Nat) {v1 : Int32} {v2 : Int32} {I : TI} {J : TJ} {z : Int64 × SS}  (h : fX5_gain v1 v2 I J = some z) : Met l yX5_gain (wsm yX5_gain cX5_gain 3 (some .long)) (rmd 4) (va_Pc [.ref (ad 0), .int v1, .int v2] (gPre D (mw cI cJ cZ ad) (mt cI cJ cZ) sz I J)) (gQl D (mw cI cJ cZ ad) (mt cI cJ cZ) (mL ad) sz z) 0 0 (gA (mL ad) sz) :=
  g_met (by decide) mw_WL (fun p e s m below meth c hsz C hB ls hl => by subst hsz; exact tX5_gain C hB  hl h) (Nat.le_of_ble_eq_true rfl)
theorem hdX5_blame : yX5_blame.cls = "BitTunerModel" ∧ yX5_blame.cls ≠ "java/lang/invoke/MethodHandle" ∧ yX5_blame.cls ≠ "java/lang/invoke/VarHandle" ∧ (parseMethodDescriptor yX5_blame.desc).map (fun d => d.parameters.length) = some 1 := by decide +kernel
def fX5_blame_49 (kf_18 : Int32 → Int32 → Int64 → Int32 → TI → TJ → Option (Int32 × SS)) (v1 : Int32) (v2 : Int32) (v3 : Int64) (v5 : Int32) (w0 : Int64) (I : TI) (J : TJ) : Option (Int32 × SS) :=
  if w0 ≤ v3 then
  kf_18 v1 v2 v3 (v5 + (1 : Int32)) I J
  else
  kf_18 v1 v5 w0 (v5 + (1 : Int32)) I J
set_option maxHeartbeats 4000000 in
set_option maxRecDepth 100000 in
theorem tX5_blame_49 {p : Program} {l : Launch} {e : Env} {s : State} {m : MethodId} {args : Array Value} {below : List Frame} {meth : Method} {c : Code} (C : KX p s m args meth c "BitTunerModel" cX5_blame 8 (some .int)) {D : va_G} {cI cJ cZ : ClassId} {ad : Nat → Nat} {z : Int32 × SS} {kf_18 : Int32 → Int32 → Int64 → Int32 → TI → TJ → Option (Int32 × SS)} (kt_18 : ∀ {H : Heap} {locs : List Loc} {ls : Array Slot} {I : TI} {J : TJ} {v1 : Int32} {v2 : Int32} {v3 : Int64} {v5 : Int32}, MB D cI cJ cZ ad s H locs I J → lv_has ls 8 [(0, .ref (ad 0)), (1, .int v1), (2, .int v2), (3, .long v3), (5, .int v5)] → kf_18 v1 v2 v3 v5 I J = some z → W p l e (rmd 4) s m args below meth c H locs 0 0 (MQ below (gQi D (mw cI cJ cZ ad) (mt cI cJ cZ) (mL ad) s.heap.size z) args s 0 0 (gA (mL ad) s.heap.size)) (F0 m 18 ls [])) {H : Heap} {locs : List Loc} {ls : Array Slot} {I : TI} {J : TJ} {v1 : Int32} {v2 : Int32} {v3 : Int64} {v5 : Int32} {w0 : Int64} (hB : MB D cI cJ cZ ad s H locs I J)  (hl : lv_has ls 8 [(0, .ref (ad 0)), (1, .int v1), (2, .int v2), (3, .long v3), (5, .int v5)]) (h : fX5_blame_49 kf_18 v1 v2 v3 v5 w0 I J = some z) : W p l e (rmd 4) s m args below meth c H locs 0 0 (MQ below (gQi D (mw cI cJ cZ ad) (mt cI cJ cZ) (mL ad) s.heap.size z) args s 0 0 (gA (mL ad) s.heap.size)) (F0 m 49 ls [.long w0]) := by
  unfold fX5_blame_49 at h
  refine lv_lstore (lv' := [(6, .long w0), (0, .ref (ad 0)), (1, .int v1), (2, .int v2), (3, .long v3), (5, .int v5)]) C.hx C.hb dX5_blame_49 hl (by decide) rfl (fun ls hl => ?_)
  refine lv_lload C.hx C.hb dX5_blame_51 (lv_at hl 0 rfl) ?_
  refine lv_lload_n C.hx C.hb dX5_blame_53 rfl (lv_at hl 4 rfl) ?_
  refine g_lcmp_le C (tgt := 64) dX5_blame_54 dX5_blame_55 (by decide) (fun c_6 => ?_) (fun c_6 => ?_)
  · replace h := (if_pos c_6).symm.trans h
    refine lv_iinc (v := v5 + (1 : Int32)) (lv' := [(5, .int (v5 + (1 : Int32))), (6, .long w0), (0, .ref (ad 0)), (1, .int v1), (2, .int v2), (3, .long v3)]) C.hx C.hb dX5_blame_64 hl (k := 5) rfl rfl (by decide) rfl (fun ls hl => ?_)
    refine lv_goto (tgt := 18) C.hx C.hb dX5_blame_67 (by decide) ?_
    exact kt_18 hB (lv_sub hl [2, 3, 4, 5, 0] rfl) h
  · replace h := (if_neg c_6).symm.trans h
    refine lv_lload C.hx C.hb dX5_blame_58 (lv_at hl 0 rfl) ?_
    refine lv_lstore_n (lv' := [(3, .long w0), (6, .long w0), (0, .ref (ad 0)), (1, .int v1), (2, .int v2), (5, .int v5)]) C.hx C.hb dX5_blame_60 rfl hl (by decide) rfl (fun ls hl => ?_)
    refine lv_iload C.hx C.hb dX5_blame_61 (lv_at hl 5 rfl) ?_
    refine lv_istore_n (lv' := [(2, .int v5), (3, .long w0), (6, .long w0), (0, .ref (ad 0)), (1, .int v1), (5, .int v5)]) C.hx C.hb dX5_blame_63 rfl hl (by decide) rfl (fun ls hl => ?_)
    refine lv_iinc (v := v5 + (1 : Int32)) (lv' := [(5, .int (v5 + (1 : Int32))), (2, .int v5), (3, .long w0), (6, .long w0), (0, .ref (ad 0)), (1, .int v1)]) C.hx C.hb dX5_blame_64 hl (k := 5) rfl rfl (by decide) rfl (fun ls hl => ?_)
    refine lv_goto (tgt := 18) C.hx C.hb dX5_blame_67 (by decide) ?_
    exact kt_18 hB (lv_sub hl [4, 5, 1, 2, 0] rfl) h
def fX5_blame_18  : Nat → Int32 → Int32 → Int64 → Int32 → TI → TJ → Option (Int32 × SS)
  | 0, _, _, _, _, _, _ => none
  | n + 1, v1, v2, v3, v5, I, J =>
    if (I 13 0) ≤ v5 then
    some (v2, I, J)
    else
    if okx v5 then
    if (I 0 v5.toNatClampNeg) ≤ (1 : Int32) then
    fX5_blame_49 (fX5_blame_18 n) v1 v2 v3 v5 (0 : Int64) I J
    else
    bnd (fX5_gainOf v1 v5 I J) (fun q_7 I_7 J_7 =>
    fX5_blame_49 (fX5_blame_18 n) v1 v2 v3 v5 q_7 I_7 J_7)
    else none
theorem eX5_blame_18  (n : Nat) (v1 : Int32) (v2 : Int32) (v3 : Int64) (v5 : Int32) (I : TI) (J : TJ) : fX5_blame_18 (n + 1) v1 v2 v3 v5 I J = (
    if (I 13 0) ≤ v5 then
    some (v2, I, J)
    else
    if okx v5 then
    if (I 0 v5.toNatClampNeg) ≤ (1 : Int32) then
    fX5_blame_49 (fX5_blame_18 n) v1 v2 v3 v5 (0 : Int64) I J
    else
    bnd (fX5_gainOf v1 v5 I J) (fun q_7 I_7 J_7 =>
    fX5_blame_49 (fX5_blame_18 n) v1 v2 v3 v5 q_7 I_7 J_7)
    else none) := rfl
set_option maxHeartbeats 4000000 in
set_option maxRecDepth 100000 in
theorem tX5_blame_18 {p : Program} {l : Launch} {e : Env} {s : State} {m : MethodId} {args : Array Value} {below : List Frame} {meth : Method} {c : Code} (C : KX p s m args meth c "BitTunerModel" cX5_blame 8 (some .int)) {D : va_G} {cI cJ cZ : ClassId} {ad : Nat → Nat} {z : Int32 × SS}   : ∀ (n : Nat), ∀ {H : Heap} {locs : List Loc} {ls : Array Slot} {I : TI} {J : TJ} {v1 : Int32} {v2 : Int32} {v3 : Int64} {v5 : Int32}, MB D cI cJ cZ ad s H locs I J → lv_has ls 8 [(0, .ref (ad 0)), (1, .int v1), (2, .int v2), (3, .long v3), (5, .int v5)] → fX5_blame_18 n v1 v2 v3 v5 I J = some z → W p l e (rmd 4) s m args below meth c H locs 0 0 (MQ below (gQi D (mw cI cJ cZ ad) (mt cI cJ cZ) (mL ad) s.heap.size z) args s 0 0 (gA (mL ad) s.heap.size)) (F0 m 18 ls []) := by
  intro n
  induction n with
  | zero =>
    intro H locs ls I J v1 v2 v3 v5 hB  hl h
    have h : (none : Option (Int32 × SS)) = some z := h
    cases h
  | succ n ih =>
    intro H locs ls I J v1 v2 v3 v5 hB  hl h
    replace h := (eX5_blame_18 n v1 v2 v3 v5 I J).symm.trans h
    refine lv_iload C.hx C.hb dX5_blame_18 (lv_at hl 4 rfl) ?_
    refine lv_aload_n C.hx C.hb dX5_blame_20 rfl (lv_at hl 0 rfl) ?_
    refine mg_values C hB tw_557 dX5_blame_21 ?_
    refine lv_icmp_ge (tgt := 70) C.hx C.hb dX5_blame_24 (by decide) (fun c_3 => ?_) (fun c_3 => ?_)
    · replace h := (if_pos c_3).symm.trans h
      refine lv_iload_n C.hx C.hb dX5_blame_70 rfl (lv_at hl 2 rfl) ?_
      exact g_iret C hB h dX5_blame_71
    · replace h := (if_neg c_3).symm.trans h
      refine lv_aload_n C.hx C.hb dX5_blame_27 rfl (lv_at hl 0 rfl) ?_
      refine mg_kinds C hB tw_558 dX5_blame_28 ?_
      refine lv_iload C.hx C.hb dX5_blame_31 (lv_at hl 4 rfl) ?_
      obtain ⟨c_4, h⟩ := ite_ck h
      refine ma_kinds_ld C hB c_4 dX5_blame_33 ?_
      refine lv_iconst (v := (1 : Int32)) C.hx C.hb dX5_blame_34 (by decide) ?_
      refine lv_icmp_le (tgt := 48) C.hx C.hb dX5_blame_35 (by decide) (fun c_5 => ?_) (fun c_5 => ?_)
      · replace h := (if_pos c_5).symm.trans h
        refine lv_lconst (v := (0 : Int64)) C.hx C.hb dX5_blame_48 (by decide) ?_
        exact tX5_blame_49 C (ih) hB (lv_sub hl [0, 1, 2, 3, 4] rfl) h
      · replace h := (if_neg c_5).symm.trans h
        refine lv_aload_n C.hx C.hb dX5_blame_38 rfl (lv_at hl 0 rfl) ?_
        refine lv_iload_n C.hx C.hb dX5_blame_39 rfl (lv_at hl 1 rfl) ?_
        refine lv_iload C.hx C.hb dX5_blame_40 (lv_at hl 4 rfl) ?_
        obtain ⟨q_7, I_7, J_7, hc_7, h⟩ := bnd_some h
        refine g_gol hB (g_runV C hB [.int v1, .int v5] [] (cnX5_gainOf l D cI cJ cZ ad H.size  hc_7) 0 rfl rfl tw_833 tw_835 tw_31 tw_38 tw_836 ⟨rfl, rfl⟩ hdX5_gainOf ⟨Nat.le_of_ble_eq_true rfl, Nat.le_of_ble_eq_true rfl⟩ hl.1 rfl (Nat.le_of_ble_eq_true rfl) dX5_blame_42) (fun H locs hB => ?_)
        refine lv_goto (tgt := 49) C.hx C.hb dX5_blame_45 (by decide) ?_
        exact tX5_blame_49 C (ih) hB (lv_sub hl [0, 1, 2, 3, 4] rfl) h
def fX5_blame  (v1 : Int32) (I : TI) (J : TJ) : Option (Int32 × SS) :=
  bnd (fX5_isValue v1 I J) (fun q_1 I_1 J_1 =>
  if q_1 = 0 then
  some ((-2 : Int32), I_1, J_1)
  else
  fX5_blame_18 fuel v1 (-1 : Int32) (0 : Int64) (0 : Int32) I_1 J_1)
set_option maxHeartbeats 4000000 in
set_option maxRecDepth 100000 in
theorem tX5_blame {p : Program} {l : Launch} {e : Env} {s : State} {m : MethodId} {args : Array Value} {below : List Frame} {meth : Method} {c : Code} (C : KX p s m args meth c "BitTunerModel" cX5_blame 8 (some .int)) {D : va_G} {cI cJ cZ : ClassId} {ad : Nat → Nat} {z : Int32 × SS}   {H : Heap} {locs : List Loc} {ls : Array Slot} {I : TI} {J : TJ} {v1 : Int32} (hB : MB D cI cJ cZ ad s H locs I J)  (hl : lv_has ls 8 [(0, .ref (ad 0)), (1, .int v1)]) (h : fX5_blame v1 I J = some z) : W p l e (rmd 4) s m args below meth c H locs 0 0 (MQ below (gQi D (mw cI cJ cZ ad) (mt cI cJ cZ) (mL ad) s.heap.size z) args s 0 0 (gA (mL ad) s.heap.size)) (F0 m 0 ls []) := by
  unfold fX5_blame at h
  refine lv_aload_n C.hx C.hb dX5_blame_0 rfl (lv_at hl 0 rfl) ?_
  refine lv_iload_n C.hx C.hb dX5_blame_1 rfl (lv_at hl 1 rfl) ?_
  obtain ⟨q_1, I_1, J_1, hc_1, h⟩ := bnd_some h
  refine g_goi hB (g_runV C hB [.int v1] [] (cnX5_isValue l D cI cJ cZ ad H.size  hc_1) 0 rfl rfl tw_642 tw_644 tw_15 tw_38 tw_645 ⟨rfl, rfl⟩ hdX5_isValue ⟨Nat.le_of_ble_eq_true rfl, Nat.le_of_ble_eq_true rfl⟩ hl.1 rfl (Nat.le_of_ble_eq_true rfl) dX5_blame_2) (fun H locs hB => ?_)
  refine lv_if_ne (tgt := 11) C.hx C.hb dX5_blame_5 (by decide) (fun c_2 => ?_) (fun c_2 => ?_)
  · replace h := (if_neg c_2).symm.trans h
    refine lv_iconst (v := (-1 : Int32)) C.hx C.hb dX5_blame_11 (by decide) ?_
    refine lv_istore_n (lv' := [(2, .int (-1 : Int32)), (0, .ref (ad 0)), (1, .int v1)]) C.hx C.hb dX5_blame_12 rfl hl (by decide) rfl (fun ls hl => ?_)
    refine lv_lconst (v := (0 : Int64)) C.hx C.hb dX5_blame_13 (by decide) ?_
    refine lv_lstore_n (lv' := [(3, .long (0 : Int64)), (2, .int (-1 : Int32)), (0, .ref (ad 0)), (1, .int v1)]) C.hx C.hb dX5_blame_14 rfl hl (by decide) rfl (fun ls hl => ?_)
    refine lv_iconst (v := (0 : Int32)) C.hx C.hb dX5_blame_15 (by decide) ?_
    refine lv_istore (lv' := [(5, .int (0 : Int32)), (3, .long (0 : Int64)), (2, .int (-1 : Int32)), (0, .ref (ad 0)), (1, .int v1)]) C.hx C.hb dX5_blame_16 hl (by decide) rfl (fun ls hl => ?_)
    exact tX5_blame_18 C  fuel hB (lv_sub hl [3, 4, 2, 1, 0] rfl) h
  · replace h := (if_pos c_2).symm.trans h
    refine lv_bipush (v := (-2 : Int32)) C.hx C.hb dX5_blame_8 (by decide) ?_
    exact g_iret C hB h dX5_blame_10
set_option maxHeartbeats 4000000 in
set_option maxRecDepth 100000 in
theorem cnX5_blame (l : Launch) (D : va_G) (cI cJ cZ : ClassId) (ad : Nat → Nat) (sz : Nat) {v1 : Int32} {I : TI} {J : TJ} {z : Int32 × SS}  (h : fX5_blame v1 I J = some z) : Met l yX5_blame (wsm yX5_blame cX5_blame 8 (some .int)) (rmd 4) (va_Pc [.ref (ad 0), .int v1] (gPre D (mw cI cJ cZ ad) (mt cI cJ cZ) sz I J)) (gQi D (mw cI cJ cZ ad) (mt cI cJ cZ) (mL ad) sz z) 0 0 (gA (mL ad) sz) :=
  g_met (by decide) mw_WL (fun p e s m below meth c hsz C hB ls hl => by subst hsz; exact tX5_blame C hB  hl h) (Nat.le_of_ble_eq_true rfl)
theorem hdX5_count : yX5_count.cls = "BitTunerModel" ∧ yX5_count.cls ≠ "java/lang/invoke/MethodHandle" ∧ yX5_count.cls ≠ "java/lang/invoke/VarHandle" ∧ (parseMethodDescriptor yX5_count.desc).map (fun d => d.parameters.length) = some 1 := by decide +kernel
def fX5_count_4  : Nat → Int32 → Int32 → Int32 → TI → TJ → Option (Int32 × SS)
  | 0, _, _, _, _, _ => none
  | n + 1, v1, v2, v3, I, J =>
    if (I 13 0) ≤ v3 then
    if v1 = 0 then
    some (I 13 0, I, J)
    else
    if v1 = 1 then
    some (v2, I, J)
    else
    if v1 = 2 then
    bnd (fX5_price I J) (fun q_5 I_5 J_5 =>
    some (q_5, I_5, J_5))
    else
    if v1 = 3 then
    bnd (fX5_works I J) (fun q_7 I_7 J_7 =>
    some (q_7, I_7, J_7))
    else
    some ((-2 : Int32), I, J)
    else
    if okx v3 then
    if (I 0 v3.toNatClampNeg) = 0 then
    fX5_count_4 n v1 (v2 + (1 : Int32)) (v3 + (1 : Int32)) I J
    else
    fX5_count_4 n v1 (v2 + (0 : Int32)) (v3 + (1 : Int32)) I J
    else none
theorem eX5_count_4  (n : Nat) (v1 : Int32) (v2 : Int32) (v3 : Int32) (I : TI) (J : TJ) : fX5_count_4 (n + 1) v1 v2 v3 I J = (
    if (I 13 0) ≤ v3 then
    if v1 = 0 then
    some (I 13 0, I, J)
    else
    if v1 = 1 then
    some (v2, I, J)
    else
    if v1 = 2 then
    bnd (fX5_price I J) (fun q_5 I_5 J_5 =>
    some (q_5, I_5, J_5))
    else
    if v1 = 3 then
    bnd (fX5_works I J) (fun q_7 I_7 J_7 =>
    some (q_7, I_7, J_7))
    else
    some ((-2 : Int32), I, J)
    else
    if okx v3 then
    if (I 0 v3.toNatClampNeg) = 0 then
    fX5_count_4 n v1 (v2 + (1 : Int32)) (v3 + (1 : Int32)) I J
    else
    fX5_count_4 n v1 (v2 + (0 : Int32)) (v3 + (1 : Int32)) I J
    else none) := rfl
set_option maxHeartbeats 4000000 in
set_option maxRecDepth 100000 in
theorem tX5_count_4 {p : Program} {l : Launch} {e : Env} {s : State} {m : MethodId} {args : Array Value} {below : List Frame} {meth : Method} {c : Code} (C : KX p s m args meth c "BitTunerModel" cX5_count 4 (some .int)) {D : va_G} {cI cJ cZ : ClassId} {ad : Nat → Nat} {z : Int32 × SS}   : ∀ (n : Nat), ∀ {H : Heap} {locs : List Loc} {ls : Array Slot} {I : TI} {J : TJ} {v1 : Int32} {v2 : Int32} {v3 : Int32}, MB D cI cJ cZ ad s H locs I J → lv_has ls 4 [(0, .ref (ad 0)), (1, .int v1), (2, .int v2), (3, .int v3)] → fX5_count_4 n v1 v2 v3 I J = some z → W p l e (rmd 1) s m args below meth c H locs 0 0 (MQ below (gQi D (mw cI cJ cZ ad) (mt cI cJ cZ) (mL ad) s.heap.size z) args s 0 0 (gA (mL ad) s.heap.size)) (F0 m 4 ls []) := by
  intro n
  induction n with
  | zero =>
    intro H locs ls I J v1 v2 v3 hB  hl h
    have h : (none : Option (Int32 × SS)) = some z := h
    cases h
  | succ n ih =>
    intro H locs ls I J v1 v2 v3 hB  hl h
    replace h := (eX5_count_4 n v1 v2 v3 I J).symm.trans h
    refine lv_iload_n C.hx C.hb dX5_count_4 rfl (lv_at hl 3 rfl) ?_
    refine lv_aload_n C.hx C.hb dX5_count_5 rfl (lv_at hl 0 rfl) ?_
    refine mg_values C hB tw_557 dX5_count_6 ?_
    refine lv_icmp_ge (tgt := 35) C.hx C.hb dX5_count_9 (by decide) (fun c_1 => ?_) (fun c_1 => ?_)
    · replace h := (if_pos c_1).symm.trans h
      refine lv_iload_n C.hx C.hb dX5_count_35 rfl (lv_at hl 1 rfl) ?_
      by_cases c_2 : v1 = 0
      · replace h := (if_pos c_2).symm.trans h
        refine lv_tableIn (x := v1) (tgt := 68) (off := 32) C.hx C.hb dX5_count_36 (by rw [c_2]; decide) (by rw [c_2]; decide) (by rw [c_2]; rfl) (by decide) ?_
        refine lv_aload_n C.hx C.hb dX5_count_68 rfl (lv_at hl 0 rfl) ?_
        refine mg_values C hB tw_557 dX5_count_69 ?_
        exact g_iret C hB h dX5_count_72
      · replace h := (if_neg c_2).symm.trans h
        by_cases c_3 : v1 = 1
        · replace h := (if_pos c_3).symm.trans h
          refine lv_tableIn (x := v1) (tgt := 73) (off := 37) C.hx C.hb dX5_count_36 (by rw [c_3]; decide) (by rw [c_3]; decide) (by rw [c_3]; rfl) (by decide) ?_
          refine lv_iload_n C.hx C.hb dX5_count_73 rfl (lv_at hl 2 rfl) ?_
          exact g_iret C hB h dX5_count_74
        · replace h := (if_neg c_3).symm.trans h
          by_cases c_4 : v1 = 2
          · replace h := (if_pos c_4).symm.trans h
            refine lv_tableIn (x := v1) (tgt := 75) (off := 39) C.hx C.hb dX5_count_36 (by rw [c_4]; decide) (by rw [c_4]; decide) (by rw [c_4]; rfl) (by decide) ?_
            refine lv_aload_n C.hx C.hb dX5_count_75 rfl (lv_at hl 0 rfl) ?_
            obtain ⟨q_5, I_5, J_5, hc_5, h⟩ := bnd_some h
            refine g_goi hB (g_runV C hB [] [] (cnX5_price l D cI cJ cZ ad H.size  hc_5) 0 rfl rfl tw_812 tw_702 tw_703 tw_38 tw_704 ⟨rfl, rfl⟩ hdX5_price ⟨Nat.le_of_ble_eq_true rfl, Nat.le_of_ble_eq_true rfl⟩ hl.1 rfl (Nat.le_of_ble_eq_true rfl) dX5_count_76) (fun H locs hB => ?_)
            exact g_iret C hB h dX5_count_79
          · replace h := (if_neg c_4).symm.trans h
            by_cases c_6 : v1 = 3
            · replace h := (if_pos c_6).symm.trans h
              refine lv_tableIn (x := v1) (tgt := 80) (off := 44) C.hx C.hb dX5_count_36 (by rw [c_6]; decide) (by rw [c_6]; decide) (by rw [c_6]; rfl) (by decide) ?_
              refine lv_aload_n C.hx C.hb dX5_count_80 rfl (lv_at hl 0 rfl) ?_
              obtain ⟨q_7, I_7, J_7, hc_7, h⟩ := bnd_some h
              refine g_goi hB (g_runV C hB [] [] (cnX5_works l D cI cJ cZ ad H.size  hc_7) 0 rfl rfl tw_800 tw_802 tw_26 tw_38 tw_803 ⟨rfl, rfl⟩ hdX5_works ⟨Nat.le_of_ble_eq_true rfl, Nat.le_of_ble_eq_true rfl⟩ hl.1 rfl (Nat.le_of_ble_eq_true rfl) dX5_count_81) (fun H locs hB => ?_)
              exact g_iret C hB h dX5_count_84
            · replace h := (if_neg c_6).symm.trans h
              refine lv_tableOut (x := v1) (tgt := 85) C.hx C.hb dX5_count_36 (by have z0 := ts_ne (k := 0) (0 : Int32) rfl c_2; have z1 := ts_ne (k := 1) (1 : Int32) rfl c_3; have z2 := ts_ne (k := 2) (2 : Int32) rfl c_4; have z3 := ts_ne (k := 3) (3 : Int32) rfl c_6; omega) (by decide) ?_
              refine lv_bipush (v := (-2 : Int32)) C.hx C.hb dX5_count_85 (by decide) ?_
              exact g_iret C hB h dX5_count_87
    · replace h := (if_neg c_1).symm.trans h
      refine lv_iload_n C.hx C.hb dX5_count_12 rfl (lv_at hl 2 rfl) ?_
      refine lv_aload_n C.hx C.hb dX5_count_13 rfl (lv_at hl 0 rfl) ?_
      refine mg_kinds C hB tw_558 dX5_count_14 ?_
      refine lv_iload_n C.hx C.hb dX5_count_17 rfl (lv_at hl 3 rfl) ?_
      obtain ⟨c_8, h⟩ := ite_ck h
      refine ma_kinds_ld C hB c_8 dX5_count_18 ?_
      refine lv_if_ne (tgt := 26) C.hx C.hb dX5_count_19 (by decide) (fun c_9 => ?_) (fun c_9 => ?_)
      · replace h := (if_neg c_9).symm.trans h
        refine lv_iconst (v := (0 : Int32)) C.hx C.hb dX5_count_26 (by decide) ?_
        refine lv_iadd C.hx C.hb dX5_count_27 ?_
        refine lv_istore_n (lv' := [(2, .int (v2 + (0 : Int32))), (0, .ref (ad 0)), (1, .int v1), (3, .int v3)]) C.hx C.hb dX5_count_28 rfl hl (by decide) rfl (fun ls hl => ?_)
        refine lv_iinc (v := v3 + (1 : Int32)) (lv' := [(3, .int (v3 + (1 : Int32))), (2, .int (v2 + (0 : Int32))), (0, .ref (ad 0)), (1, .int v1)]) C.hx C.hb dX5_count_29 hl (k := 3) rfl rfl (by decide) rfl (fun ls hl => ?_)
        refine lv_goto (tgt := 4) C.hx C.hb dX5_count_32 (by decide) ?_
        exact ih hB (lv_sub hl [2, 3, 1, 0] rfl) h
      · replace h := (if_pos c_9).symm.trans h
        refine lv_iconst (v := (1 : Int32)) C.hx C.hb dX5_count_22 (by decide) ?_
        refine lv_goto (tgt := 27) C.hx C.hb dX5_count_23 (by decide) ?_
        refine lv_iadd C.hx C.hb dX5_count_27 ?_
        refine lv_istore_n (lv' := [(2, .int (v2 + (1 : Int32))), (0, .ref (ad 0)), (1, .int v1), (3, .int v3)]) C.hx C.hb dX5_count_28 rfl hl (by decide) rfl (fun ls hl => ?_)
        refine lv_iinc (v := v3 + (1 : Int32)) (lv' := [(3, .int (v3 + (1 : Int32))), (2, .int (v2 + (1 : Int32))), (0, .ref (ad 0)), (1, .int v1)]) C.hx C.hb dX5_count_29 hl (k := 3) rfl rfl (by decide) rfl (fun ls hl => ?_)
        refine lv_goto (tgt := 4) C.hx C.hb dX5_count_32 (by decide) ?_
        exact ih hB (lv_sub hl [2, 3, 1, 0] rfl) h
def fX5_count  (v1 : Int32) (I : TI) (J : TJ) : Option (Int32 × SS) :=
  fX5_count_4 fuel v1 (0 : Int32) (0 : Int32) I J
set_option maxHeartbeats 4000000 in
set_option maxRecDepth 100000 in
theorem tX5_count {p : Program} {l : Launch} {e : Env} {s : State} {m : MethodId} {args : Array Value} {below : List Frame} {meth : Method} {c : Code} (C : KX p s m args meth c "BitTunerModel" cX5_count 4 (some .int)) {D : va_G} {cI cJ cZ : ClassId} {ad : Nat → Nat} {z : Int32 × SS}   {H : Heap} {locs : List Loc} {ls : Array Slot} {I : TI} {J : TJ} {v1 : Int32} (hB : MB D cI cJ cZ ad s H locs I J)  (hl : lv_has ls 4 [(0, .ref (ad 0)), (1, .int v1)]) (h : fX5_count v1 I J = some z) : W p l e (rmd 1) s m args below meth c H locs 0 0 (MQ below (gQi D (mw cI cJ cZ ad) (mt cI cJ cZ) (mL ad) s.heap.size z) args s 0 0 (gA (mL ad) s.heap.size)) (F0 m 0 ls []) := by
  unfold fX5_count at h
  refine lv_iconst (v := (0 : Int32)) C.hx C.hb dX5_count_0 (by decide) ?_
  refine lv_istore_n (lv' := [(2, .int (0 : Int32)), (0, .ref (ad 0)), (1, .int v1)]) C.hx C.hb dX5_count_1 rfl hl (by decide) rfl (fun ls hl => ?_)
  refine lv_iconst (v := (0 : Int32)) C.hx C.hb dX5_count_2 (by decide) ?_
  refine lv_istore_n (lv' := [(3, .int (0 : Int32)), (2, .int (0 : Int32)), (0, .ref (ad 0)), (1, .int v1)]) C.hx C.hb dX5_count_3 rfl hl (by decide) rfl (fun ls hl => ?_)
  exact tX5_count_4 C  fuel hB (lv_sub hl [2, 3, 1, 0] rfl) h
set_option maxHeartbeats 4000000 in
set_option maxRecDepth 100000 in
theorem cnX5_count (l : Launch) (D : va_G) (cI cJ cZ : ClassId) (ad : Nat → Nat) (sz : Nat) {v1 : Int32} {I : TI} {J : TJ} {z : Int32 × SS}  (h : fX5_count v1 I J = some z) : Met l yX5_count (wsm yX5_count cX5_count 4 (some .int)) (rmd 1) (va_Pc [.ref (ad 0), .int v1] (gPre D (mw cI cJ cZ ad) (mt cI cJ cZ) sz I J)) (gQi D (mw cI cJ cZ ad) (mt cI cJ cZ) (mL ad) sz z) 0 0 (gA (mL ad) sz) :=
  g_met (by decide) mw_WL (fun p e s m below meth c hsz C hB ls hl => by subst hsz; exact tX5_count C hB  hl h) (Nat.le_of_ble_eq_true rfl)
theorem hdX5_digest : yX5_digest.cls = "BitTunerModel" ∧ yX5_digest.cls ≠ "java/lang/invoke/MethodHandle" ∧ yX5_digest.cls ≠ "java/lang/invoke/VarHandle" ∧ (parseMethodDescriptor yX5_digest.desc).map (fun d => d.parameters.length) = some 0 := by decide +kernel
def fX5_digest_43 (kf_32 : Int64 → Int32 → TI → TJ → Option (Int64 × SS)) : Nat → Int64 → Int32 → Int32 → TI → TJ → Option (Int64 × SS)
  | 0, _, _, _, _, _ => none
  | n + 1, v1, v3, v4, I, J =>
    if (10 : Int32) ≤ v4 then
    bnd (fX5_exact v3 I J) (fun q_4 I_4 J_4 =>
    bnd (fX5_tuned v3 I_4 J_4) (fun q_5 I_5 J_5 =>
    kf_32 (((31 : Int64) * (((31 : Int64) * v1) + q_4)) + q_5) (v3 + (1 : Int32)) I_5 J_5))
    else
    bnd (fX5_about v3 v4 I J) (fun q_6 I_6 J_6 =>
    fX5_digest_43 kf_32 n (((31 : Int64) * v1) + q_6) v3 (v4 + (1 : Int32)) I_6 J_6)
theorem eX5_digest_43 (kf_32 : Int64 → Int32 → TI → TJ → Option (Int64 × SS)) (n : Nat) (v1 : Int64) (v3 : Int32) (v4 : Int32) (I : TI) (J : TJ) : fX5_digest_43 kf_32 (n + 1) v1 v3 v4 I J = (
    if (10 : Int32) ≤ v4 then
    bnd (fX5_exact v3 I J) (fun q_4 I_4 J_4 =>
    bnd (fX5_tuned v3 I_4 J_4) (fun q_5 I_5 J_5 =>
    kf_32 (((31 : Int64) * (((31 : Int64) * v1) + q_4)) + q_5) (v3 + (1 : Int32)) I_5 J_5))
    else
    bnd (fX5_about v3 v4 I J) (fun q_6 I_6 J_6 =>
    fX5_digest_43 kf_32 n (((31 : Int64) * v1) + q_6) v3 (v4 + (1 : Int32)) I_6 J_6)) := rfl
set_option maxHeartbeats 4000000 in
set_option maxRecDepth 100000 in
theorem tX5_digest_43 {p : Program} {l : Launch} {e : Env} {s : State} {m : MethodId} {args : Array Value} {below : List Frame} {meth : Method} {c : Code} (C : KX p s m args meth c "BitTunerModel" cX5_digest 5 (some .long)) {D : va_G} {cI cJ cZ : ClassId} {ad : Nat → Nat} {z : Int64 × SS} {kf_32 : Int64 → Int32 → TI → TJ → Option (Int64 × SS)} (kt_32 : ∀ {H : Heap} {locs : List Loc} {ls : Array Slot} {I : TI} {J : TJ} {v1 : Int64} {v3 : Int32}, MB D cI cJ cZ ad s H locs I J → lv_has ls 5 [(0, .ref (ad 0)), (1, .long v1), (3, .int v3)] → kf_32 v1 v3 I J = some z → W p l e (rmd 4) s m args below meth c H locs 0 0 (MQ below (gQl D (mw cI cJ cZ ad) (mt cI cJ cZ) (mL ad) s.heap.size z) args s 0 0 (gA (mL ad) s.heap.size)) (F0 m 32 ls [])) : ∀ (n : Nat), ∀ {H : Heap} {locs : List Loc} {ls : Array Slot} {I : TI} {J : TJ} {v1 : Int64} {v3 : Int32} {v4 : Int32}, MB D cI cJ cZ ad s H locs I J → lv_has ls 5 [(0, .ref (ad 0)), (1, .long v1), (3, .int v3), (4, .int v4)] → fX5_digest_43 kf_32 n v1 v3 v4 I J = some z → W p l e (rmd 4) s m args below meth c H locs 0 0 (MQ below (gQl D (mw cI cJ cZ ad) (mt cI cJ cZ) (mL ad) s.heap.size z) args s 0 0 (gA (mL ad) s.heap.size)) (F0 m 43 ls []) := by
  intro n
  induction n with
  | zero =>
    intro H locs ls I J v1 v3 v4 hB  hl h
    have h : (none : Option (Int64 × SS)) = some z := h
    cases h
  | succ n ih =>
    intro H locs ls I J v1 v3 v4 hB  hl h
    replace h := (eX5_digest_43 kf_32 n v1 v3 v4 I J).symm.trans h
    refine lv_iload C.hx C.hb dX5_digest_43 (lv_at hl 3 rfl) ?_
    refine lv_bipush (v := (10 : Int32)) C.hx C.hb dX5_digest_45 (by decide) ?_
    refine lv_icmp_ge (tgt := 70) C.hx C.hb dX5_digest_47 (by decide) (fun c_3 => ?_) (fun c_3 => ?_)
    · replace h := (if_pos c_3).symm.trans h
      refine lv_ldc2 C.hx C.hb C.hown (C.hts _ tw_850) dX5_digest_70 ?_
      refine lv_lload_n C.hx C.hb dX5_digest_73 rfl (lv_at hl 1 rfl) ?_
      refine lv_lmul C.hx C.hb dX5_digest_74 ?_
      refine lv_aload_n C.hx C.hb dX5_digest_75 rfl (lv_at hl 0 rfl) ?_
      refine lv_iload_n C.hx C.hb dX5_digest_76 rfl (lv_at hl 2 rfl) ?_
      obtain ⟨q_4, I_4, J_4, hc_4, h⟩ := bnd_some h
      refine g_gol hB (g_runV C hB [.int v3] [.long ((31 : Int64) * v1)] (cnX5_exact l D cI cJ cZ ad H.size  hc_4) 0 rfl rfl tw_853 tw_726 tw_727 tw_38 tw_728 ⟨rfl, rfl⟩ hdX5_exact ⟨Nat.le_of_ble_eq_true rfl, Nat.le_of_ble_eq_true rfl⟩ hl.1 rfl (Nat.le_of_ble_eq_true rfl) dX5_digest_77) (fun H locs hB => ?_)
      refine lv_ladd C.hx C.hb dX5_digest_80 ?_
      refine lv_lstore_n (lv' := [(1, .long (((31 : Int64) * v1) + q_4)), (0, .ref (ad 0)), (3, .int v3), (4, .int v4)]) C.hx C.hb dX5_digest_81 rfl hl (by decide) rfl (fun ls hl => ?_)
      refine lv_ldc2 C.hx C.hb C.hown (C.hts _ tw_850) dX5_digest_82 ?_
      refine lv_lload_n C.hx C.hb dX5_digest_85 rfl (lv_at hl 0 rfl) ?_
      refine lv_lmul C.hx C.hb dX5_digest_86 ?_
      refine lv_aload_n C.hx C.hb dX5_digest_87 rfl (lv_at hl 1 rfl) ?_
      refine lv_iload_n C.hx C.hb dX5_digest_88 rfl (lv_at hl 2 rfl) ?_
      obtain ⟨q_5, I_5, J_5, hc_5, h⟩ := bnd_some h
      refine g_gol hB (g_runV C hB [.int v3] [.long ((31 : Int64) * (((31 : Int64) * v1) + q_4))] (cnX5_tuned l D cI cJ cZ ad H.size  hc_5) 0 rfl rfl tw_854 tw_745 tw_746 tw_38 tw_747 ⟨rfl, rfl⟩ hdX5_tuned ⟨Nat.le_of_ble_eq_true rfl, Nat.le_of_ble_eq_true rfl⟩ hl.1 rfl (Nat.le_of_ble_eq_true rfl) dX5_digest_89) (fun H locs hB => ?_)
      refine lv_ladd C.hx C.hb dX5_digest_92 ?_
      refine lv_lstore_n (lv' := [(1, .long (((31 : Int64) * (((31 : Int64) * v1) + q_4)) + q_5)), (0, .ref (ad 0)), (3, .int v3), (4, .int v4)]) C.hx C.hb dX5_digest_93 rfl hl (by decide) rfl (fun ls hl => ?_)
      refine lv_iinc (v := v3 + (1 : Int32)) (lv' := [(3, .int (v3 + (1 : Int32))), (1, .long (((31 : Int64) * (((31 : Int64) * v1) + q_4)) + q_5)), (0, .ref (ad 0)), (4, .int v4)]) C.hx C.hb dX5_digest_94 hl (k := 2) rfl rfl (by decide) rfl (fun ls hl => ?_)
      refine lv_goto (tgt := 32) C.hx C.hb dX5_digest_97 (by decide) ?_
      exact kt_32 hB (lv_sub hl [2, 1, 0] rfl) h
    · replace h := (if_neg c_3).symm.trans h
      refine lv_ldc2 C.hx C.hb C.hown (C.hts _ tw_850) dX5_digest_50 ?_
      refine lv_lload_n C.hx C.hb dX5_digest_53 rfl (lv_at hl 1 rfl) ?_
      refine lv_lmul C.hx C.hb dX5_digest_54 ?_
      refine lv_aload_n C.hx C.hb dX5_digest_55 rfl (lv_at hl 0 rfl) ?_
      refine lv_iload_n C.hx C.hb dX5_digest_56 rfl (lv_at hl 2 rfl) ?_
      refine lv_iload C.hx C.hb dX5_digest_57 (lv_at hl 3 rfl) ?_
      obtain ⟨q_6, I_6, J_6, hc_6, h⟩ := bnd_some h
      refine g_gol hB (g_runV C hB [.int v3, .int v4] [.long ((31 : Int64) * v1)] (cnX5_about l D cI cJ cZ ad H.size  hc_6) 0 rfl rfl tw_852 tw_681 tw_682 tw_38 tw_683 ⟨rfl, rfl⟩ hdX5_about ⟨Nat.le_of_ble_eq_true rfl, Nat.le_of_ble_eq_true rfl⟩ hl.1 rfl (Nat.le_of_ble_eq_true rfl) dX5_digest_59) (fun H locs hB => ?_)
      refine lv_ladd C.hx C.hb dX5_digest_62 ?_
      refine lv_lstore_n (lv' := [(1, .long (((31 : Int64) * v1) + q_6)), (0, .ref (ad 0)), (3, .int v3), (4, .int v4)]) C.hx C.hb dX5_digest_63 rfl hl (by decide) rfl (fun ls hl => ?_)
      refine lv_iinc (v := v4 + (1 : Int32)) (lv' := [(4, .int (v4 + (1 : Int32))), (1, .long (((31 : Int64) * v1) + q_6)), (0, .ref (ad 0)), (3, .int v3)]) C.hx C.hb dX5_digest_64 hl (k := 3) rfl rfl (by decide) rfl (fun ls hl => ?_)
      refine lv_goto (tgt := 43) C.hx C.hb dX5_digest_67 (by decide) ?_
      exact ih hB (lv_sub hl [2, 1, 3, 0] rfl) h
def fX5_digest_32  : Nat → Int64 → Int32 → TI → TJ → Option (Int64 × SS)
  | 0, _, _, _, _ => none
  | n + 1, v1, v3, I, J =>
    if (I 13 0) ≤ v3 then
    some (v1, I, J)
    else
    fX5_digest_43 (fX5_digest_32 n) fuel v1 v3 (0 : Int32) I J
theorem eX5_digest_32  (n : Nat) (v1 : Int64) (v3 : Int32) (I : TI) (J : TJ) : fX5_digest_32 (n + 1) v1 v3 I J = (
    if (I 13 0) ≤ v3 then
    some (v1, I, J)
    else
    fX5_digest_43 (fX5_digest_32 n) fuel v1 v3 (0 : Int32) I J) := rfl
set_option maxHeartbeats 4000000 in
set_option maxRecDepth 100000 in
theorem tX5_digest_32 {p : Program} {l : Launch} {e : Env} {s : State} {m : MethodId} {args : Array Value} {below : List Frame} {meth : Method} {c : Code} (C : KX p s m args meth c "BitTunerModel" cX5_digest 5 (some .long)) {D : va_G} {cI cJ cZ : ClassId} {ad : Nat → Nat} {z : Int64 × SS}   : ∀ (n : Nat), ∀ {H : Heap} {locs : List Loc} {ls : Array Slot} {I : TI} {J : TJ} {v1 : Int64} {v3 : Int32}, MB D cI cJ cZ ad s H locs I J → lv_has ls 5 [(0, .ref (ad 0)), (1, .long v1), (3, .int v3)] → fX5_digest_32 n v1 v3 I J = some z → W p l e (rmd 4) s m args below meth c H locs 0 0 (MQ below (gQl D (mw cI cJ cZ ad) (mt cI cJ cZ) (mL ad) s.heap.size z) args s 0 0 (gA (mL ad) s.heap.size)) (F0 m 32 ls []) := by
  intro n
  induction n with
  | zero =>
    intro H locs ls I J v1 v3 hB  hl h
    have h : (none : Option (Int64 × SS)) = some z := h
    cases h
  | succ n ih =>
    intro H locs ls I J v1 v3 hB  hl h
    replace h := (eX5_digest_32 n v1 v3 I J).symm.trans h
    refine lv_iload_n C.hx C.hb dX5_digest_32 rfl (lv_at hl 2 rfl) ?_
    refine lv_aload_n C.hx C.hb dX5_digest_33 rfl (lv_at hl 0 rfl) ?_
    refine mg_values C hB tw_557 dX5_digest_34 ?_
    refine lv_icmp_ge (tgt := 100) C.hx C.hb dX5_digest_37 (by decide) (fun c_2 => ?_) (fun c_2 => ?_)
    · replace h := (if_pos c_2).symm.trans h
      refine lv_lload_n C.hx C.hb dX5_digest_100 rfl (lv_at hl 1 rfl) ?_
      exact g_lret C hB h dX5_digest_101
    · replace h := (if_neg c_2).symm.trans h
      refine lv_iconst (v := (0 : Int32)) C.hx C.hb dX5_digest_40 (by decide) ?_
      refine lv_istore (lv' := [(4, .int (0 : Int32)), (0, .ref (ad 0)), (1, .long v1), (3, .int v3)]) C.hx C.hb dX5_digest_41 hl (by decide) rfl (fun ls hl => ?_)
      exact tX5_digest_43 C (ih) fuel hB (lv_sub hl [1, 2, 3, 0] rfl) h
def fX5_digest_6  : Nat → Int64 → Int32 → TI → TJ → Option (Int64 × SS)
  | 0, _, _, _, _ => none
  | n + 1, v1, v3, I, J =>
    if (4 : Int32) ≤ v3 then
    fX5_digest_32 fuel v1 (0 : Int32) I J
    else
    bnd (fX5_count v3 I J) (fun q_7 I_7 J_7 =>
    fX5_digest_6 n (((31 : Int64) * v1) + q_7.toInt64) (v3 + (1 : Int32)) I_7 J_7)
theorem eX5_digest_6  (n : Nat) (v1 : Int64) (v3 : Int32) (I : TI) (J : TJ) : fX5_digest_6 (n + 1) v1 v3 I J = (
    if (4 : Int32) ≤ v3 then
    fX5_digest_32 fuel v1 (0 : Int32) I J
    else
    bnd (fX5_count v3 I J) (fun q_7 I_7 J_7 =>
    fX5_digest_6 n (((31 : Int64) * v1) + q_7.toInt64) (v3 + (1 : Int32)) I_7 J_7)) := rfl
set_option maxHeartbeats 4000000 in
set_option maxRecDepth 100000 in
theorem tX5_digest_6 {p : Program} {l : Launch} {e : Env} {s : State} {m : MethodId} {args : Array Value} {below : List Frame} {meth : Method} {c : Code} (C : KX p s m args meth c "BitTunerModel" cX5_digest 5 (some .long)) {D : va_G} {cI cJ cZ : ClassId} {ad : Nat → Nat} {z : Int64 × SS}   : ∀ (n : Nat), ∀ {H : Heap} {locs : List Loc} {ls : Array Slot} {I : TI} {J : TJ} {v1 : Int64} {v3 : Int32}, MB D cI cJ cZ ad s H locs I J → lv_has ls 5 [(0, .ref (ad 0)), (1, .long v1), (3, .int v3)] → fX5_digest_6 n v1 v3 I J = some z → W p l e (rmd 4) s m args below meth c H locs 0 0 (MQ below (gQl D (mw cI cJ cZ ad) (mt cI cJ cZ) (mL ad) s.heap.size z) args s 0 0 (gA (mL ad) s.heap.size)) (F0 m 6 ls []) := by
  intro n
  induction n with
  | zero =>
    intro H locs ls I J v1 v3 hB  hl h
    have h : (none : Option (Int64 × SS)) = some z := h
    cases h
  | succ n ih =>
    intro H locs ls I J v1 v3 hB  hl h
    replace h := (eX5_digest_6 n v1 v3 I J).symm.trans h
    refine lv_iload_n C.hx C.hb dX5_digest_6 rfl (lv_at hl 2 rfl) ?_
    refine lv_iconst (v := (4 : Int32)) C.hx C.hb dX5_digest_7 (by decide) ?_
    refine lv_icmp_ge (tgt := 30) C.hx C.hb dX5_digest_8 (by decide) (fun c_1 => ?_) (fun c_1 => ?_)
    · replace h := (if_pos c_1).symm.trans h
      refine lv_iconst (v := (0 : Int32)) C.hx C.hb dX5_digest_30 (by decide) ?_
      refine lv_istore_n (lv' := [(3, .int (0 : Int32)), (0, .ref (ad 0)), (1, .long v1)]) C.hx C.hb dX5_digest_31 rfl hl (by decide) rfl (fun ls hl => ?_)
      exact tX5_digest_32 C  fuel hB (lv_sub hl [1, 2, 0] rfl) h
    · replace h := (if_neg c_1).symm.trans h
      refine lv_ldc2 C.hx C.hb C.hown (C.hts _ tw_850) dX5_digest_11 ?_
      refine lv_lload_n C.hx C.hb dX5_digest_14 rfl (lv_at hl 1 rfl) ?_
      refine lv_lmul C.hx C.hb dX5_digest_15 ?_
      refine lv_aload_n C.hx C.hb dX5_digest_16 rfl (lv_at hl 0 rfl) ?_
      refine lv_iload_n C.hx C.hb dX5_digest_17 rfl (lv_at hl 2 rfl) ?_
      obtain ⟨q_7, I_7, J_7, hc_7, h⟩ := bnd_some h
      refine g_goi hB (g_runV C hB [.int v3] [.long ((31 : Int64) * v1)] (cnX5_count l D cI cJ cZ ad H.size  hc_7) 0 rfl rfl tw_851 tw_842 tw_843 tw_38 tw_844 ⟨rfl, rfl⟩ hdX5_count ⟨Nat.le_of_ble_eq_true rfl, Nat.le_of_ble_eq_true rfl⟩ hl.1 rfl (Nat.le_of_ble_eq_true rfl) dX5_digest_18) (fun H locs hB => ?_)
      refine lv_i2l C.hx C.hb dX5_digest_21 rfl ?_
      refine lv_ladd C.hx C.hb dX5_digest_22 ?_
      refine lv_lstore_n (lv' := [(1, .long (((31 : Int64) * v1) + q_7.toInt64)), (0, .ref (ad 0)), (3, .int v3)]) C.hx C.hb dX5_digest_23 rfl hl (by decide) rfl (fun ls hl => ?_)
      refine lv_iinc (v := v3 + (1 : Int32)) (lv' := [(3, .int (v3 + (1 : Int32))), (1, .long (((31 : Int64) * v1) + q_7.toInt64)), (0, .ref (ad 0))]) C.hx C.hb dX5_digest_24 hl (k := 2) rfl rfl (by decide) rfl (fun ls hl => ?_)
      refine lv_goto (tgt := 6) C.hx C.hb dX5_digest_27 (by decide) ?_
      exact ih hB (lv_sub hl [2, 1, 0] rfl) h
def fX5_digest   (I : TI) (J : TJ) : Option (Int64 × SS) :=
  fX5_digest_6 fuel (17 : Int64) (0 : Int32) I J
set_option maxHeartbeats 4000000 in
set_option maxRecDepth 100000 in
theorem tX5_digest {p : Program} {l : Launch} {e : Env} {s : State} {m : MethodId} {args : Array Value} {below : List Frame} {meth : Method} {c : Code} (C : KX p s m args meth c "BitTunerModel" cX5_digest 5 (some .long)) {D : va_G} {cI cJ cZ : ClassId} {ad : Nat → Nat} {z : Int64 × SS}   {H : Heap} {locs : List Loc} {ls : Array Slot} {I : TI} {J : TJ}  (hB : MB D cI cJ cZ ad s H locs I J)  (hl : lv_has ls 5 [(0, .ref (ad 0))]) (h : fX5_digest I J = some z) : W p l e (rmd 4) s m args below meth c H locs 0 0 (MQ below (gQl D (mw cI cJ cZ ad) (mt cI cJ cZ) (mL ad) s.heap.size z) args s 0 0 (gA (mL ad) s.heap.size)) (F0 m 0 ls []) := by
  unfold fX5_digest at h
  refine lv_ldc2 C.hx C.hb C.hown (C.hts _ tw_849) dX5_digest_0 ?_
  refine lv_lstore_n (lv' := [(1, .long (17 : Int64)), (0, .ref (ad 0))]) C.hx C.hb dX5_digest_3 rfl hl (by decide) rfl (fun ls hl => ?_)
  refine lv_iconst (v := (0 : Int32)) C.hx C.hb dX5_digest_4 (by decide) ?_
  refine lv_istore_n (lv' := [(3, .int (0 : Int32)), (1, .long (17 : Int64)), (0, .ref (ad 0))]) C.hx C.hb dX5_digest_5 rfl hl (by decide) rfl (fun ls hl => ?_)
  exact tX5_digest_6 C  fuel hB (lv_sub hl [2, 1, 0] rfl) h
set_option maxHeartbeats 4000000 in
set_option maxRecDepth 100000 in
theorem cnX5_digest (l : Launch) (D : va_G) (cI cJ cZ : ClassId) (ad : Nat → Nat) (sz : Nat)  {I : TI} {J : TJ} {z : Int64 × SS}  (h : fX5_digest I J = some z) : Met l yX5_digest (wsm yX5_digest cX5_digest 5 (some .long)) (rmd 4) (va_Pc [.ref (ad 0)] (gPre D (mw cI cJ cZ ad) (mt cI cJ cZ) sz I J)) (gQl D (mw cI cJ cZ ad) (mt cI cJ cZ) (mL ad) sz z) 0 0 (gA (mL ad) sz) :=
  g_met (by decide) mw_WL (fun p e s m below meth c hsz C hB ls hl => by subst hsz; exact tX5_digest C hB  hl h) (Nat.le_of_ble_eq_true rfl)
