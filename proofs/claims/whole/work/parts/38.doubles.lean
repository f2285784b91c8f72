/-! enter, leave, narrow -/
def c8 : UInt64 := 4593671619917905920
theorem mulV (k : Int32) {V : UInt64} (hV : FP.Core.val64 V ≠ .nan) : (FP.Core.zval FP.Core.b64 (FP.Core.val64 V) ≤ k.toInt * FP.Core.zval FP.Core.b64 (FP.Core.val64 c8) → FP.Core.zval FP.Core.b64 (FP.Core.val64 V) ≤ FP.Core.zval FP.Core.b64 (FP.Core.val64 (FP.dmul (FP.i2d k) c8))) ∧ (k.toInt * FP.Core.zval FP.Core.b64 (FP.Core.val64 c8) ≤ FP.Core.zval FP.Core.b64 (FP.Core.val64 V) → FP.Core.zval FP.Core.b64 (FP.Core.val64 (FP.dmul (FP.i2d k) c8)) ≤ FP.Core.zval FP.Core.b64 (FP.Core.val64 V)) := by
  obtain ⟨s, c, q, ha⟩ := FP.Core.i2d_fin k
  obtain ⟨t, d, r, hb⟩ : FP.Core.DFin c8 := (FP.Core.fin_bits c8).mpr (by decide +kernel)
  have fa := FP.Core.val64_fits (FP.i2d k)
  have fb := FP.Core.val64_fits c8
  have za : FP.Core.zval FP.Core.b64 (FP.Core.val64 (FP.i2d k)) = k.toInt * (FP.Core.one64 : Int) := FP.Core.DInt_zval (FP.Core.i2d_int k)
  have e : FP.Core.val64 (FP.dmul (FP.i2d k) c8) = FP.Core.round FP.Core.b64 (FP.Core.exactProduct (FP.Core.val64 (FP.i2d k)) (FP.Core.val64 c8)) := FP.Core.val64_dmul _ _
  have ha' : FP.Core.val64 (FP.i2d k) = .fin s c q := ha
  rw [e, ha']
  rw [ha'] at fa za
  rw [hb] at fb ⊢
  obtain ⟨p1, p2, p3⟩ := FP.Core.product_units fa fb
  have sg : FP.Core.signed (s != t) (FP.Core.inUnits (c * d) (q + r) (2 * FP.Core.b64.qmin)) = k.toInt * FP.Core.zval FP.Core.b64 (.fin t d r) * (FP.Core.one64 : Int) := by
    rw [p3]
    have m1 : FP.Core.signed (s != t) (FP.Core.zmag FP.Core.b64 (.fin s c q) * FP.Core.zmag FP.Core.b64 (.fin t d r)) = FP.Core.zval FP.Core.b64 (.fin s c q) * FP.Core.zval FP.Core.b64 (.fin t d r) := by
      unfold FP.Core.zval FP.Core.sgn
      cases s <;> cases t <;> simp [FP.Core.signed, Int.neg_mul, Int.mul_neg]
    rw [m1, za, Int.mul_assoc, Int.mul_comm (FP.Core.one64 : Int), ← Int.mul_assoc]
  have pw : ((2 ^ (FP.Core.b64.qmin - 2 * FP.Core.b64.qmin).toNat : Nat) : Int) = (FP.Core.one64 : Int) := by
    rw [← FP.Core.pow_qmin64, show FP.Core.b64.qmin - 2 * FP.Core.b64.qmin = -FP.Core.b64.qmin by omega]
  have po : (0 : Int) ≤ (FP.Core.one64 : Int) := Int.natCast_nonneg _
  rw [p1]
  constructor
  · intro h
    refine FP.Core.zval_round_ge FP.Core.good_b64 (FP.Core.val64_fits V) hV (e0 := 2 * FP.Core.b64.qmin) (by decide +kernel) p2 ?_
    rw [sg, pw]
    exact Int.mul_le_mul_of_nonneg_right h po
  · intro h
    refine FP.Core.zval_round_le FP.Core.good_b64 (FP.Core.val64_fits V) hV (e0 := 2 * FP.Core.b64.qmin) (by decide +kernel) p2 ?_
    rw [sg, pw]
    exact Int.mul_le_mul_of_nonneg_right h po
theorem rangeK (k : Int32) (h1 : ¬ (Op.cmpValue (FP.dcmp (FP.dmul (FP.i2d k) c8) (13857576053419016192 : UInt64)) CmpOp.l) < 0) (h2 : (Op.cmpValue (FP.dcmp (FP.dmul (FP.i2d k) c8) (4634204016564240384 : UInt64)) CmpOp.g) ≤ 0) : -512 ≤ k.toInt ∧ k.toInt ≤ 512 := by
  have n1 : FP.Core.val64 4634212812657262592 ≠ .nan := by decide +kernel
  have n2 : FP.Core.val64 13857584849512038400 ≠ .nan := by decide +kernel
  have z8 : (0 : Int) ≤ FP.Core.zval FP.Core.b64 (FP.Core.val64 c8) := by decide +kernel
  have z1 : FP.Core.zval FP.Core.b64 (FP.Core.val64 4634212812657262592) = 513 * FP.Core.zval FP.Core.b64 (FP.Core.val64 c8) := by decide +kernel
  have z2 : FP.Core.zval FP.Core.b64 (FP.Core.val64 13857584849512038400) = -513 * FP.Core.zval FP.Core.b64 (FP.Core.val64 c8) := by decide +kernel
  have z3 : FP.Core.zval FP.Core.b64 (FP.Core.val64 4634204016564240384) < FP.Core.zval FP.Core.b64 (FP.Core.val64 4634212812657262592) := by decide +kernel
  have z4 : FP.Core.zval FP.Core.b64 (FP.Core.val64 13857584849512038400) < FP.Core.zval FP.Core.b64 (FP.Core.val64 13857576053419016192) := by decide +kernel
  constructor
  · refine Int.not_lt.mp (fun c => h1 ?_)
    have le : k.toInt * FP.Core.zval FP.Core.b64 (FP.Core.val64 c8) ≤ FP.Core.zval FP.Core.b64 (FP.Core.val64 13857584849512038400) := by
      rw [z2]; exact Int.mul_le_mul_of_nonneg_right (by omega) z8
    have a := (mulV k n2).2 le
    by_cases nn : FP.Core.val64 (FP.dmul (FP.i2d k) c8) = .nan
    · rw [show FP.dcmp (FP.dmul (FP.i2d k) c8) 13857576053419016192 = none from (FP.Core.dcmp_none _ _).mpr (Or.inl nn)]; decide
    · rw [show FP.dcmp (FP.dmul (FP.i2d k) c8) 13857576053419016192 = some .lt from FP.Core.dcmp_lt.mpr ⟨nn, by decide +kernel, by omega⟩]; decide
  · refine Int.not_lt.mp (fun c => absurd h2 ?_)
    have le : FP.Core.zval FP.Core.b64 (FP.Core.val64 4634212812657262592) ≤ k.toInt * FP.Core.zval FP.Core.b64 (FP.Core.val64 c8) := by
      rw [z1]; exact Int.mul_le_mul_of_nonneg_right (by omega) z8
    have a := (mulV k n1).1 le
    by_cases nn : FP.Core.val64 (FP.dmul (FP.i2d k) c8) = .nan
    · rw [show FP.dcmp (FP.dmul (FP.i2d k) c8) 4634204016564240384 = none from (FP.Core.dcmp_none _ _).mpr (Or.inl nn)]; decide
    · rw [show FP.dcmp (FP.dmul (FP.i2d k) c8) 4634204016564240384 = some .gt from FP.Core.dcmp_gt.mpr ⟨nn, by decide +kernel, by omega⟩]; decide
def enX (k : Int32) : UInt64 := FP.dmul (FP.dmul (FP.i2d k) c8) 4625196817309499392
def enM (k : Int32) : UInt64 := FP.dmul (FP.dmul (FP.i2d k) c8) 4679240012837945344
def enP (k : Int32) : Prop := okd (enX k) ∧ okd (enM k) ∧ Op.cmpValue (FP.dcmp (FP.i2d (FP.d2i (enX k))) (enX k)) CmpOp.l = 0 ∧ Op.cmpValue (FP.dcmp (FP.l2d (FP.d2l (enM k))) (enM k)) CmpOp.l = 0 ∧ FP.d2l (enM k) = (FP.d2i (enX k) * 4096).toInt64 ∧ (FP.d2l (enM k)).toInt32 = FP.d2i (enX k) * 4096
theorem enAll : ∀ i, i < 1025 → (okd (enX (nI i - 512)) ∧ okd (enM (nI i - 512)) ∧ Op.cmpValue (FP.dcmp (FP.i2d (FP.d2i (enX (nI i - 512)))) (enX (nI i - 512))) CmpOp.l = 0 ∧ Op.cmpValue (FP.dcmp (FP.l2d (FP.d2l (enM (nI i - 512)))) (enM (nI i - 512))) CmpOp.l = 0 ∧ FP.d2l (enM (nI i - 512)) = (FP.d2i (enX (nI i - 512)) * 4096).toInt64 ∧ (FP.d2l (enM (nI i - 512))).toInt32 = FP.d2i (enX (nI i - 512)) * 4096) := by decide +kernel
theorem enAt {k : Int32} (h : -512 ≤ k.toInt ∧ k.toInt ≤ 512) : enP k := by
  have e : k = nI (k.toInt + 512).toNat - 512 := by
    apply q32
    have e5 : (512 : Int32).toInt = 512 := rfl
    rw [Int32.toInt_sub, nI_toInt (by omega), e5, b31] <;> omega
  have := enAll (k.toInt + 512).toNat (by omega)
  rw [← e] at this
  exact this
theorem inpB {n : Nat} {K : TI} {L : TJ} (h : K 13 0 = nI n) (hn : n ≤ 16) (v : Int32) : ∃ b : Int32, fX5_isInput v K L = some (b, K, L) := by
  rcases ix3 v n hn with hv | ⟨k, hk, rfl⟩
  · exact ⟨_, inpM0 h hn hv⟩
  · exact ⟨_, inpM1 h hn hk⟩
theorem op_enter {n : Nat} {I : TI} {J : TJ} {K : TI} {L : TJ} (h : Cp n I J K L) (v k : Int32) : Bo (fX4_enter v (FP.dmul (FP.i2d k) c8) I J) (fX5_enter v (FP.dmul (FP.i2d k) c8) K L) := by
  have hn := h.n16
  unfold fX4_enter fX5_enter
  by_cases c1 : (Op.cmpValue (FP.dcmp (FP.dmul (FP.i2d k) c8) (13857576053419016192 : UInt64)) CmpOp.l) < 0
  · rw [if_pos c1]
    obtain ⟨b, hb⟩ := inpB (L := L) h.m hn v
    rw [hb, bnd_eq, if_pos c1, ite_self]
    exact Bo.mk h rfl rfl
  · rw [if_neg c1]
    by_cases c2 : (Op.cmpValue (FP.dcmp (FP.dmul (FP.i2d k) c8) (4634204016564240384 : UInt64)) CmpOp.g) ≤ 0
    · obtain ⟨p1, p2, p3, p4, p5, p6⟩ := enAt (rangeK k c1 c2)
      unfold enX at p1 p3 p5 p6
      unfold enM at p2 p4 p5 p6
      rw [if_pos c2, if_pos p1, if_pos p3]
      rcases ix3 v n hn with hv | ⟨j, hj, rfl⟩
      · rw [inpM0 h.m hn hv, bnd_eq, if_pos rfl]
        unfold fX4_set
        rw [inpX0 h.x hv, bnd_eq, if_pos rfl, bnd_eq]
        exact Bo.mk h rfl rfl
      · rw [inpM1 h.m hn hj, bnd_eq, h.c hj (c := 0) (by decide)]
        by_cases g : I 0 j = 0
        · rw [if_pos g, if_neg o10, if_neg c1, if_pos c2, if_pos p2, if_pos p4, setX h.x hn hj g, isOfM (by omega), bnd_eq, (h.2.2.2.1 j hj).2.1, (h.2.2.2.1 j hj).2.2.1, p6, p5, w64]
          by_cases c : (J 0 j ≤ (FP.d2i (FP.dmul (FP.dmul (FP.i2d k) c8) 4625196817309499392) * 4096).toInt64 ∧ (FP.d2i (FP.dmul (FP.dmul (FP.i2d k) c8) 4625196817309499392) * 4096).toInt64 ≤ J 1 j) ∧ (FP.d2i (FP.dmul (FP.dmul (FP.i2d k) c8) 4625196817309499392) * 4096).toInt % 4096 = 0
          · rw [if_pos c, if_pos c, if_neg o10, if_pos (nok (by omega)), ncl (by omega), bnd_eq]
            exact Bo.mk (h.setU hj g c.2 c.1.1 c.1.2) rfl rfl
          · rw [if_neg c, if_neg c, if_pos rfl, bnd_eq]
            exact Bo.mk h rfl rfl
        · rw [if_neg g, if_pos rfl]
          unfold fX4_set
          rw [inpX1 h.x hn hj, bnd_eq, if_neg g, if_pos rfl, bnd_eq]
          exact Bo.mk h rfl rfl
    · rw [if_neg c2]
      obtain ⟨b, hb⟩ := inpB (L := L) h.m hn v
      rw [hb, bnd_eq, if_neg c1, if_neg c2, ite_self]
      exact Bo.mk h rfl rfl
theorem okd_of {r : UInt64} (h : FP.dIsNaN r = false) : okd r := by
  show r &&& 0x7fffffffffffffff ≤ 0x7ff0000000000000
  rw [UInt64.le_iff_toNat_le, FP.Core.mask_toNat]
  refine Nat.le_of_not_lt (fun c => ?_)
  have := (FP.Core.isNaN_bits r).mpr c
  rw [show FP.Core.dIsNaN r = FP.dIsNaN r from rfl, h] at this
  exact absurd this (by decide)
theorem okf_of {r : UInt32} (h : FP.fIsNaN r = false) : okf r := by
  show r &&& 0x7fffffff ≤ 0x7f800000
  rw [UInt32.le_iff_toNat_le, FP.Core.mask_toNat32]
  refine Nat.le_of_not_lt (fun c => ?_)
  have := (FP.Core.isNaN_bits32 r).mpr c
  rw [show FP.Core.fIsNaN r = FP.fIsNaN r from rfl, h] at this
  exact absurd this (by decide)
theorem lvN (x : Int64) : FP.dIsNaN (FP.ddiv (FP.l2d x) 4679240012837945344) = false :=
  FP.Core.ddiv_out (FP.Core.l2d_notNaN x) ((FP.Core.fin_bits _).mpr (by decide +kernel)) (fun ⟨s, q, z⟩ => by
    have e : FP.Core.zmag FP.Core.b64 (FP.Core.val64 4679240012837945344) = 0 := by rw [z]; simp [FP.Core.zmag, FP.Core.inUnits]
    exact absurd e (by decide +kernel))
/-- both answer alike, no NaN, and stay coupled -/
def BoD (x m : Option (UInt64 × SS)) : Prop := ∃ (r : UInt64) (I' : TI) (J' : TJ) (K' : TI) (L' : TJ) (n' : Nat), x = some (r, I', J') ∧ m = some (r, K', L') ∧ Cp n' I' J' K' L' ∧ FP.dIsNaN r = false
def BoF (x m : Option (UInt32 × SS)) : Prop := ∃ (r : UInt32) (I' : TI) (J' : TJ) (K' : TI) (L' : TJ) (n' : Nat), x = some (r, I', J') ∧ m = some (r, K', L') ∧ Cp n' I' J' K' L' ∧ FP.fIsNaN r = false
theorem op_leave {n : Nat} {I : TI} {J : TJ} {K : TI} {L : TJ} (h : Cp n I J K L) (v : Int32) : BoD (fX4_leave v I J) (fX5_leave v K L) := by
  have hn := h.n16
  unfold fX4_leave fX5_leave
  rcases ix3 v n hn with hv | ⟨k, hk, rfl⟩
  · rw [hasX0 h.x hv, valM0 h.m hn hv, bnd_eq, bnd_eq, if_pos rfl, if_pos rfl]
    exact ⟨_, _, _, _, _, n, rfl, rfl, h, by decide +kernel⟩
  · obtain ⟨I', J', L', a1, a2, a3, a4, a5, a6, a7⟩ := runB h hk
    rw [hasX1 h.x hn hk, valM1 h.m hn hk, bnd_eq, bnd_eq, if_neg o10, if_neg o10, a1, bnd_eq, a2, bnd_eq, if_pos (nok (by omega)), if_pos (nok (by omega)), ncl (by omega), a5, a7, if_pos (okd_of (lvN _)), if_pos (okd_of (lvN _))]
    exact ⟨_, _, _, _, _, n, rfl, rfl, a3, lvN _⟩
theorem op_narrow {n : Nat} {I : TI} {J : TJ} {K : TI} {L : TJ} (h : Cp n I J K L) (v : Int32) : BoF (fX4_narrow v I J) (fX5_narrow v K L) := by
  have hn := h.n16
  unfold fX4_narrow fX5_narrow fX4_leave
  rcases ix3 v n hn with hv | ⟨k, hk, rfl⟩
  · have e0 : FP.d2f FP.dconst0 = FP.fconst0 := by decide +kernel
    rw [hasX0 h.x hv, valM0 h.m hn hv, bnd_eq, bnd_eq, if_pos rfl, if_pos rfl, bnd_eq, e0, if_pos (by decide +kernel)]
    exact ⟨_, _, _, _, _, n, rfl, rfl, h, by decide +kernel⟩
  · obtain ⟨I', J', L', a1, a2, a3, a4, a5, a6, a7⟩ := runB h hk
    have nf : FP.fIsNaN (FP.d2f (FP.ddiv (FP.l2d (tuv I (I 7) k)) 4679240012837945344)) = false := by rw [FP.d2f_nan]; exact lvN _
    rw [hasX1 h.x hn hk, valM1 h.m hn hk, bnd_eq, bnd_eq, if_neg o10, if_neg o10, a1, bnd_eq, a2, bnd_eq, if_pos (nok (by omega)), if_pos (nok (by omega)), ncl (by omega), a5, a7, if_pos (okd_of (lvN _)), bnd_eq, if_pos (okd_of (lvN _)), if_pos (okf_of nf), if_pos (okf_of nf)]
    exact ⟨_, _, _, _, _, n, rfl, rfl, a3, nf⟩
