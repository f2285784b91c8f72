/-! work, its second half -/
theorem w32 (x : Int32) : x.toInt64.toInt32 = x := by
  apply q32
  rw [Int64.toInt_toInt32, w64, b31] <;> have := r32 x <;> omega
theorem mx32 (x y : Int32) : (mx x.toInt64 y.toInt64).toInt32 = if x < y then y else x := by
  unfold mx
  by_cases c : y.toInt64 < x.toInt64
  · rw [if_pos c, w32, if_neg]
    rw [wl64] at c; rw [lt32] at *; omega
  · rw [if_neg c, w32]
    by_cases d : x < y
    · rw [if_pos d]
    · rw [if_neg d]; rw [wl64] at c; exact q32 (by rw [lt32] at *; omega)
theorem bgX {n : Nat} (kd x y : Int32) (I : TI) (J : TJ) : ∃ I', fX2_begin n kd x y I J = some ((), I', J) ∧ (∀ c j, j ≠ n → I' c j = I c j) ∧ (∀ c, 8 ≤ c → I' c = I c) ∧ I' 0 n = kd ∧ I' 1 n = x ∧ I' 2 n = y ∧ I' 3 n = 1 ∧ I' 4 n = 16 ∧ I' 5 n = 0 ∧ I' 6 n = 1 ∧ I' 7 n = 0 := by
  refine ⟨_, rfl, ?_, ?_, ?_, ?_, ?_, ?_, ?_, ?_, ?_, ?_⟩
  · intro c j hj
    rw [I_ne hj, I_ne hj, I_ne hj, I_ne hj, I_ne hj, I_ne hj, I_ne hj, I_ne hj]
  · intro c hc
    simp only [uI]
    rw [sI_ne (by omega), sI_ne (by omega), sI_ne (by omega), sI_ne (by omega), sI_ne (by omega), sI_ne (by omega), sI_ne (by omega), sI_ne (by omega)]
  all_goals simp [uI, sI, upd]
theorem limX {n : Nat} {I : TI} {J : TJ} : fX2_isWithinLimits n I J = some (if ¬ 4 < I 3 n ∧ ¬ 67108864 < J 2 n then 1 else 0, I, J) := by
  unfold fX2_isWithinLimits
  by_cases c1 : 4 < I 3 n
  · rw [if_pos c1, if_neg (fun z => z.1 c1)]
  · rw [if_neg c1]
    by_cases c2 : 67108864 < J 2 n
    · rw [if_pos c2, if_neg (fun z => z.2 c2)]
    · rw [if_neg c2, if_pos ⟨c1, c2⟩]
theorem addWX {n a b : Nat} {kd v3 : Int32} {I : TI} {J : TJ} (h : I 12 0 = nI n) (hn : n < 16) (ha : a < n) (hb : b < n) (h2 : J 2 a = rch (J 0 a) (J 1 a)) (hk : 2 ≤ kd.toInt ∧ kd.toInt ≤ 7) (hv : if kd.toInt ≤ 5 then v3 = nI b else b = a) :
    ∃ I' J', fX0_addWorked kd (nI a) v3 I J = (if ¬ 4 < deX I kd a b ∧ ¬ 67108864 < rch (loF kd (J 0 a) (J 1 a) (J 0 b) (J 1 b)) (hiF kd (J 0 a) (J 1 a) (J 0 b) (J 1 b)) then some (nI n, uI I' 12 0 (nI (n + 1)), J') else some (-4, I', J')) ∧ I' 12 0 = nI n ∧ (∀ c j, j ≠ n → I' c j = I c j) ∧ (∀ c, 8 ≤ c → I' c = I c) ∧ I' 0 n = kd ∧ I' 1 n = nI a ∧ I' 2 n = v3 ∧ I' 3 n = deX I kd a b ∧ I' 4 n = 16 ∧ I' 5 n = 0 ∧ I' 6 n = 1 ∧ (∀ c j, j ≠ n → J' c j = J c j) ∧ J' 0 n = loF kd (J 0 a) (J 1 a) (J 0 b) (J 1 b) ∧ J' 1 n = hiF kd (J 0 a) (J 1 a) (J 0 b) (J 1 b) ∧ J' 2 n = rch (J' 0 n) (J' 1 n) := by
  obtain ⟨B, b1, b2, b3, y0, y1, y2, y3, y4, y5, y6, y7⟩ := bgX (n := n) kd (nI a) v3 I J
  have hkB : 2 ≤ (B 0 n).toInt ∧ (B 0 n).toInt ≤ 7 := by rw [y0]; exact hk
  obtain ⟨J', s1, s2, s3, s4, s5⟩ := spanWX (I := B) (J := J) (show a ≠ n by omega) (show b ≠ n by omega) h2 hkB
  have ed : deX B kd a b = deX I kd a b := by
    unfold deX
    rw [b2 3 a (by omega), b2 3 b (by omega)]
  rw [y0, ed] at s1
  rw [y0] at s3 s4
  have m0 : (uI B 3 n (deX I kd a b)) 12 0 = nI n := by rw [I_nc (by decide), b3 12 (by decide)]; exact h
  have d3 : (uI B 3 n (deX I kd a b)) 3 n = deX I kd a b := I_eq
  have main : fX0_addWorked_55 n (nI b) a n B J = (if ¬ 4 < deX I kd a b ∧ ¬ 67108864 < rch (loF kd (J 0 a) (J 1 a) (J 0 b) (J 1 b)) (hiF kd (J 0 a) (J 1 a) (J 0 b) (J 1 b)) then some (nI n, uI (uI B 3 n (deX I kd a b)) 12 0 (nI (n + 1)), J') else some (-4, uI B 3 n (deX I kd a b), J')) := by
    unfold fX0_addWorked_55
    rw [if_pos (nok (by omega)), ncl (by omega), s1, bnd_eq, limX, bnd_eq, d3, s5, s3, s4]
    by_cases c : ¬ 4 < deX I kd a b ∧ ¬ 67108864 < rch (loF kd (J 0 a) (J 1 a) (J 0 b) (J 1 b)) (hiF kd (J 0 a) (J 1 a) (J 0 b) (J 1 b))
    · rw [if_pos c, if_neg o10, if_pos c, m0, nsc]
    · rw [if_neg c, if_pos rfl, if_neg c]
  refine ⟨uI B 3 n (deX I kd a b), J', ?_, m0, fun c j hj => by rw [I_ne hj, b2 c j hj], fun c hc => ?_, by rw [I_nc (by decide)]; exact y0, by rw [I_nc (by decide)]; exact y1, by rw [I_nc (by decide)]; exact y2, d3, by rw [I_nc (by decide)]; exact y4, by rw [I_nc (by decide)]; exact y5, by rw [I_nc (by decide)]; exact y6, s2, s3, s4, s5⟩
  · rw [← main]
    unfold fX0_addWorked
    rw [h, if_pos ((n16I (by omega)).mpr hn), if_pos (nok hn), ncl (by omega), b1, bnd_eq, if_pos (nok (by omega)), ncl (by omega), twoX, bnd_eq]
    by_cases c : kd.toInt ≤ 5
    · rw [if_pos c] at hv
      rw [if_pos (show 2 ≤ kd.toInt ∧ kd.toInt ≤ 5 from ⟨hk.1, c⟩), if_neg o10, hv]
    · rw [if_neg c] at hv
      rw [if_neg (show ¬ (2 ≤ kd.toInt ∧ kd.toInt ≤ 5) from fun z => c z.2), if_pos rfl, hv]
  · show sI B 3 _ c = _
    rw [sI_ne (by omega)]; exact b3 c hc
-- the model
def loM (kd : Int32) (la ha lb hb : Int64) : Int64 := if kd = 4 then mn (mn (la * lb) (la * hb)) (mn (ha * lb) (ha * hb)) / 65536 else loF kd la ha lb hb
def hiM (kd : Int32) (la ha lb hb : Int64) : Int64 := if kd = 4 then mx (mx (la * lb) (la * hb)) (mx (ha * lb) (ha * hb)) / 65536 else hiF kd la ha lb hb
theorem w143 {kd va vb d : Int32} {la ha lb hb : Int64} {K : TI} {L : TJ} : fX5_work_143 kd va vb la ha lb hb d K L = fX5_work_367 kd va vb d (loM kd la ha lb hb) (hiM kd la ha lb hb) K L := by
  unfold fX5_work_143
  by_cases c2 : kd = 2
  · subst c2; rw [if_pos rfl]; rfl
  rw [if_neg c2]
  by_cases c3 : kd = 3
  · subst c3; rw [if_pos rfl]; rfl
  rw [if_neg c3]
  by_cases c4 : kd = 4
  · subst c4
    rw [if_pos rfl, minM, bnd_eq, minM, bnd_eq, minM, bnd_eq, maxM, bnd_eq, maxM, bnd_eq, maxM, bnd_eq]
    rfl
  rw [if_neg c4]
  have e1 : loM kd la ha lb hb = loF kd la ha lb hb := by unfold loM; rw [if_neg c4]
  have e2 : hiM kd la ha lb hb = hiF kd la ha lb hb := by unfold hiM; rw [if_neg c4]
  rw [e1, e2]
  by_cases c5 : kd = 5
  · subst c5
    rw [if_pos rfl, maxM, bnd_eq, maxM, bnd_eq]
    rfl
  rw [if_neg c5]
  by_cases c6 : kd = 6
  · subst c6
    have g34 : ∀ w, fX5_work_347 6 va vb la ha d w K L = fX5_work_367 6 va vb d w (rch la ha) K L := by
      intro w
      unfold fX5_work_347
      rw [amtM, bnd_eq, amtM, bnd_eq, maxM, bnd_eq]; rfl
    have g33 : fX5_work_334 6 va vb la ha d K L = fX5_work_367 6 va vb d (mn (ab la) (ab ha)) (rch la ha) K L := by
      unfold fX5_work_334
      rw [amtM, bnd_eq, amtM, bnd_eq, minM, bnd_eq]; exact g34 _
    rw [if_pos rfl, g33, g34, lo6, hi6]
    by_cases z1 : (0 : Int64) < la
    · rw [if_pos z1, if_pos z1]
    · rw [if_neg z1, if_neg z1]
      by_cases z2 : ha < (0 : Int64)
      · rw [if_pos z2, if_pos z2]
      · rw [if_neg z2, if_neg z2]
  rw [if_neg c6]
  have f1 : loF kd la ha lb hb = la := by unfold loF rsl; rw [if_neg c3, if_neg c4, if_neg c6, if_neg c2, if_neg c3, if_neg c4, if_neg c5, if_neg c6]
  have f2 : hiF kd la ha lb hb = ha := by unfold hiF rsl; rw [if_neg c3, if_neg c4, if_neg c6, if_neg c2, if_neg c3, if_neg c4, if_neg c5, if_neg c6]
  rw [f1, f2]
theorem lim26 {lo hi : Int64} (h1 : -4503599627370496 ≤ lo.toInt ∧ lo.toInt ≤ 4503599627370496) (h2 : -4503599627370496 ≤ hi.toInt ∧ hi.toInt ≤ 4503599627370496) : ¬ 67108864 < rch lo hi ↔ in26 lo ∧ in26 hi := by
  have e : (67108864 : Int64).toInt = 67108864 := rfl
  unfold rch in26
  rw [lt64, mx_int, ab_int (by omega), ab_int (by omega), e]
  repeat' split
  all_goals omega
theorem w367 {n : Nat} {kd va vb d : Int32} {lo hi : Int64} {K : TI} {L : TJ} : fX5_work_367 kd va vb d lo hi K L = if ¬ 4 < d ∧ (in26 lo ∧ in26 hi) then bnd (fX5_lays kd va vb d lo hi K L) (fun q I J => some (q, I, J)) else some (-4, K, L) := by
  have e1 : (-67108864 : Int64).toInt = -67108864 := rfl
  have e2 : (67108864 : Int64).toInt = 67108864 := rfl
  have ee : ∀ x : Int64, ((-67108864 : Int64) ≤ x ∧ x ≤ 67108864) ↔ in26 x := by intro x; rw [le64, le64, e1, e2]
  unfold fX5_work_367
  by_cases c : (4 : Int32) < d
  · rw [if_pos c, if_neg (fun z => z.1 c)]
  rw [if_neg c, inM, bnd_eq, inM]
  by_cases c1 : in26 lo
  · rw [if_pos ((ee lo).mpr c1), if_neg o10, bnd_eq]
    by_cases c2 : in26 hi
    · rw [if_pos ((ee hi).mpr c2), if_neg o10, if_pos ⟨c, c1, c2⟩]
    · rw [if_neg (fun z => c2 ((ee hi).mp z)), if_pos rfl, if_neg (fun z => c2 z.2.2)]
  · rw [if_neg (fun z => c1 ((ee lo).mp z)), if_pos rfl, if_neg (fun z => c1 z.2.1)]
theorem prod65 {a b : Nat} {x y : Int64} (ha : a ≤ 4) (hb : b ≤ 4) (hab : a + b ≤ 4) (hx : dv a x.toInt) (hy : dv b y.toInt) : (65536 : Int) ∣ (x * y).toInt := by
  rw [Int64.toInt_mul]
  exact bm_dvd (by decide) (Int.dvd_trans (p16 _ (by omega)) (prod_dvd ha hb hab hx hy))
theorem span_eq {kd : Int32} {a b : Nat} {la ha lb hb : Int64} (h1 : a ≤ 4) (h2 : b ≤ 4) (hab : kd = 4 → a + b ≤ 4) (d1 : dv a la.toInt) (d2 : dv a ha.toInt) (d3 : dv b lb.toInt) (d4 : dv b hb.toInt) : loM kd la ha lb hb = loF kd la ha lb hb ∧ hiM kd la ha lb hb = hiF kd la ha lb hb := by
  unfold loM hiM
  by_cases c : kd = 4
  · rw [if_pos c, if_pos c]
    subst c
    rw [lo4, hi4]
    have hs := hab rfl
    have p1 := prod65 h1 h2 hs d1 d3
    have p2 := prod65 h1 h2 hs d1 d4
    have p3 := prod65 h1 h2 hs d2 d3
    have p4 := prod65 h1 h2 hs d2 d4
    refine ⟨sh_div ?_, sh_div ?_⟩
    · rcases mn_or (mn (la * lb) (la * hb)) (mn (ha * lb) (ha * hb)) with e | e <;> rw [e]
      · rcases mn_or (la * lb) (la * hb) with e | e <;> rw [e] <;> assumption
      · rcases mn_or (ha * lb) (ha * hb) with e | e <;> rw [e] <;> assumption
    · rcases mx_or (mx (la * lb) (la * hb)) (mx (ha * lb) (ha * hb)) with e | e <;> rw [e]
      · rcases mx_or (la * lb) (la * hb) with e | e <;> rw [e] <;> assumption
      · rcases mx_or (ha * lb) (ha * hb) with e | e <;> rw [e] <;> assumption
  · rw [if_neg c, if_neg c]; exact ⟨rfl, rfl⟩
theorem dn_int {n : Nat} {I : TI} {J : TJ} (h : Ok n I J) {k : Nat} (hk : k < n) : I 3 k = nI (dn I k) := by
  obtain ⟨_, h1, h2, _⟩ := h.2 k hk
  have : ¬ I 3 k < 0 := by
    intro c
    have : dn I k = 0 := by
      unfold dn
      rw [lt32] at c
      have e0 : (0 : Int32).toInt = 0 := rfl
      show (I 3 k).toInt.toNat = 0
      omega
    omega
  obtain ⟨j, hj, e⟩ := nI_of this
  have : dn I k = j := by unfold dn; rw [e, nI_clamp hj]
  rw [this]; exact e
theorem add_work {n a b ib : Nat} {kd : Int32} {I : TI} {J : TJ} {K : TI} {L : TJ} (h : Cp n I J K L) (hn : n < 16) (ha : a < n) (hb : b < n) (hk : 2 ≤ kd.toInt ∧ kd.toInt ≤ 7) (hib : if kd.toInt ≤ 5 then ib = b else ib = 0 ∧ b = a) (h0 : ib < n) (d : Int32) (hd : d = deX I kd a b) : Bo (bnd (fX0_addWorked kd (nI a) (nI ib) I J) (fun q I J => some (q, I, J))) (fX5_work_143 kd (nI a) (nI ib) (L 0 a) (L 1 a) (L 0 ib) (L 1 ib) d K L) := by
  have hok := h.1
  obtain ⟨cA1, cA2, cA3, cA4, cA5, cA6⟩ := h.2.2.2.1 a ha
  obtain ⟨cB1, cB2, cB3, cB4, cB5, cB6⟩ := h.2.2.2.1 ib h0
  obtain ⟨_, oa1, oa2, oa3, oa4, oa5, oa6⟩ := hok.2 a ha
  obtain ⟨_, ob1, ob2, ob3, ob4, ob5, ob6⟩ := hok.2 b hb
  have hv : if kd.toInt ≤ 5 then nI ib = nI b else b = a := by
    split
    · rename_i c; rw [if_pos c] at hib; rw [hib]
    · rename_i c; rw [if_neg c] at hib; exact hib.2
  obtain ⟨I', J', x1, x2, x3, x4, y0, y1, y2, y3, y4, y5, y6, z1, z2, z3, z4⟩ := addWX (v3 := nI ib) h.x hn ha hb cA6 hk hv
  rw [w143, w367 (n := n), cA2, cA3, cB2, cB3, x1]
  -- the model's span looks at ib, the class's at b
  have sp : loM kd (J 0 a) (J 1 a) (J 0 ib) (J 1 ib) = loM kd (J 0 a) (J 1 a) (J 0 b) (J 1 b) ∧ hiM kd (J 0 a) (J 1 a) (J 0 ib) (J 1 ib) = hiM kd (J 0 a) (J 1 a) (J 0 b) (J 1 b) := by
    by_cases c : kd.toInt ≤ 5
    · rw [if_pos c] at hib; rw [hib]; exact ⟨rfl, rfl⟩
    · have n3 : ¬ kd = 3 := fun e => by rw [e] at c; exact c (by decide)
      have n4 : ¬ kd = 4 := fun e => by rw [e] at c; exact c (by decide)
      unfold loM hiM loF hiF
      rw [if_neg n4, if_neg n4, if_neg n4, if_neg n4, if_neg n3, if_neg n3, if_neg n3, if_neg n3, if_neg n4, if_neg n4, if_neg n4, if_neg n4, rsl_one (show 6 ≤ kd.toInt by omega) (J 0 a) (J 0 ib) (J 0 b), rsl_one (show 6 ≤ kd.toInt by omega) (J 1 a) (J 1 ib) (J 1 b)]
      exact ⟨rfl, rfl⟩
  rw [sp.1, sp.2]
  have ia := dn_int hok ha
  have ibb := dn_int hok hb
  have e4 : (4 : Int32) = nI 4 := rfl
  -- the degree as a number
  have dnum : d = nI (if kd = 4 then dn I a + dn I b else max (dn I a) (dn I b)) := by
    rw [hd]; unfold deX
    rw [ia, ibb]
    by_cases c : kd = 4
    · rw [if_pos c, if_pos c, nI_add]
    · rw [if_neg c, if_neg c]
      by_cases c2 : nI (dn I a) < nI (dn I b)
      · rw [if_pos c2]
        rw [nI_ltI (by omega) (by omega)] at c2
        rw [Nat.max_eq_right (by omega)]
      · rw [if_neg c2]
        rw [nI_ltI (by omega) (by omega)] at c2
        rw [Nat.max_eq_left (by omega)]
  rw [hd] at dnum ⊢
  have d4 : (4 : Int32) < deX I kd a b ↔ 4 < (if kd = 4 then dn I a + dn I b else max (dn I a) (dn I b)) := by
    rw [dnum, e4, nI_ltI (by omega)]
    split <;> omega
  by_cases c4 : (4 : Int32) < deX I kd a b
  · rw [if_neg (fun z => z.1 c4), if_neg (fun z => z.1 c4), bnd_eq]
    refine Bo.mk (h.frameN (fun k hk c hc => x3 c k (by omega)) (x4 9 (by decide)) (by rw [x2, h.x]) (fun k hk c hc => z1 c k (by omega)) (fun _ _ _ _ => rfl) rfl rfl rfl (fun _ _ _ _ => rfl)) rfl rfl
  · have hD : (if kd = 4 then dn I a + dn I b else max (dn I a) (dn I b)) ≤ 4 := Nat.not_lt.mp (fun z => c4 (d4.mpr z))
    have sq := span_eq (kd := kd) oa2 ob2 (fun e => by rw [if_pos e] at hD; exact hD) oa5 oa6 ob5 ob6
    rw [sq.1, sq.2]
    have lob : -4503599627370496 ≤ (loF kd (J 0 a) (J 1 a) (J 0 b) (J 1 b)).toInt ∧ (loF kd (J 0 a) (J 1 a) (J 0 b) (J 1 b)).toInt ≤ 4503599627370496 := by
      rcases lo_ex kd (J 0 a) (J 1 a) (J 0 b) (J 1 b) with e | ⟨x, y, ex, ey, e⟩
      · rw [e]; decide
      · rw [e]
        exact exF_bd kd (by rcases ex with rfl | rfl <;> assumption) (by rcases ey with rfl | rfl <;> assumption)
    have hib' : -4503599627370496 ≤ (hiF kd (J 0 a) (J 1 a) (J 0 b) (J 1 b)).toInt ∧ (hiF kd (J 0 a) (J 1 a) (J 0 b) (J 1 b)).toInt ≤ 4503599627370496 := by
      obtain ⟨x, y, ex, ey, e⟩ := hi_ex kd (J 0 a) (J 1 a) (J 0 b) (J 1 b)
      rw [e]
      exact exF_bd kd (by rcases ex with rfl | rfl <;> assumption) (by rcases ey with rfl | rfl <;> assumption)
    have hl := lim26 lob hib'
    by_cases c5 : in26 (loF kd (J 0 a) (J 1 a) (J 0 b) (J 1 b)) ∧ in26 (hiF kd (J 0 a) (J 1 a) (J 0 b) (J 1 b))
    · rw [if_pos ⟨c4, hl.mpr c5⟩, if_pos ⟨c4, c5⟩, bnd_eq]
      obtain ⟨K', L', w1, w2, w3, w4, w5, w6, u0, u1, u2, u3, u4, u5, u6, t1, t2, t3⟩ := laysM (L := L) h.m hn kd (nI a) (nI ib) (deX I kd a b) (loF kd (J 0 a) (J 1 a) (J 0 b) (J 1 b)) (hiF kd (J 0 a) (J 1 a) (J 0 b) (J 1 b))
      rw [w1, bnd_eq]
      -- the new VALUE
      have nx : ∀ c j, c < 12 → (uI I' 12 0 (nI (n + 1))) c j = I' c j := fun c j hc => I_nc (by omega)
      have dnn : dn (uI I' 12 0 (nI (n + 1))) n = (if kd = 4 then dn I a + dn I b else max (dn I a) (dn I b)) := by
        unfold dn
        rw [nx 3 n (by decide), y3, dnum, nI_clamp (by omega)]
        rfl
      have dno : ∀ j, j < n → dn (uI I' 12 0 (nI (n + 1))) j = dn I j := by
        intro j hj
        exact dn_cong (by rw [nx 3 j (by decide), x3 3 j (by omega)])
      have dcl : if kd = 4 then (if kd = 4 then dn I a + dn I b else max (dn I a) (dn I b)) = dn I a + dn I b else dn I a ≤ (if kd = 4 then dn I a + dn I b else max (dn I a) (dn I b)) ∧ (kd.toInt ≤ 5 → dn I b ≤ (if kd = 4 then dn I a + dn I b else max (dn I a) (dn I b))) := by
        by_cases c : kd = 4
        · rw [if_pos c, if_pos c]
        · rw [if_neg c, if_neg c]; omega
      have dlo : dv (if kd = 4 then dn I a + dn I b else max (dn I a) (dn I b)) (loF kd (J 0 a) (J 1 a) (J 0 b) (J 1 b)).toInt := by
        rcases lo_ex kd (J 0 a) (J 1 a) (J 0 b) (J 1 b) with e | ⟨x, y, ex, ey, e⟩
        · rw [e]; exact Int.dvd_zero _
        · rw [e]
          exact (exF_dv oa2 ob2 hD (by rcases ex with rfl | rfl <;> assumption) (by rcases ey with rfl | rfl <;> assumption) dcl).1
      have dhi : dv (if kd = 4 then dn I a + dn I b else max (dn I a) (dn I b)) (hiF kd (J 0 a) (J 1 a) (J 0 b) (J 1 b)).toInt := by
        obtain ⟨x, y, ex, ey, e⟩ := hi_ex kd (J 0 a) (J 1 a) (J 0 b) (J 1 b)
        rw [e]
        exact (exF_dv oa2 ob2 hD (by rcases ex with rfl | rfl <;> assumption) (by rcases ey with rfl | rfl <;> assumption) dcl).1
      have k01 : ¬ kd = 0 ∧ ¬ kd = 1 := ⟨fun e => by rw [e] at hk; exact absurd hk.1 (by decide), fun e => by rw [e] at hk; exact absurd hk.1 (by decide)⟩
      refine Bo.mk (h.add hn (fun k hk c hc => by rw [nx c k (by omega)]; exact x3 c k (by omega)) ?_ rfl (fun k hk c hc => z1 c k (by omega)) (fun k hk c hc => ?_) w5 w6 w2 (fun k hk c _ => t1 c k (by omega)) ?_ ?_ ?_ ?_ (fun z => absurd ((nx 0 n (by decide)).symm.trans z) (by rw [y0]; exact k01.1)) (fun z => absurd ((nx 0 n (by decide)).symm.trans z) (by rw [y0]; exact k01.2)) z4) rfl rfl
      · show sI I' 12 _ 9 = _
        rw [sI_ne (by decide)]; exact x4 9 (by decide)
      · by_cases e7 : c = 7
        · subst e7; rw [w4]
        · exact w3 c k (by omega) (by omega)
      · refine ⟨Or.inr ⟨a, ib, 16, 1, ha, h0, by rw [nx 1 n (by decide)]; exact y1, by rw [nx 2 n (by decide)]; exact y2, by rw [nx 0 n (by decide), y0]; exact hk.1, by rw [nx 0 n (by decide), y0]; exact hk.2, ?_, by decide, by rw [nx 4 n (by decide)]; exact y4, Or.inl (by rw [nx 5 n (by decide)]; exact y5), by decide, by rw [nx 6 n (by decide)]; exact y6, ?_⟩, ?_⟩
        · rw [nx 0 n (by decide), y0]
          intro c
          rw [if_neg (by omega)] at hib
          exact hib.1
        · rw [nx 0 n (by decide), y0, dnn, dno a ha, dno ib h0]
          by_cases c : kd = 4
          · have : kd.toInt ≤ 5 := by rw [c]; decide
            rw [if_pos this] at hib
            rw [if_pos c, if_pos c, hib]
          · rw [if_neg c, if_neg c]
            refine ⟨by omega, fun c5 => ?_⟩
            rw [if_pos c5] at hib
            rw [hib]; omega
        · rw [dnn, z2, z3]
          refine ⟨?_, hD, c5.1, c5.2, dlo, dhi⟩
          split <;> omega
      · intro c hc
        rw [nx c n (by omega)]
        rcases (show c = 0 ∨ c = 1 ∨ c = 2 ∨ c = 3 ∨ c = 4 ∨ c = 5 ∨ c = 6 by omega) with rfl | rfl | rfl | rfl | rfl | rfl | rfl
        · rw [u0, y0]
        · rw [u1, y1]
        · rw [u2, y2]
        · rw [u3, y3]
        · rw [u4, y4]
        · rw [u5, y5]
        · rw [u6, y6]
      · rw [t2, z2]
      · rw [t3, z3]
    · rw [if_neg (fun z => c5 (hl.mp z.2)), if_neg (fun z => c5 z.2), bnd_eq]
      refine Bo.mk (h.frameN (fun k hk c hc => x3 c k (by omega)) (x4 9 (by decide)) (by rw [x2, h.x]) (fun k hk c hc => z1 c k (by omega)) (fun _ _ _ _ => rfl) rfl rfl rfl (fun _ _ _ _ => rfl)) rfl rfl
theorem op_work {n : Nat} {I : TI} {J : TJ} {K : TI} {L : TJ} (h : Cp n I J K L) (kd x y : Int32) : Bo (fX4_work kd x y I J) (fX5_work kd x y K L) := by
  have hn := h.n16
  have e2 : (2 : Int32).toInt = 2 := rfl
  have e7 : (7 : Int32).toInt = 7 := rfl
  have e6 : (6 : Int32).toInt = 6 := rfl
  have e5 : (5 : Int32).toInt = 5 := rfl
  have l2 : (2 : Int64).toInt = 2 := rfl
  have l7 : (7 : Int64).toInt = 7 := rfl
  unfold fX4_work fX5_work
  rw [inM, bnd_eq]
  by_cases hk : 2 ≤ kd.toInt ∧ kd.toInt ≤ 7
  · rw [if_neg (show ¬ kd < 2 by rw [lt32, e2]; omega), if_neg (show ¬ 7 < kd by rw [lt32, e7]; omega), if_pos (show (2 : Int64) ≤ kd.toInt64 ∧ kd.toInt64 ≤ 7 by rw [le64, le64, w64, l2, l7]; exact hk), if_neg o10]
    rcases ix3 x n hn with hx | ⟨a, ha, rfl⟩
    · rw [hasX0 h.x hx, valM0 h.m hn hx, bnd_eq, bnd_eq, if_pos rfl, if_pos rfl]
      exact Bo.mk h rfl rfl
    rw [hasX1 h.x hn ha, valM1 h.m hn ha, bnd_eq, bnd_eq, if_neg o10, if_neg o10, twoX, bnd_eq]
    -- what lies behind the tests
    have go : ∀ b ib : Nat, b < n → ib < n → (if kd.toInt ≤ 5 then ib = b else ib = 0 ∧ b = a) → Bo (bnd (fX0_addWorked kd (nI a) (nI ib) I J) (fun q I J => some (q, I, J))) (fX5_work_46 kd (nI a) (nI ib) K L) := by
      intro b ib hb h0 hib
      unfold fX5_work_46
      rw [h.m]
      by_cases c16 : n = 16
      · rw [if_pos ((n16E hn).mpr c16)]
        unfold fX0_addWorked
        rw [h.x, if_neg (fun z => by have := (n16I hn).mp z; omega), bnd_eq]
        exact Bo.mk h rfl rfl
      · have hn2 : n < 16 := by omega
        have k3a := h.c ha (c := 3) (by decide)
        have k3b := h.c h0 (c := 3) (by decide)
        rw [if_neg (fun z => c16 ((n16E hn).mp z)), if_pos (nok (by omega)), if_pos (nok (by omega)), ncl (by omega), ncl (by omega), k3a, k3b]
        by_cases c5 : kd.toInt ≤ 5
        · rw [if_pos (show kd ≤ 5 by rw [le32, e5]; exact c5)]
          rw [if_pos c5] at hib
          subst hib
          by_cases c4 : kd = 4
          · rw [if_pos c4]
            exact add_work h hn2 ha hb hk (by rw [if_pos c5]) h0 _ (by unfold deX; rw [if_pos c4])
          · rw [if_neg c4, maxM, bnd_eq]
            exact add_work h hn2 ha hb hk (by rw [if_pos c5]) h0 _ (by unfold deX; rw [if_neg c4]; exact mx32 _ _)
        · rw [if_neg (show ¬ kd ≤ 5 by rw [le32, e5]; exact c5)]
          have hib2 := hib
          rw [if_neg c5] at hib2
          refine add_work h hn2 ha hb hk hib h0 _ ?_
          unfold deX
          rw [if_neg (fun e => c5 (by rw [e]; decide)), hib2.2]
          split <;> rfl
    by_cases c5 : kd.toInt ≤ 5
    · rw [if_pos (show 2 ≤ kd.toInt ∧ kd.toInt ≤ 5 from ⟨hk.1, c5⟩), if_neg o10, if_neg (show ¬ 6 ≤ kd by rw [le32, e6]; omega)]
      rcases ix3 y n hn with hy | ⟨b, hb, rfl⟩
      · rw [hasX0 h.x hy, valM0 h.m hn hy, bnd_eq, bnd_eq, if_pos rfl]
        unfold fX4_work_52
        rw [if_pos rfl]
        exact Bo.mk h rfl rfl
      · rw [hasX1 h.x hn hb, valM1 h.m hn hb, bnd_eq, bnd_eq, if_neg o10]
        unfold fX4_work_52
        rw [if_neg o10]
        exact go b b hb hb (by rw [if_pos c5])
    · rw [if_neg (show ¬ (2 ≤ kd.toInt ∧ kd.toInt ≤ 5) from fun z => c5 z.2), if_pos rfl, if_pos (show 6 ≤ kd by rw [le32, e6]; omega)]
      by_cases cy : y = 0
      · rw [if_pos cy, if_pos cy]
        unfold fX4_work_52
        rw [if_neg o10, cy]
        exact go a 0 ha (by omega) (by rw [if_neg c5]; exact ⟨rfl, rfl⟩)
      · rw [if_neg cy, if_neg cy]
        unfold fX4_work_52
        rw [if_pos rfl]
        exact Bo.mk h rfl rfl
  · rw [if_neg (show ¬ ((2 : Int64) ≤ kd.toInt64 ∧ kd.toInt64 ≤ 7) by rw [le64, le64, w64, l2, l7]; exact hk), if_pos rfl]
    by_cases c1 : kd < 2
    · rw [if_pos c1]; exact Bo.mk h rfl rfl
    · rw [if_neg c1, if_pos (show 7 < kd by rw [lt32, e2] at c1; rw [lt32, e7]; omega)]
      exact Bo.mk h rfl rfl
