/-! work: both answer alike -/
def loF (kd : Int32) (la ha lb hb : Int64) : Int64 := if kd = 3 then la - hb else if kd = 4 then mn (mn (la * lb) (la * hb)) (mn (ha * lb) (ha * hb)) >>> ((16 : Int32).toInt64 &&& 63) else if kd = 6 then (if 0 < la then mn (ab la) (ab ha) else if ha < 0 then mn (ab la) (ab ha) else 0) else rsl kd la lb
def hiF (kd : Int32) (la ha lb hb : Int64) : Int64 := if kd = 3 then ha - lb else if kd = 4 then mx (mx (la * lb) (la * hb)) (mx (ha * lb) (ha * hb)) >>> ((16 : Int32).toInt64 &&& 63) else if kd = 6 then mx (ab la) (ab ha) else rsl kd ha hb
theorem mn_or (x y : Int64) : mn x y = x ∨ mn x y = y := by unfold mn; split; exact Or.inr rfl; exact Or.inl rfl
theorem mx_or (x y : Int64) : mx x y = x ∨ mx x y = y := by unfold mx; split; exact Or.inl rfl; exact Or.inr rfl
theorem exF4 (x y : Int64) : exF 4 x y = (x * y) >>> ((16 : Int32).toInt64 &&& 63) := rfl
theorem exF3 (x y : Int64) : exF 3 x y = x - y := rfl
theorem exF6 (x y : Int64) : exF 6 x y = ab x := rfl
theorem lo_ex (kd : Int32) (la ha lb hb : Int64) : loF kd la ha lb hb = 0 ∨ ∃ x y, (x = la ∨ x = ha) ∧ (y = lb ∨ y = hb) ∧ loF kd la ha lb hb = exF kd x y := by
  unfold loF
  by_cases c3 : kd = 3
  · subst c3; rw [if_pos rfl]; exact Or.inr ⟨la, hb, Or.inl rfl, Or.inr rfl, rfl⟩
  rw [if_neg c3]
  by_cases c4 : kd = 4
  · subst c4
    rw [if_pos rfl]
    refine Or.inr ?_
    rcases mn_or (mn (la * lb) (la * hb)) (mn (ha * lb) (ha * hb)) with e | e <;> rw [e]
    · rcases mn_or (la * lb) (la * hb) with e | e <;> rw [e]
      · exact ⟨la, lb, Or.inl rfl, Or.inl rfl, rfl⟩
      · exact ⟨la, hb, Or.inl rfl, Or.inr rfl, rfl⟩
    · rcases mn_or (ha * lb) (ha * hb) with e | e <;> rw [e]
      · exact ⟨ha, lb, Or.inr rfl, Or.inl rfl, rfl⟩
      · exact ⟨ha, hb, Or.inr rfl, Or.inr rfl, rfl⟩
  rw [if_neg c4]
  by_cases c6 : kd = 6
  · subst c6
    rw [if_pos rfl]
    have g : ∃ x y, (x = la ∨ x = ha) ∧ (y = lb ∨ y = hb) ∧ mn (ab la) (ab ha) = exF 6 x y := by
      rcases mn_or (ab la) (ab ha) with e | e <;> rw [e]
      · exact ⟨la, lb, Or.inl rfl, Or.inl rfl, rfl⟩
      · exact ⟨ha, lb, Or.inr rfl, Or.inl rfl, rfl⟩
    split
    · exact Or.inr g
    · split
      · exact Or.inr g
      · exact Or.inl rfl
  rw [if_neg c6]
  refine Or.inr ⟨la, lb, Or.inl rfl, Or.inl rfl, ?_⟩
  unfold exF; rw [if_neg c4]
theorem hi_ex (kd : Int32) (la ha lb hb : Int64) : ∃ x y, (x = la ∨ x = ha) ∧ (y = lb ∨ y = hb) ∧ hiF kd la ha lb hb = exF kd x y := by
  unfold hiF
  by_cases c3 : kd = 3
  · subst c3; rw [if_pos rfl]; exact ⟨ha, lb, Or.inr rfl, Or.inl rfl, rfl⟩
  rw [if_neg c3]
  by_cases c4 : kd = 4
  · subst c4
    rw [if_pos rfl]
    rcases mx_or (mx (la * lb) (la * hb)) (mx (ha * lb) (ha * hb)) with e | e <;> rw [e]
    · rcases mx_or (la * lb) (la * hb) with e | e <;> rw [e]
      · exact ⟨la, lb, Or.inl rfl, Or.inl rfl, rfl⟩
      · exact ⟨la, hb, Or.inl rfl, Or.inr rfl, rfl⟩
    · rcases mx_or (ha * lb) (ha * hb) with e | e <;> rw [e]
      · exact ⟨ha, lb, Or.inr rfl, Or.inl rfl, rfl⟩
      · exact ⟨ha, hb, Or.inr rfl, Or.inr rfl, rfl⟩
  rw [if_neg c4]
  by_cases c6 : kd = 6
  · subst c6
    rw [if_pos rfl]
    rcases mx_or (ab la) (ab ha) with e | e <;> rw [e]
    · exact ⟨la, lb, Or.inl rfl, Or.inl rfl, rfl⟩
    · exact ⟨ha, lb, Or.inr rfl, Or.inl rfl, rfl⟩
  rw [if_neg c6]
  refine ⟨ha, hb, Or.inr rfl, Or.inr rfl, ?_⟩
  unfold exF; rw [if_neg c4]
abbrev in26 (x : Int64) : Prop := -67108864 ≤ x.toInt ∧ x.toInt ≤ 67108864
theorem mul26 {a b : Int} (ha : -67108864 ≤ a ∧ a ≤ 67108864) (hb : -67108864 ≤ b ∧ b ≤ 67108864) : -4503599627370496 ≤ a * b ∧ a * b ≤ 4503599627370496 := by
  have h1 : (a * b).natAbs ≤ 67108864 * 67108864 := by
    rw [Int.natAbs_mul]
    exact Nat.mul_le_mul (by omega) (by omega)
  omega
theorem exF_bd (kd : Int32) {x y : Int64} (hx : in26 x) (hy : in26 y) : -4503599627370496 ≤ (exF kd x y).toInt ∧ (exF kd x y).toInt ≤ 4503599627370496 := by
  have hm := mul26 hx hy
  unfold in26 at *
  have e1 : nI 16 = (16 : Int32) := rfl
  unfold exF
  split
  · rename_i c
    subst c
    have e2 := sr64 (x * y) (k := 16) (by decide)
    rw [e1] at e2
    show -4503599627370496 ≤ ((x * y) >>> ((16 : Int32).toInt64 &&& 63)).toInt ∧ ((x * y) >>> ((16 : Int32).toInt64 &&& 63)).toInt ≤ _
    rw [e2, m64 (by omega) (by omega)]
    omega
  · unfold rsl
    repeat' split
    all_goals first | omega | (rw [a64] <;> omega) | (rw [s64] <;> omega) | (rw [m64] <;> omega) | (rw [n64] <;> omega)
theorem lo3 (la ha lb hb : Int64) : loF 3 la ha lb hb = la - hb := by unfold loF; rw [if_pos rfl]
theorem hi3 (la ha lb hb : Int64) : hiF 3 la ha lb hb = ha - lb := by unfold hiF; rw [if_pos rfl]
theorem n43 : ¬ (4 : Int32) = 3 := by decide
theorem n63 : ¬ (6 : Int32) = 3 := by decide
theorem n64' : ¬ (6 : Int32) = 4 := by decide
theorem n56 : ¬ (5 : Int32) = 6 := by decide
theorem lo4 (la ha lb hb : Int64) : loF 4 la ha lb hb = mn (mn (la * lb) (la * hb)) (mn (ha * lb) (ha * hb)) >>> ((16 : Int32).toInt64 &&& 63) := by unfold loF; rw [if_neg n43, if_pos rfl]
theorem hi4 (la ha lb hb : Int64) : hiF 4 la ha lb hb = mx (mx (la * lb) (la * hb)) (mx (ha * lb) (ha * hb)) >>> ((16 : Int32).toInt64 &&& 63) := by unfold hiF; rw [if_neg n43, if_pos rfl]
theorem lo6 (la ha lb hb : Int64) : loF 6 la ha lb hb = if 0 < la then mn (ab la) (ab ha) else if ha < 0 then mn (ab la) (ab ha) else 0 := by unfold loF; rw [if_neg n63, if_neg n64', if_pos rfl]
theorem hi6 (la ha lb hb : Int64) : hiF 6 la ha lb hb = rch la ha := by unfold hiF; rw [if_neg n63, if_neg n64', if_pos rfl]; rfl
-- the class's span of a worked VALUE
theorem J_ne {J : TJ} {c n : Nat} {x : Int64} {c' j : Nat} (h : j ≠ n) : (uJ J c n x) c' j = J c' j := by
  show sJ J c (vp_updL (J c) n x) c' j = _
  by_cases e : c' = c
  · rw [e, sJ_eq, updL_ne h]
  · rw [sJ_ne e]
theorem J_eq {J : TJ} {c n : Nat} {x : Int64} : (uJ J c n x) c n = x := by
  show sJ J c (vp_updL (J c) n x) c n = _
  rw [sJ_eq, updL_eq]
theorem J_nc {J : TJ} {c n : Nat} {x : Int64} {c' j : Nat} (h : c' ≠ c) : (uJ J c n x) c' j = J c' j := by
  show sJ J c (vp_updL (J c) n x) c' j = _
  rw [sJ_ne h]
theorem I_ne {I : TI} {c n : Nat} {x : Int32} {c' j : Nat} (h : j ≠ n) : (uI I c n x) c' j = I c' j := by
  show sI I c (upd (I c) n x) c' j = _
  by_cases e : c' = c
  · rw [e, sI_eq, upd_ne h]
  · rw [sI_ne e]
theorem I_eq {I : TI} {c n : Nat} {x : Int32} : (uI I c n x) c n = x := by
  show sI I c (upd (I c) n x) c n = _
  rw [sI_eq, upd_eq]
theorem I_nc {I : TI} {c n : Nat} {x : Int32} {c' j : Nat} (h : c' ≠ c) : (uI I c n x) c' j = I c' j := by
  show sI I c (upd (I c) n x) c' j = _
  rw [sI_ne h]
def deX (I : TI) (kd : Int32) (a b : Nat) : Int32 := if kd = 4 then I 3 a + I 3 b else if I 3 a < I 3 b then I 3 b else I 3 a
theorem sw152 {n : Nat} {I : TI} {J : TJ} : fX2_spanWorked_152 n I J = some ((), I, uJ J 2 n (rch (J 0 n) (J 1 n))) := rfl
set_option maxRecDepth 100000 in
theorem spanWX {n a b : Nat} {I : TI} {J : TJ} (ha : a ≠ n) (hb : b ≠ n) (h2 : J 2 a = rch (J 0 a) (J 1 a)) (hk : 2 ≤ (I 0 n).toInt ∧ (I 0 n).toInt ≤ 7) : ∃ J', fX2_spanWorked n a b I J = some ((), uI I 3 n (deX I (I 0 n) a b), J') ∧ (∀ c j, j ≠ n → J' c j = J c j) ∧ J' 0 n = loF (I 0 n) (J 0 a) (J 1 a) (J 0 b) (J 1 b) ∧ J' 1 n = hiF (I 0 n) (J 0 a) (J 1 a) (J 0 b) (J 1 b) ∧ J' 2 n = rch (J' 0 n) (J' 1 n) := by
  have main : ∀ d : Int32, ∃ J', fX2_spanWorked_32 n a b d n I J = some ((), uI I 3 n d, J') ∧ (∀ c j, j ≠ n → J' c j = J c j) ∧ J' 0 n = loF (I 0 n) (J 0 a) (J 1 a) (J 0 b) (J 1 b) ∧ J' 1 n = hiF (I 0 n) (J 0 a) (J 1 a) (J 0 b) (J 1 b) ∧ J' 2 n = rch (J' 0 n) (J' 1 n) := by
    intro d
    -- what two longs laid give
    have lay : ∀ (lo hi : Int64) (J1 : TJ), J1 = uJ (uJ J 0 n lo) 1 n hi → ∃ J', fX2_spanWorked_152 n (uI I 3 n d) J1 = some ((), uI I 3 n d, J') ∧ (∀ c j, j ≠ n → J' c j = J c j) ∧ J' 0 n = lo ∧ J' 1 n = hi ∧ J' 2 n = rch (J' 0 n) (J' 1 n) := by
      intro lo hi J1 e
      have e0 : J1 0 n = lo := by rw [e, J_nc (by decide), J_eq]
      have e1 : J1 1 n = hi := by rw [e, J_eq]
      refine ⟨_, sw152, fun c j hj => ?_, ?_, ?_, ?_⟩
      · rw [J_ne hj, e, J_ne hj, J_ne hj]
      · rw [J_nc (by decide)]; exact e0
      · rw [J_nc (by decide)]; exact e1
      · rw [J_eq, J_nc (by decide), J_nc (by decide)]
    unfold fX2_spanWorked_32
    by_cases c3 : I 0 n = 3
    · rw [if_pos c3]
      obtain ⟨J', g1, g2, g3, g4, g5⟩ := lay (J 0 a - J 1 b) (J 1 a - J 0 b) _ rfl
      refine ⟨J', ?_, g2, by rw [g3, c3, lo3], by rw [g4, c3, hi3], g5⟩
      rw [← g1]
      congr 2
      rw [J_ne hb]
    rw [if_neg c3]
    by_cases c4 : I 0 n = 4
    · rw [if_pos c4]
      unfold fX2_spanProduct
      rw [bnd_eq]
      obtain ⟨J', g1, g2, g3, g4, g5⟩ := lay _ _ _ rfl
      exact ⟨J', g1, g2, by rw [g3, c4, lo4]; rfl, by rw [g4, c4, hi4]; rfl, g5⟩
    rw [if_neg c4]
    have dflt : ∀ z : Prop, ∃ J', (bnd (fX4_result (I 0 n) (J 0 a) (J 0 b) (uI I 3 n d) J) (fun q_6 I_6 J_6 => bnd (fX4_result (I_6 0 n) (J_6 1 a) (J_6 1 b) I_6 (uJ J_6 0 n q_6)) (fun q_7 I_7 J_7 => fX2_spanWorked_152 n I_7 (uJ J_7 1 n q_7)))) = some ((), uI I 3 n d, J') ∧ (∀ c j, j ≠ n → J' c j = J c j) ∧ J' 0 n = rsl (I 0 n) (J 0 a) (J 0 b) ∧ J' 1 n = rsl (I 0 n) (J 1 a) (J 1 b) ∧ J' 2 n = rch (J' 0 n) (J' 1 n) := by
      intro _
      rw [resX, bnd_eq, resX, bnd_eq]
      have e0 : (uI I 3 n d) 0 n = I 0 n := I_nc (by decide)
      rw [e0]
      exact lay _ _ _ rfl
    by_cases c5 : I 0 n = 5
    · rw [if_pos c5]
      obtain ⟨J', g1, g2, g3, g4, g5⟩ := dflt True
      refine ⟨J', g1, g2, ?_, ?_, g5⟩
      · rw [g3]; unfold loF; rw [if_neg c3, if_neg c4, if_neg (fun z => n56 (c5.symm.trans z))]
      · rw [g4]; unfold hiF; rw [if_neg c3, if_neg c4, if_neg (fun z => n56 (c5.symm.trans z))]
    rw [if_neg c5]
    by_cases c6 : I 0 n = 6
    · rw [if_pos c6]
      have am : ∀ lo : Int64, ∃ J', fX2_spanWorked_152 n (uI I 3 n d) (uJ (uJ J 0 n lo) 1 n (J 2 a)) = some ((), uI I 3 n d, J') ∧ (∀ c j, j ≠ n → J' c j = J c j) ∧ J' 0 n = lo ∧ J' 1 n = rch (J 0 a) (J 1 a) ∧ J' 2 n = rch (J' 0 n) (J' 1 n) := by
        intro lo
        rw [h2]
        exact lay _ _ _ rfl
      rw [c6, hi6, lo6]
      unfold fX2_spanAmount
      by_cases z1 : (0 : Int64) < J 0 a
      · rw [if_pos z1, if_pos z1]
        unfold fX2_spanAmount_22 fX2_spanAmount_23
        rw [if_pos rfl, bnd_eq]
        exact am _
      · rw [if_neg z1, if_neg z1]
        by_cases z2 : J 1 a < (0 : Int64)
        · rw [if_pos z2, if_pos z2]
          unfold fX2_spanAmount_22 fX2_spanAmount_23
          rw [if_pos rfl, bnd_eq]
          exact am _
        · rw [if_neg z2, if_neg z2]
          unfold fX2_spanAmount_23
          rw [if_neg o10, bnd_eq]
          exact am _
    rw [if_neg c6]
    obtain ⟨J', g1, g2, g3, g4, g5⟩ := dflt True
    refine ⟨J', g1, g2, ?_, ?_, g5⟩
    · rw [g3]; unfold loF; rw [if_neg c3, if_neg c4, if_neg c6]
    · rw [g4]; unfold hiF; rw [if_neg c3, if_neg c4, if_neg c6]
  unfold fX2_spanWorked deX
  by_cases c4 : I 0 n = 4
  · rw [if_pos c4, if_pos c4]; exact main _
  · rw [if_neg c4, if_neg c4]; exact main _
