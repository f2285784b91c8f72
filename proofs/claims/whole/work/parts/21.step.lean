/-! one VALUE's work: exact and tuned, alike in both -/
def rsl (kd : Int32) (x y : Int64) : Int64 := if kd = 2 then x + y else if kd = 3 then x - y else if kd = 4 then x * y else if kd = 5 then (if y < x then x else y) else if kd = 6 then (if 0 < x then x else -x) else x
theorem resX (kd : Int32) (x y : Int64) (I : TI) (J : TJ) : fX4_result kd x y I J = some (rsl kd x y, I, J) := by
  unfold fX4_result rsl
  repeat' split
  all_goals rfl
theorem maxM (x y : Int64) (I : TI) (J : TJ) : fX5_max x y I J = some (if y < x then x else y, I, J) := by
  unfold fX5_max
  by_cases h : x ≤ y
  · have h' : ¬ y < x := by rw [lt64]; rw [le64] at h; omega
    rw [if_pos h, if_neg h']
  · have h' : y < x := by rw [lt64]; rw [le64] at h; omega
    rw [if_neg h, if_pos h']
theorem minM (x y : Int64) (I : TI) (J : TJ) : fX5_min x y I J = some (if y < x then y else x, I, J) := by
  unfold fX5_min
  by_cases h : y ≤ x
  · rw [if_pos h]
    by_cases h' : y < x
    · rw [if_pos h']
    · have e : x = y := q64 (by rw [lt64] at h'; rw [le64] at h; omega)
      rw [if_neg h', e]
  · have h' : ¬ y < x := by rw [lt64]; rw [le64] at h; omega
    rw [if_neg h, if_neg h']
theorem amtM (x : Int64) (I : TI) (J : TJ) : fX5_amount x I J = some (if 0 < x then x else -x, I, J) := by
  unfold fX5_amount
  by_cases h : (0 : Int64) ≤ x
  · rw [if_pos h]
    by_cases h' : 0 < x
    · rw [if_pos h']
    · have e : x = 0 := q64 (by rw [lt64] at h'; rw [le64] at h; have : (0 : Int64).toInt = 0 := rfl; omega)
      subst e; rfl
  · have h' : ¬ 0 < x := by rw [lt64]; rw [le64] at h; omega
    rw [if_neg h, if_neg h']
theorem doesM (kd : Int32) (x y : Int64) (I : TI) (J : TJ) : fX5_does kd x y I J = some (rsl kd x y, I, J) := by
  unfold fX5_does rsl
  rw [maxM, amtM]
  repeat' split
  all_goals rfl
def exF (kd : Int32) (x y : Int64) : Int64 := if kd = 4 then rsl kd x y >>> ((16 : Int32).toInt64 &&& 63) else rsl kd x y
theorem exactlyX (kd : Int32) (x y : Int64) (I : TI) (J : TJ) : fX1_exactly kd x y I J = some (exF kd x y, I, J) := by
  unfold fX1_exactly exF
  rw [resX]
  show (if kd = 4 then _ else _) = _
  split <;> rfl
/-- a number that 65536 divides: shifted and divided alike -/
theorem sh_div {z : Int64} (h : (65536 : Int) ∣ z.toInt) : z / 65536 = z >>> ((16 : Int32).toInt64 &&& 63) := by
  apply q64
  rw [div64 (p := 65536) rfl (by decide)]
  have e := sr64 z (k := 16) (by decide)
  have e1 : nI 16 = (16 : Int32) := rfl
  rw [e1] at e
  rw [e]
  obtain ⟨w, hw⟩ := h
  rw [hw, Int.mul_tdiv_cancel_left _ (by decide)]
  exact (Int.mul_ediv_cancel_left w (by decide)).symm
theorem div_one (z : Int64) : z / 1 = z := by
  apply q64
  rw [div64 (p := 1) rfl (by decide), Int.tdiv_one]
def clI (z : Int) : Int := if z < -2147483648 then -2147483648 else if 2147483648 < z then 2147483648 else z
theorem clI_bd (z : Int) : -2147483648 ≤ clI z ∧ clI z ≤ 2147483648 := by
  unfold clI; repeat' split
  all_goals omega
theorem clX (t : Int64) : (if (if t < (2147483648 : Int64) then t else (2147483648 : Int64)) < (-2147483648 : Int64) then (-2147483648 : Int64) else (if t < (2147483648 : Int64) then t else (2147483648 : Int64))).toInt = clI t.toInt := by
  have a : (2147483648 : Int64).toInt = 2147483648 := rfl
  have b : (-2147483648 : Int64).toInt = -2147483648 := rfl
  unfold clI
  by_cases h1 : t < (2147483648 : Int64)
  · rw [if_pos h1]
    rw [lt64, a] at h1
    by_cases h2 : t < (-2147483648 : Int64)
    · rw [if_pos h2]; rw [lt64, b] at h2; rw [if_pos h2, b]
    · rw [if_neg h2]; rw [lt64, b] at h2; rw [if_neg h2, if_neg (by omega)]
  · rw [if_neg h1]
    rw [lt64, a] at h1
    rw [if_neg (by decide), a, if_neg (by omega)]
    by_cases h3 : (2147483648 : Int) < t.toInt
    · rw [if_pos h3]
    · rw [if_neg h3]; omega
def shf (kd : Int32) (f : Nat) : Nat := (if kd = 4 then 16 else 0) + 16 - f
/-- TUNED, as an integer: rounded and cut -/
def tuI (kd : Int32) (f : Nat) (rnd : Int32) (x y : Int64) : Int := clI (rndF (rsl kd x y).toInt (shf kd f) rnd * 2 ^ (16 - f))
def tuF (kd : Int32) (f : Nat) (rnd : Int32) (x y : Int64) : Int64 := Int64.ofInt (tuI kd f rnd x y)
theorem of_tu {r : Int64} {z : Int} (h : r.toInt = z) : r = Int64.ofInt z := by rw [← h, Int64.ofInt_toInt]
theorem tuF_bd (kd : Int32) (f : Nat) (rnd : Int32) (x y : Int64) : -2147483648 ≤ (tuF kd f rnd x y).toInt ∧ (tuF kd f rnd x y).toInt ≤ 2147483648 := by
  have h := clI_bd (rndF (rsl kd x y).toInt (shf kd f) rnd * 2 ^ (16 - f))
  unfold tuF
  rw [Int64.toInt_ofInt, b63] <;> unfold tuI <;> omega
theorem mul_bd {a b : Int} (ha : -2147483648 ≤ a ∧ a ≤ 2147483648) (hb : -2147483648 ≤ b ∧ b ≤ 2147483648) : -4611686018427387904 ≤ a * b ∧ a * b ≤ 4611686018427387904 := by
  have h1 : (a * b).natAbs ≤ 2147483648 * 2147483648 := by
    rw [Int.natAbs_mul]
    exact Nat.mul_le_mul (by omega) (by omega)
  omega
theorem rsl_bd (kd : Int32) {x y : Int64} (hx : -2147483648 ≤ x.toInt ∧ x.toInt ≤ 2147483648) (hy : -2147483648 ≤ y.toInt ∧ y.toInt ≤ 2147483648) : -4611686018427387904 ≤ (rsl kd x y).toInt ∧ (rsl kd x y).toInt ≤ 4611686018427387904 := by
  have hm := mul_bd hx hy
  unfold rsl
  repeat' split
  · rw [a64] <;> omega
  · rw [s64] <;> omega
  · rw [m64] <;> omega
  · omega
  · omega
  · omega
  · rw [n64] <;> omega
  · omega
theorem rnd_bd {X : Int} {s : Nat} (hs : s ≤ 32) (h1 : -4611686018427387904 ≤ X) (h2 : X ≤ 4611686018427387904) (rnd : Int32) : -4611686022722355200 ≤ rndF X s rnd * 2 ^ s ∧ rndF X s rnd * 2 ^ s ≤ 4611686022722355200 := by
  have hp := pw_pos s
  have hq := pw_le hs
  unfold rndF
  repeat' split
  · have f := fl_mul (a := X + 2 ^ s / 2) hp
    omega
  · have f := fl_mul (a := X) hp
    omega
  · rw [tdiv_fl hp]
    split
    · have f := fl_mul (a := -X) hp
      rw [Int.neg_mul]; omega
    · have f := fl_mul (a := X) hp
      omega
theorem shf_pw (kd : Int32) {f : Nat} (hf : f ≤ 16) : (2 : Int) ^ shf kd f = 2 ^ (16 - f) * 2 ^ (if kd = 4 then 16 else 0) ∧ shf kd f ≤ 32 := by
  unfold shf
  split
  · rw [← Int.pow_add]; constructor
    · congr 1; omega
    · omega
  · constructor
    · rw [Int.pow_zero, Int.mul_one]; try (congr 1; omega)
    · omega
theorem tunedX {k0 f : Nat} {kd rnd : Int32} {x y : Int64} {I : TI} {J : TJ} (hf : f ≤ 16) (h0 : I 0 k0 = kd) (h4 : I 4 k0 = nI f) (h5 : I 5 k0 = rnd) (hr : rnd = 0 ∨ rnd = 1 ∨ rnd = 2) (hx : -2147483648 ≤ x.toInt ∧ x.toInt ≤ 2147483648) (hy : -2147483648 ≤ y.toInt ∧ y.toInt ≤ 2147483648) : fX1_tunedTo k0 x y I J = some (tuF kd f rnd x y, I, J) := by
  obtain ⟨b1, b2⟩ := rsl_bd kd hx hy
  obtain ⟨e1, e2⟩ := shf_pw kd hf
  obtain ⟨r, er, fr⟩ := rX (x := rsl kd x y) e2 b1 b2 hr I J
  have key : ∀ (fin : Nat), fin ≤ 16 → fin + 16 - f = shf kd f → (2 : Int) ^ shf kd f = 2 ^ (16 - f) * 2 ^ fin → fX1_tunedTo_14 k0 x y (nI fin) I J = some (tuF kd f rnd x y, I, J) := by
    intro fin hfin g1 g2
    unfold fX1_tunedTo_14
    rw [h0, resX]
    show bnd (fX1_rounded (rsl kd x y) (nI fin + 16 - I 4 k0) (I 5 k0) I J) _ = _
    have g3 : nI fin + 16 - I 4 k0 = nI (shf kd f) := by
      rw [h4, ← g1]
      have : nI fin + 16 = nI (fin + 16) := nI_add fin 16
      rw [this]; exact pk_sub (by omega)
    rw [g3, h5, er]
    show some (_, I, J) = _
    congr 2
    apply of_tu
    rw [clX, sr64 _ (by omega), fr]
    unfold tuI
    rw [g2, ← Int.mul_assoc, Int.mul_ediv_cancel _ (by have := pw_pos fin; omega)]
  unfold fX1_tunedTo
  rw [h0]
  by_cases c : kd = 4
  · rw [if_pos c]
    rw [if_pos c] at e1
    exact key 16 (by decide) (by unfold shf; rw [if_pos c]) e1
  · rw [if_neg c]
    rw [if_neg c] at e1
    exact key 0 (by decide) (by unfold shf; rw [if_neg c]) e1
theorem uM : ∀ f, f < 17 → (((65536 : Int32) >>> ((nI f) &&& 31)).toInt64).toInt = 2 ^ (16 - f) := by decide +kernel
/-- the model's rounding of one VALUE: what it lays -/
theorem tunedM {f : Nat} {kd rnd : Int32} {x y u b : Int64} {I : TI} {J : TJ} (hf : f ≤ 16) (hu : u.toInt = 2 ^ (16 - f)) (hb : b.toInt = 2 ^ shf kd f) (hx : -2147483648 ≤ x.toInt ∧ x.toInt ≤ 2147483648) (hy : -2147483648 ≤ y.toInt ∧ y.toInt ≤ 2147483648) : ∃ q, fX5_rounded (rsl kd x y) b rnd I J = some (q, I, J) ∧ (if (if u * q < (2147483648 : Int64) then u * q else (2147483648 : Int64)) < (-2147483648 : Int64) then (-2147483648 : Int64) else (if u * q < (2147483648 : Int64) then u * q else (2147483648 : Int64))) = tuF kd f rnd x y := by
  obtain ⟨b1, b2⟩ := rsl_bd kd hx hy
  obtain ⟨e1, e2⟩ := shf_pw kd hf
  obtain ⟨q, eq, fq⟩ := rM (x := rsl kd x y) e2 hb b1 b2 rnd I J
  refine ⟨q, eq, ?_⟩
  apply of_tu
  rw [clX]
  have bd := rnd_bd e2 b1 b2 rnd
  have hp1 := pw_pos (16 - f)
  have small : -4611686022722355200 ≤ rndF (rsl kd x y).toInt (shf kd f) rnd * 2 ^ (16 - f) ∧ rndF (rsl kd x y).toInt (shf kd f) rnd * 2 ^ (16 - f) ≤ 4611686022722355200 := by
    rw [e1, ← Int.mul_assoc] at bd
    generalize rndF (rsl kd x y).toInt (shf kd f) rnd * 2 ^ (16 - f) = z at bd
    split at bd <;> omega
  have e3 : u.toInt * q.toInt = rndF (rsl kd x y).toInt (shf kd f) rnd * 2 ^ (16 - f) := by rw [hu, fq, Int.mul_comm]
  rw [m64 (by omega) (by omega), e3]
  rfl
