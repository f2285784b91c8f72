/-! numbers: longs as integers, shifts, rounding -/
theorem bnd_eq {α β : Type} {a : α} {I : TI} {J : TJ} {f : α → TI → TJ → Option β} : bnd (some (a, I, J)) f = f a I J := rfl
theorem b63 {a : Int} (h1 : -9223372036854775808 ≤ a) (h2 : a < 9223372036854775808) : a.bmod (2 ^ 64) = a := by
  rw [Int.bmod_eq_of_le] <;> omega
theorem b31 {a : Int} (h1 : -2147483648 ≤ a) (h2 : a < 2147483648) : a.bmod (2 ^ 32) = a := by
  rw [Int.bmod_eq_of_le] <;> omega
theorem r64 (x : Int64) : -9223372036854775808 ≤ x.toInt ∧ x.toInt < 9223372036854775808 := by
  have h1 := Int64.le_toInt x
  have h2 := Int64.toInt_lt x
  omega
theorem r32 (x : Int32) : -2147483648 ≤ x.toInt ∧ x.toInt < 2147483648 := by
  have h1 := Int32.le_toInt x
  have h2 := Int32.toInt_lt x
  omega
theorem a64 {x y : Int64} (h1 : -9223372036854775808 ≤ x.toInt + y.toInt) (h2 : x.toInt + y.toInt < 9223372036854775808) : (x + y).toInt = x.toInt + y.toInt := by
  rw [Int64.toInt_add, b63 h1 h2]
theorem s64 {x y : Int64} (h1 : -9223372036854775808 ≤ x.toInt - y.toInt) (h2 : x.toInt - y.toInt < 9223372036854775808) : (x - y).toInt = x.toInt - y.toInt := by
  rw [Int64.toInt_sub, b63 h1 h2]
theorem m64 {x y : Int64} (h1 : -9223372036854775808 ≤ x.toInt * y.toInt) (h2 : x.toInt * y.toInt < 9223372036854775808) : (x * y).toInt = x.toInt * y.toInt := by
  rw [Int64.toInt_mul, b63 h1 h2]
theorem n64 {x : Int64} (h1 : -9223372036854775808 < x.toInt) : (-x).toInt = -x.toInt := by
  have := r64 x
  rw [Int64.toInt_neg, b63 (by omega) (by omega)]
theorem w64 (x : Int32) : x.toInt64.toInt = x.toInt := Int32.toInt_toInt64 x
theorem q64 {x y : Int64} (h : x.toInt = y.toInt) : x = y := Int64.toInt_inj.mp h
theorem q32 {x y : Int32} (h : x.toInt = y.toInt) : x = y := Int32.toInt_inj.mp h
theorem lt64 {x y : Int64} : x < y ↔ x.toInt < y.toInt := Int64.lt_iff_toInt_lt
theorem le64 {x y : Int64} : x ≤ y ↔ x.toInt ≤ y.toInt := Int64.le_iff_toInt_le
theorem lt32 {x y : Int32} : x < y ↔ x.toInt < y.toInt := Int32.lt_iff_toInt_lt
theorem le32 {x y : Int32} : x ≤ y ↔ x.toInt ≤ y.toInt := Int32.le_iff_toInt_le
theorem wl64 {x y : Int32} : x.toInt64 < y.toInt64 ↔ x < y := by rw [lt64, lt32, w64, w64]
theorem we64 {x y : Int32} : x.toInt64 ≤ y.toInt64 ↔ x ≤ y := by rw [le64, le32, w64, w64]
/-- a shift's count -/
theorem cnt64 : ∀ k, k < 64 → ((nI k).toInt64 &&& 63).toBitVec.smod 64 = BitVec.ofNat 64 k := by decide +kernel
theorem sr64 (x : Int64) {k : Nat} (hk : k < 64) : (x >>> ((nI k).toInt64 &&& 63)).toInt = x.toInt / 2 ^ k := by
  have h1 : (x >>> ((nI k).toInt64 &&& 63)).toBitVec = x.toBitVec.sshiftRight k := by
    rw [Int64.toBitVec_shiftRight]
    simp only [cnt64 k hk, BitVec.sshiftRight', BitVec.toNat_ofNat]
    rw [Nat.mod_eq_of_lt (by omega)]
  have h2 : (x >>> ((nI k).toInt64 &&& 63)).toInt = (x.toBitVec.sshiftRight k).toInt := by
    rw [← h1]; rfl
  rw [h2, BitVec.toInt_sshiftRight, Int.shiftRight_eq_div_pow]
  simp
theorem tp64 : ∀ k, k < 63 → (BitVec.twoPow 64 k).toInt = 2 ^ k := by decide +kernel
theorem sl64 (x : Int64) {k : Nat} (hk : k < 63) (h1 : -9223372036854775808 ≤ x.toInt * 2 ^ k) (h2 : x.toInt * 2 ^ k < 9223372036854775808) : (x <<< ((nI k).toInt64 &&& 63)).toInt = x.toInt * 2 ^ k := by
  have e1 : (x <<< ((nI k).toInt64 &&& 63)).toBitVec = x.toBitVec <<< k := by
    rw [Int64.toBitVec_shiftLeft]
    simp only [cnt64 k (by omega), BitVec.shiftLeft_eq', BitVec.toNat_ofNat]
    rw [Nat.mod_eq_of_lt (by omega)]
  have e2 : (x <<< ((nI k).toInt64 &&& 63)).toInt = (x.toBitVec <<< k).toInt := by
    rw [← e1]; rfl
  rw [e2, BitVec.shiftLeft_eq_mul_twoPow, BitVec.toInt_mul, tp64 k hk]
  exact b63 h1 h2
theorem pw_pos (s : Nat) : (0 : Int) < 2 ^ s := Int.pow_pos (by decide)
theorem pw_le {s : Nat} (h : s ≤ 32) : (2 : Int) ^ s ≤ 4294967296 := by
  have : ∀ s, s < 33 → (2 : Int) ^ s ≤ 4294967296 := by decide +kernel
  exact this s (by omega)
theorem pw_le16 {s : Nat} (h : s ≤ 16) : (2 : Int) ^ s ≤ 65536 := by
  have : ∀ s, s < 17 → (2 : Int) ^ s ≤ 65536 := by decide +kernel
  exact this s (by omega)
def rndF (X : Int) (s : Nat) (rnd : Int32) : Int := if rnd = 1 then (X + 2 ^ s / 2) / 2 ^ s else if rnd = 0 then X / 2 ^ s else X.tdiv (2 ^ s)
theorem fl_mul {a p : Int} (hp : 0 < p) : a - p < a / p * p ∧ a / p * p ≤ a := by
  have h1 := Int.ediv_mul_add_emod a p
  have h2 := Int.emod_nonneg a (show p ≠ 0 by omega)
  have h3 := Int.emod_lt_of_pos a hp
  omega
theorem tdiv_fl {a p : Int} (hp : 0 < p) : a.tdiv p = if a < 0 then -((-a) / p) else a / p := by
  split
  · rename_i h
    have e : a.tdiv p = -((-a).tdiv p) := by rw [Int.neg_tdiv, Int.neg_neg]
    rw [e, Int.tdiv_eq_ediv_of_nonneg (by omega)]
  · rename_i h
    exact Int.tdiv_eq_ediv_of_nonneg (by omega)
theorem rX {x : Int64} {s : Nat} (hs : s ≤ 32) (h1 : -4611686018427387904 ≤ x.toInt) (h2 : x.toInt ≤ 4611686018427387904) {rnd : Int32} (hr : rnd = 0 ∨ rnd = 1 ∨ rnd = 2) (I : TI) (J : TJ) : ∃ r, fX1_rounded x (nI s) rnd I J = some (r, I, J) ∧ r.toInt = rndF x.toInt s rnd * 2 ^ s := by
  have hp := pw_pos s
  have hq := pw_le hs
  have key : ∀ y : Int64, -4611686022722355200 ≤ y.toInt → y.toInt ≤ 4611686022722355200 → ((y >>> ((nI s).toInt64 &&& 63)) <<< ((nI s).toInt64 &&& 63)).toInt = y.toInt / 2 ^ s * 2 ^ s := by
    intro y y1 y2
    have f := fl_mul (a := y.toInt) hp
    rw [sl64 _ (by omega) (by rw [sr64 _ (by omega)]; omega) (by rw [sr64 _ (by omega)]; omega), sr64 _ (by omega)]
  have k36 : ∃ r, fX1_rounded_36 x (nI s) I J = some (r, I, J) ∧ r.toInt = x.toInt / 2 ^ s * 2 ^ s := by
    refine ⟨_, rfl, ?_⟩
    have e0 : x + 0 = x := Int64.add_zero x
    rw [e0]
    exact key x (by omega) (by omega)
  have k19 : rnd ≠ 1 → ∃ r, fX1_rounded_19 x (nI s) rnd I J = some (r, I, J) ∧ r.toInt = x.toInt / 2 ^ s * 2 ^ s := by
    intro hn
    obtain ⟨r, e, f⟩ := k36
    refine ⟨r, ?_, f⟩
    unfold fX1_rounded_19
    rw [if_neg hn]; exact e
  rcases hr with rfl | rfl | rfl
  · obtain ⟨r, e, f⟩ := k19 (by decide)
    refine ⟨r, ?_, ?_⟩
    · unfold fX1_rounded
      rw [if_neg (by decide)]; exact e
    · rw [f]; simp [rndF]
  · unfold fX1_rounded
    rw [if_neg (by decide)]
    unfold fX1_rounded_19
    rw [if_pos rfl]
    by_cases h0 : s = 0
    · subst h0
      rw [if_pos (by decide)]
      obtain ⟨r, e, f⟩ := k36
      refine ⟨r, e, ?_⟩
      rw [f]; simp [rndF]
    · rw [if_neg (by rw [le32, nI_toInt (by omega)]; show ¬ (s : Int) ≤ 0; omega)]
      refine ⟨_, rfl, ?_⟩
      have e1 : nI s - 1 = nI (s - 1) := by
        obtain ⟨j, rfl⟩ : ∃ j, s = j + 1 := ⟨s - 1, by omega⟩
        exact nI_pred j
      have e2 : ((1 : Int64) <<< ((nI s - 1).toInt64 &&& 63)).toInt = 2 ^ s / 2 := by
        rw [e1, sl64 _ (by omega)]
        · have : ∀ j, j < 33 → 0 < j → (1 : Int64).toInt * 2 ^ (j - 1) = (2 : Int) ^ j / 2 := by decide +kernel
          exact this s (by omega) (by omega)
        · have := pw_pos (s - 1); show _ ≤ 1 * _; omega
        · have := pw_le (s := s - 1) (by omega); show 1 * _ < _; omega
      have e3 : (x + (1 : Int64) <<< ((nI s - 1).toInt64 &&& 63)).toInt = x.toInt + 2 ^ s / 2 := by
        rw [a64, e2] <;> rw [e2] <;> omega
      rw [key _ (by rw [e3]; omega) (by rw [e3]; omega), e3]
      simp [rndF]
  · unfold fX1_rounded
    rw [if_pos rfl]
    by_cases hz : (0 : Int64) ≤ x
    · rw [if_pos hz]
      obtain ⟨r, e, f⟩ := k19 (by decide)
      refine ⟨r, e, ?_⟩
      have : ¬ x.toInt < 0 := by have := le64.mp hz; simpa using this
      rw [f]; simp [rndF, tdiv_fl hp, this]
    · rw [if_neg hz]
      refine ⟨_, rfl, ?_⟩
      have hz' : x.toInt < 0 := by
        have : ¬ (0 : Int64).toInt ≤ x.toInt := fun q => hz (le64.mpr q)
        simp at this; omega
      have e4 : (-x).toInt = -x.toInt := n64 (by omega)
      have f := fl_mul (a := -x.toInt) hp
      have e5 := key (-x) (by omega) (by omega)
      rw [n64 (by rw [e5, e4]; omega), e5, e4]
      simp [rndF, tdiv_fl hp, hz', Int.neg_mul]
theorem div64 {x b : Int64} {p : Int} (hb : b.toInt = p) (hp : 0 < p) : (x / b).toInt = x.toInt.tdiv p := by
  rw [Int64.toInt_div_of_ne_right x b (by intro e; rw [e] at hb; simp at hb; omega), hb]
theorem rem64 {x b : Int64} {p : Int} (hb : b.toInt = p) (hp : 0 < p) : (x - x / b * b).toInt = x.toInt - x.toInt.tdiv p * p := by
  have hr := r64 x
  have d1 := div64 (x := x) hb hp
  have e := tdiv_fl (a := x.toInt) hp
  have f1 := fl_mul (a := x.toInt) hp
  have f2 := fl_mul (a := -x.toInt) hp
  have n1 : (-(-x.toInt / p)) * p = -(-x.toInt / p * p) := Int.neg_mul _ _
  by_cases hn : x.toInt < 0
  · rw [if_pos hn] at e
    have d2 : (x / b * b).toInt = x.toInt.tdiv p * p := by
      have g1 : x.toInt.tdiv p * p < 1 := by
        rw [e, n1]
        have : 0 ≤ -x.toInt / p * p := Int.mul_nonneg (Int.ediv_nonneg (by omega) (by omega)) (by omega)
        omega
      rw [m64, d1, hb] <;> rw [d1, hb]
      · rw [e, n1]; omega
      · omega
    have g1 : 0 ≤ -x.toInt / p * p := Int.mul_nonneg (Int.ediv_nonneg (by omega) (by omega)) (by omega)
    rw [s64, d2] <;> rw [d2, e, n1] <;> omega
  · rw [if_neg hn] at e
    have g1 : 0 ≤ x.toInt / p * p := Int.mul_nonneg (Int.ediv_nonneg (by omega) (by omega)) (by omega)
    have d2 : (x / b * b).toInt = x.toInt.tdiv p * p := by
      rw [m64, d1, hb] <;> rw [d1, hb, e] <;> omega
    rw [s64, d2] <;> rw [d2, e] <;> omega
theorem floM {x b : Int64} {p : Int} (hb : b.toInt = p) (hp : 0 < p) (I : TI) (J : TJ) : ∃ q, fX5_floored x b I J = some (q, I, J) ∧ q.toInt = x.toInt / p := by
  have hb0 : ¬ b = 0 := fun e => by rw [e] at hb; simp at hb; omega
  have hr := r64 x
  have d1 := div64 (x := x) hb hp
  have d2 := rem64 (x := x) hb hp
  have e := tdiv_fl (a := x.toInt) hp
  have f1 := fl_mul (a := x.toInt) hp
  have f2 := fl_mul (a := -x.toInt) hp
  have n1 : (-(-x.toInt / p)) * p = -(-x.toInt / p * p) := Int.neg_mul _ _
  unfold fX5_floored
  rw [if_neg hb0, if_neg hb0]
  by_cases hn : x.toInt < 0
  · rw [if_pos hn] at e
    by_cases hc : (0 : Int64) ≤ x - x / b * b
    · rw [if_pos hc]
      refine ⟨_, rfl, ?_⟩
      have hc' : 0 ≤ x.toInt - x.toInt.tdiv p * p := by rw [← d2]; exact le64.mp hc
      rw [d1]
      rw [e, n1] at hc'
      have g : x.toInt = -(-x.toInt / p) * p := by rw [n1]; omega
      rw [e]
      exact (Int.ediv_eq_of_eq_mul_left (by omega) g).symm
    · rw [if_neg hc]
      refine ⟨_, rfl, ?_⟩
      have hc' : x.toInt - x.toInt.tdiv p * p < 0 := by
        rw [← d2]
        have this : ¬ (0 : Int64).toInt ≤ (x - x / b * b).toInt := fun z => hc (le64.mpr z)
        have z0 : (0 : Int64).toInt = 0 := rfl
        rw [z0] at this; omega
      have lo : -9223372036854775808 < (x / b).toInt := by
        rw [d1, e]
        have := Int.ediv_le_self (a := -x.toInt) p (by omega)
        by_cases h1 : p = 1
        · subst h1; exfalso; rw [e, n1] at hc'; simp at hc'
        · have h3 : 0 ≤ -x.toInt / p := Int.ediv_nonneg (by omega) (by omega)
          have h2 : -x.toInt / p * 2 ≤ -x.toInt / p * p := Int.mul_le_mul_of_nonneg_left (by omega) h3
          omega
      have hi : (x / b).toInt ≤ 0 := by
        rw [d1, e]
        have := Int.ediv_nonneg (a := -x.toInt) (b := p) (by omega) (by omega)
        omega
      have o1 : (1 : Int64).toInt = 1 := rfl
      rw [s64 (by rw [o1]; omega) (by rw [o1]; omega), d1, e, o1]
      rw [e, n1] at hc'
      -- floor
      have g : x.toInt / p = -(-x.toInt / p) - 1 := by
        rw [Int.ediv_eq_iff_of_pos hp]
        have : (-(-x.toInt / p) - 1) * p = -(-x.toInt / p * p) - p := by rw [Int.sub_mul, Int.neg_mul]; omega
        have : (-(-x.toInt / p) - 1 + 1) * p = -(-x.toInt / p * p) := by rw [Int.sub_add_cancel, Int.neg_mul]
        omega
      exact g.symm
  · rw [if_neg hn] at e
    have hc : (0 : Int64) ≤ x - x / b * b := by
      rw [le64, d2, e]
      show (0 : Int) ≤ _
      omega
    rw [if_pos hc]
    exact ⟨_, rfl, by rw [d1, e]⟩
theorem rM {x b : Int64} {s : Nat} (hs : s ≤ 32) (hb : b.toInt = 2 ^ s) (h1 : -4611686018427387904 ≤ x.toInt) (h2 : x.toInt ≤ 4611686018427387904) (rnd : Int32) (I : TI) (J : TJ) : ∃ q, fX5_rounded x b rnd I J = some (q, I, J) ∧ q.toInt = rndF x.toInt s rnd := by
  have hp := pw_pos s
  have hq := pw_le hs
  unfold fX5_rounded rndF
  by_cases c1 : rnd = 1
  · have e0 : (b / 2).toInt = 2 ^ s / 2 := by
      rw [div64 (p := 2) rfl (by decide), hb, Int.tdiv_eq_ediv_of_nonneg (by omega)]
    have e1 : (x + b / 2).toInt = x.toInt + 2 ^ s / 2 := by
      rw [a64, e0] <;> rw [e0] <;> omega
    obtain ⟨q, e, f⟩ := floM (x := x + b / 2) hb hp I J
    refine ⟨q, ?_, ?_⟩
    · rw [if_pos c1, e]; rfl
    · rw [f, e1, if_pos c1]
  · rw [if_neg c1, if_neg c1]
    by_cases c0 : rnd = 0
    · obtain ⟨q, e, f⟩ := floM (x := x) hb hp I J
      refine ⟨q, ?_, ?_⟩
      · rw [if_pos c0, e]; rfl
      · rw [f, if_pos c0]
    · have hb0 : ¬ b = 0 := fun e => by rw [e] at hb; simp at hb; omega
      exact ⟨x / b, by rw [if_neg c0, if_neg hb0], by rw [if_neg c0, div64 hb hp]⟩
