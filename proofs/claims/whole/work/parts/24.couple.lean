/-! the coupling of the class's state (I, J) and the model's (K, L); the calls that build a program -/
theorem dn_cong {I K : TI} {k : Nat} (h : K 3 k = I 3 k) : dn K k = dn I k := by unfold dn; rw [h]
theorem Ok.set {n : Nat} {I K : TI} {J L : TJ} (h : Ok n I J) (hc : ∀ k, k < n → ∀ c, c < 4 → K c k = I c k) (h7 : ∀ k, k < n → I 0 k = 0 → K 7 k = I 7 k) (h0 : ∀ k, k < n → L 0 k = J 0 k) (h1 : ∀ k, k < n → L 1 k = J 1 k) (hg : ∀ k, k < n → gvn I k → K 4 k = 16 ∧ K 5 k = 0 ∧ K 6 k = 1) (hw : ∀ k, k < n → ¬ gvn I k → (∃ f, f ≤ 16 ∧ K 4 k = nI f) ∧ (K 5 k = 0 ∨ K 5 k = 1 ∨ K 5 k = 2) ∧ ∃ w, w ≤ 100 ∧ K 6 k = nI w) : Ok n K L := by
  refine ⟨h.1, fun k hk => ?_⟩
  obtain ⟨q, r1, r2, r3, r4, r5, r6⟩ := h.2 k hk
  have ed : dn K k = dn I k := dn_cong (hc k hk 3 (by decide))
  refine ⟨?_, by rw [ed]; exact r1, by rw [ed]; exact r2, by rw [h0 k hk]; exact r3, by rw [h1 k hk]; exact r4, by rw [ed, h0 k hk]; exact r5, by rw [ed, h1 k hk]; exact r6⟩
  have e0 := hc k hk 0 (by decide)
  have e1 := hc k hk 1 (by decide)
  have e2 := hc k hk 2 (by decide)
  have e3 := hc k hk 3 (by decide)
  rcases q with q | q
  · obtain ⟨g4, g5, g6⟩ := hg k hk q.gvn
    obtain ⟨q1, q2, q3, q4, -, -, -⟩ := q
    refine Or.inl ⟨?_, by rw [e1]; exact q2, by rw [h0 k hk, e1]; exact q3, by rw [e3]; exact q4, g4, g5, g6⟩
    rcases q1 with ⟨a0, a1, a2, a3, a4, a5, a6⟩ | ⟨a0, a1, a2⟩
    · have e7 := h7 k hk a0
      exact Or.inl ⟨by rw [e0]; exact a0, by rw [e2]; exact a1, by rw [e1, e2]; exact a2, by rw [h1 k hk, e2]; exact a3, by rw [e7]; exact a4, by rw [e1, e7]; exact a5, by rw [e2, e7]; exact a6⟩
    · exact Or.inr ⟨by rw [e0]; exact a0, by rw [e2]; exact a1, by rw [h1 k hk, e1]; exact a2⟩
  · obtain ⟨⟨f, f1, f2⟩, g5, w, w1, w2⟩ := hw k hk q.ngv
    obtain ⟨a, b, -, -, a1, a2, a3, a4, a5, a6, a7, -, -, -, -, -, a13⟩ := q
    refine Or.inr ⟨a, b, f, w, a1, a2, by rw [e1]; exact a3, by rw [e2]; exact a4, by rw [e0]; exact a5, by rw [e0]; exact a6, by rw [e0]; exact a7, f1, f2, g5, w1, w2, ?_⟩
    rw [e0, ed, dn_cong (hc a (by omega) 3 (by decide)), dn_cong (hc b (by omega) 3 (by decide))]
    exact a13
theorem Ok.valid {n : Nat} {I : TI} {J : TJ} (h : Ok n I J) : (∀ k, k < n → gvn I k → I 4 k = 16 ∧ I 5 k = 0 ∧ I 6 k = 1) ∧ ∀ k, k < n → ¬ gvn I k → (∃ f, f ≤ 16 ∧ I 4 k = nI f) ∧ (I 5 k = 0 ∨ I 5 k = 1 ∨ I 5 k = 2) ∧ ∃ w, w ≤ 100 ∧ I 6 k = nI w := by
  refine ⟨fun k hk hg => ?_, fun k hk hg => ?_⟩
  · rcases (h.2 k hk).1 with q | q
    · exact ⟨q.2.2.2.2.1, q.2.2.2.2.2.1, q.2.2.2.2.2.2⟩
    · exact absurd hg q.ngv
  · rcases (h.2 k hk).1 with q | q
    · exact absurd q.gvn hg
    · obtain ⟨a, b, f, w, _, _, _, _, _, _, _, b1, b2, b3, b4, b5, _⟩ := q
      exact ⟨⟨f, b1, b2⟩, b3, w, b4, b5⟩
theorem Ok.cong {n : Nat} {I K : TI} {J L : TJ} (h : Ok n I J) (hc : ∀ k, k < n → ∀ c, c < 7 → K c k = I c k) (h7 : ∀ k, k < n → I 0 k = 0 → K 7 k = I 7 k) (h0 : ∀ k, k < n → L 0 k = J 0 k) (h1 : ∀ k, k < n → L 1 k = J 1 k) : Ok n K L := by
  obtain ⟨v1, v2⟩ := h.valid
  refine h.set (fun k hk c hc' => hc k hk c (by omega)) h7 h0 h1 (fun k hk hg => ?_) (fun k hk hg => ?_)
  · rw [hc k hk 4 (by decide), hc k hk 5 (by decide), hc k hk 6 (by decide)]; exact v1 k hk hg
  · rw [hc k hk 4 (by decide), hc k hk 5 (by decide), hc k hk 6 (by decide)]; exact v2 k hk hg
def ab (x : Int64) : Int64 := if 0 < x then x else -x
def mx (x y : Int64) : Int64 := if y < x then x else y
def mn (x y : Int64) : Int64 := if y < x then y else x
def rch (lo hi : Int64) : Int64 := mx (ab lo) (ab hi)
def Cp (n : Nat) (I : TI) (J : TJ) (K : TI) (L : TJ) : Prop :=
  Ok n I J ∧ I 12 0 = nI n ∧ K 13 0 = nI n ∧ (∀ k, k < n → (∀ c, c < 7 → K c k = I c k) ∧ L 0 k = J 0 k ∧ L 1 k = J 1 k ∧ (I 0 k = 0 → K 7 k = I 7 k) ∧ (I 0 k = 1 → I 7 k = I 1 k) ∧ J 2 k = rch (J 0 k) (J 1 k)) ∧ ∀ k, k < 16 → (K 9 k = 0 ∧ I 9 k = -2) ∨ (K 9 k = 1 ∧ I 9 k = K 10 k)
theorem Cp.okM {n : Nat} {I : TI} {J : TJ} {K : TI} {L : TJ} (h : Cp n I J K L) : Ok n K L :=
  h.1.cong (fun k hk c hc => (h.2.2.2.1 k hk).1 c hc) (fun k hk => (h.2.2.2.1 k hk).2.2.2.1) (fun k hk => (h.2.2.2.1 k hk).2.1) (fun k hk => (h.2.2.2.1 k hk).2.2.1)
/-- what a call may leave in its own rows doesn't count -/
theorem Cp.frame {n : Nat} {I I' : TI} {J J' : TJ} {K K' : TI} {L L' : TJ} (h : Cp n I J K L) (hI : ∀ c, (c < 8 ∨ c = 9) → I' c = I c) (hI2 : I' 12 0 = I 12 0) (hJ : ∀ c, c < 3 → J' c = J c) (hK : ∀ c, (c < 7 ∨ c = 9 ∨ c = 10) → K' c = K c) (hK7 : ∀ k, k < n → K' 7 k = K 7 k) (hK2 : K' 13 0 = K 13 0) (hL : ∀ c, c < 2 → L' c = L c) : Cp n I' J' K' L' := by
  obtain ⟨h1, h2, h3, h4, h5⟩ := h
  refine ⟨h1.cong (fun k hk c hc => by rw [hI c (by omega)]) (fun k hk _ => by rw [hI 7 (by decide)]) (fun k hk => by rw [hJ 0 (by decide)]) (fun k hk => by rw [hJ 1 (by decide)]), by rw [hI2]; exact h2, by rw [hK2]; exact h3, fun k hk => ?_, fun k hk => ?_⟩
  · obtain ⟨a1, a2, a3, a4, a5, a6⟩ := h4 k hk
    refine ⟨fun c hc => by rw [hK c (by omega), hI c (by omega)]; exact a1 c hc, by rw [hL 0 (by decide), hJ 0 (by decide)]; exact a2, by rw [hL 1 (by decide), hJ 1 (by decide)]; exact a3, ?_, ?_, by rw [hJ 2 (by decide), hJ 0 (by decide), hJ 1 (by decide)]; exact a6⟩
    · rw [hI 0 (by decide), hI 7 (by decide), hK7 k hk]; exact a4
    · rw [hI 0 (by decide), hI 7 (by decide), hI 1 (by decide)]; exact a5
  · rw [hK 9 (by decide), hK 10 (by decide), hI 9 (by decide)]; exact h5 k hk
/-- both answer alike and stay coupled -/
def Both {α : Type} (n : Nat) (x m : Option (α × SS)) : Prop := ∃ r I' J' K' L' n', x = some (r, I', J') ∧ m = some (r, K', L') ∧ Cp n' I' J' K' L'
theorem ix3 (v : Int32) (n : Nat) (hn : n ≤ 16) : (v < 0 ∨ nI n ≤ v) ∨ ∃ k, k < n ∧ v = nI k := by
  rcases pk_ix v (n := n) (by omega) with h | h | h
  · exact Or.inl (Or.inl h)
  · exact Or.inl (Or.inr h)
  · exact Or.inr h
theorem hasX0 {n : Nat} {I : TI} {J : TJ} {v : Int32} (h : I 12 0 = nI n) (hv : v < 0 ∨ nI n ≤ v) : fX0_has v I J = some (0, I, J) := by
  unfold fX0_has
  by_cases c : v < 0
  · rw [if_pos c]
  · rw [if_neg c, h, if_pos (hv.resolve_left c)]
theorem hasX1 {n : Nat} {I : TI} {J : TJ} {k : Nat} (h : I 12 0 = nI n) (hn : n ≤ 16) (hk : k < n) : fX0_has (nI k) I J = some (1, I, J) := by
  unfold fX0_has
  rw [if_neg (nI_pos (by omega)), h, if_neg (by rw [nle (by omega) (by omega)]; omega)]
theorem inM (a b c : Int64) (I : TI) (J : TJ) : fX5_in a b c I J = some (if b ≤ a ∧ a ≤ c then 1 else 0, I, J) := by
  unfold fX5_in
  by_cases h1 : a < b
  · rw [if_pos h1, if_neg (fun z => by rw [lt64] at h1; rw [le64] at z; omega)]
  · rw [if_neg h1]
    by_cases h2 : c < a
    · rw [if_pos h2, if_neg (fun z => by rw [lt64] at h2; rw [le64, le64] at z; omega)]
    · rw [if_neg h2, if_pos ⟨by rw [lt64] at h1; rw [le64]; omega, by rw [lt64] at h2; rw [le64]; omega⟩]
theorem valM0 {n : Nat} {K : TI} {L : TJ} {v : Int32} (h : K 13 0 = nI n) (hn : n ≤ 16) (hv : v < 0 ∨ nI n ≤ v) : fX5_isValue v K L = some (0, K, L) := by
  unfold fX5_isValue
  have e : (0 : Int64).toInt = 0 := rfl
  have e2 : ((K 13 0) - 1).toInt = (n : Int) - 1 := by rw [h]; exact pk_sub_toInt (b := 1) (by omega) (by omega)
  rw [inM, if_neg, bnd_eq, if_pos (Or.inl rfl)]
  intro z
  rw [le64, le64, w64, w64, e, e2] at z
  rcases hv with q | q
  · rw [lt32] at q; have : (0 : Int32).toInt = 0 := rfl; omega
  · rw [le32, nI_toInt (by omega)] at q; omega
theorem valM1 {n : Nat} {K : TI} {L : TJ} {k : Nat} (h : K 13 0 = nI n) (hn : n ≤ 16) (hk : k < n) : fX5_isValue (nI k) K L = some (1, K, L) := by
  unfold fX5_isValue
  have e : (0 : Int64).toInt = 0 := rfl
  have e2 : ((K 13 0) - 1).toInt = (n : Int) - 1 := by rw [h]; exact pk_sub_toInt (b := 1) (by omega) (by omega)
  rw [inM, if_pos, bnd_eq, if_pos (Or.inr rfl)]
  rw [le64, le64, w64, w64, e, e2, nI_toInt (by omega)]
  omega
-- told numbers
theorem rem32 (v : Int32) : (v - v / 4096 * 4096) = 0 ↔ v.toInt % 4096 = 0 := by
  have e := rem_toInt v 4096
  have e4 : (4096 : Int32).toInt = 4096 := rfl
  rw [e4] at e
  constructor
  · intro h
    rw [h] at e
    have : (4096 : Int) ∣ v.toInt := Int.dvd_of_tmod_eq_zero e.symm
    exact Int.emod_eq_zero_of_dvd this
  · intro h
    apply q32
    rw [e]
    exact Int.tmod_eq_zero_of_dvd (Int.dvd_of_emod_eq_zero h)
theorem stepX (v : Int32) (I : TI) (J : TJ) : fX4_isStep v I J = some (if v.toInt % 4096 = 0 then 1 else 0, I, J) := by
  unfold fX4_isStep
  by_cases h : v.toInt % 4096 = 0
  · rw [if_pos ((rem32 v).mpr h), if_pos h]
  · rw [if_neg (fun z => h ((rem32 v).mp z)), if_neg h]
abbrev NumD (x : Int32) : Prop := (-4194304 ≤ x.toInt ∧ x.toInt ≤ 4194304) ∧ x.toInt % 4096 = 0
theorem NumD.num {x : Int32} (h : NumD x) : Num x := ⟨h.1.1, h.1.2, h.2⟩
theorem givbX (v : Int32) (I : TI) (J : TJ) : fX4_isGivable v I J = some (if NumD v then 1 else 0, I, J) := by
  unfold fX4_isGivable
  rw [stepX, bnd_eq]
  have e1 : (-4194304 : Int32).toInt = -4194304 := rfl
  have e2 : (4194304 : Int32).toInt = 4194304 := rfl
  by_cases h : v.toInt % 4096 = 0
  · rw [if_pos h, if_neg (by decide)]
    by_cases h1 : v < -4194304
    · rw [if_pos h1, if_neg]; rw [lt32, e1] at h1; intro z; have := z.1; omega
    · rw [if_neg h1]; rw [lt32, e1] at h1
      by_cases h2 : 4194304 < v
      · rw [if_pos h2, if_neg]; rw [lt32, e2] at h2; intro z; have := z.1; omega
      · rw [if_neg h2, if_pos]; rw [lt32, e2] at h2; exact ⟨by omega, h⟩
  · rw [if_neg h, if_pos rfl, if_neg (fun z => h z.2)]
theorem numM (v : Int32) (I : TI) (J : TJ) : fX5_isNumber v I J = some (if NumD v then 1 else 0, I, J) := by
  unfold fX5_isNumber
  have e1 : (-4194304 : Int64).toInt = -4194304 := rfl
  have e2 : (4194304 : Int64).toInt = 4194304 := rfl
  rw [inM, bnd_eq]
  by_cases h1 : (-4194304 : Int64) ≤ v.toInt64 ∧ v.toInt64 ≤ 4194304
  · rw [if_pos h1, if_neg (by decide)]
    rw [le64, le64, w64, e1, e2] at h1
    by_cases h : v.toInt % 4096 = 0
    · rw [if_pos ((rem32 v).mpr h), if_pos ⟨h1, h⟩]
    · rw [if_neg (fun z => h ((rem32 v).mp z)), if_neg (fun z => h z.2)]
  · rw [if_neg h1, if_pos rfl, if_neg]
    rw [le64, le64, w64, e1, e2] at h1
    intro z; exact h1 z.1
theorem Ok.succ {n : Nat} {I : TI} {J : TJ} (h : Ok n I J) (hn : n < 16) (hv : OkV I J n) : Ok (n + 1) I J :=
  ⟨by omega, fun k hk => by
    by_cases e : k = n
    · rw [e]; exact hv
    · exact h.2 k (by omega)⟩
theorem ab_int {x : Int64} (h : -9223372036854775808 < x.toInt) : (ab x).toInt = if 0 < x.toInt then x.toInt else -x.toInt := by
  unfold ab
  have e : (0 : Int64).toInt = 0 := rfl
  by_cases c : 0 < x
  · rw [if_pos c]; rw [lt64, e] at c; rw [if_pos c]
  · rw [if_neg c]; rw [lt64, e] at c; rw [if_neg c, n64 h]
theorem mx_int (x y : Int64) : (mx x y).toInt = if y.toInt < x.toInt then x.toInt else y.toInt := by
  unfold mx
  by_cases c : y < x
  · rw [if_pos c]; rw [lt64] at c; rw [if_pos c]
  · rw [if_neg c]; rw [lt64] at c; rw [if_neg c]
theorem mn_int (x y : Int64) : (mn x y).toInt = if y.toInt < x.toInt then y.toInt else x.toInt := by
  unfold mn
  by_cases c : y < x
  · rw [if_pos c]; rw [lt64] at c; rw [if_pos c]
  · rw [if_neg c]; rw [lt64] at c; rw [if_neg c]
