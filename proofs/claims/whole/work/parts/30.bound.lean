/-! THE BOUND, by the class and by the model -/
def rmX (rnd t : Int32) : Int64 := if rnd = 1 then ((65536 : Int64) >>> (t.toInt64 &&& 63)) / 2 else ((65536 : Int64) >>> (t.toInt64 &&& 63)) - 1
theorem rmM1 : ∀ f, f < 17 → ((((65536 : Int32) >>> ((nI f) &&& 31)) / (2 : Int32)).toInt64) = ((65536 : Int64) >>> ((nI f).toInt64 &&& 63)) / 2 := by decide +kernel
theorem rmM2 : ∀ f, f < 17 → ((((65536 : Int32) >>> ((nI f) &&& 31)) - (1 : Int32)).toInt64) = ((65536 : Int64) >>> ((nI f).toInt64 &&& 63)) - 1 := by decide +kernel
theorem rm_bd1 : ∀ f, f < 17 → 0 ≤ (((65536 : Int64) >>> ((nI f).toInt64 &&& 63)) / 2).toInt ∧ (((65536 : Int64) >>> ((nI f).toInt64 &&& 63)) / 2).toInt ≤ 65536 := by decide +kernel
theorem rm_bd2 : ∀ f, f < 17 → 0 ≤ (((65536 : Int64) >>> ((nI f).toInt64 &&& 63)) - 1).toInt ∧ (((65536 : Int64) >>> ((nI f).toInt64 &&& 63)) - 1).toInt ≤ 65536 := by decide +kernel
theorem rm_bd (rnd : Int32) {f : Nat} (hf : f ≤ 16) : 0 ≤ (rmX rnd (nI f)).toInt ∧ (rmX rnd (nI f)).toInt ≤ 65536 := by
  unfold rmX
  split
  · exact rm_bd1 f (by omega)
  · exact rm_bd2 f (by omega)
def pdX (p q a b : Int64) : Int64 := if a = 1073741824 then 1073741824 else if b = 1073741824 then 1073741824 else (((p * b) + (q * a)) + (a * b) + 65535) >>> ((16 : Int32).toInt64 &&& 63)
def byX (kd : Int32) (p q a b : Int64) : Int64 := if kd = 4 then pdX p q a b else if kd = 5 then mx a b else if kd.toInt ≤ 5 then a + b else a
def cap (x : Int64) : Int64 := if x < 1073741824 then x else 1073741824
def stB (I : TI) (R : Nat → Int64) (bs : Nat → Int32) (k : Nat) (B : Nat → Int64) : Int64 := if gvn I k then 0 else cap (byX (I 0 k) (R (pa I k)) (R (pb I k)) (B (pa I k)) (B (pb I k)) + rmX (I 5 k) (bs k))
def bdv (I : TI) (R : Nat → Int64) (bs : Nat → Int32) (v : Nat) : Int64 := valA (stB I R bs) v
theorem locB {n : Nat} {I : TI} {J : TJ} (h : Ok n I J) (R : Nat → Int64) (bs : Nat → Int32) : loc n (stB I R bs) := by
  intro k hk E E' he
  unfold stB
  split
  · rfl
  · rename_i hg
    rcases (h.2 k hk).1 with q | q
    · exact absurd q.gvn hg
    · obtain ⟨a, b, _⟩ := q.parts (by have := h.1; omega)
      rw [he _ a, he _ b]
theorem bdv_cong {n : Nat} {I K : TI} {R R' : Nat → Int64} {bs bs' : Nat → Int32} (h : ∀ k, k < n → K 0 k = I 0 k ∧ K 1 k = I 1 k ∧ K 2 k = I 2 k ∧ K 5 k = I 5 k) (hR : ∀ k, k < n → ¬ gvn I k → R' (pa I k) = R (pa I k) ∧ R' (pb I k) = R (pb I k)) (hb : ∀ k, k < n → ¬ gvn I k → bs' k = bs k) {v : Nat} (hv : v < n) : bdv K R' bs' v = bdv I R bs v := by
  refine valA_cong' (n := n) (fun k hk E => ?_) hv
  obtain ⟨e0, e1, e2, e5⟩ := h k hk
  have p1 : pa K k = pa I k := by unfold pa; rw [e1]
  have p2 : pb K k = pb I k := by unfold pb; rw [e2]
  unfold stB
  have g : gvn K k ↔ gvn I k := by unfold gvn; rw [e0]
  by_cases c : gvn I k
  · rw [if_pos c, if_pos (g.mpr c)]
  · obtain ⟨r1, r2⟩ := hR k hk c
    rw [if_neg c, if_neg (fun z => c (g.mp z)), e0, p1, p2, e5, hb k hk c, r1, r2]
abbrev B30 (x : Int64) : Prop := 0 ≤ x.toInt ∧ x.toInt ≤ 1073741824
abbrev R26 (x : Int64) : Prop := 0 ≤ x.toInt ∧ x.toInt ≤ 67108864
theorem rch_bd {lo hi : Int64} (h1 : in26 lo) (h2 : in26 hi) : R26 (rch lo hi) := by
  unfold R26 rch in26 at *
  rw [mx_int, ab_int (by omega), ab_int (by omega)]
  repeat' split
  all_goals omega
theorem cap_int (x : Int64) : (cap x).toInt = if x.toInt < 1073741824 then x.toInt else 1073741824 := by
  unfold cap
  have e : (1073741824 : Int64).toInt = 1073741824 := rfl
  by_cases c : x < 1073741824
  · rw [if_pos c]; rw [lt64, e] at c; rw [if_pos c]
  · rw [if_neg c]; rw [lt64, e] at c; rw [if_neg c, e]
theorem mulnn {a b : Int} {m k : Nat} (ha : 0 ≤ a ∧ a ≤ m) (hb : 0 ≤ b ∧ b ≤ k) : 0 ≤ a * b ∧ a * b ≤ m * k :=
  ⟨Int.mul_nonneg ha.1 hb.1, Int.mul_le_mul ha.2 hb.2 hb.1 (by omega)⟩
/-- the sum of the three products, as an integer -/
theorem tog {p q a b : Int64} (hp : R26 p) (hq : R26 q) (ha : B30 a) (hb : B30 b) : (((p * b) + (q * a)) + (a * b)).toInt = p.toInt * b.toInt + q.toInt * a.toInt + a.toInt * b.toInt ∧ 0 ≤ p.toInt * b.toInt + q.toInt * a.toInt + a.toInt * b.toInt ∧ p.toInt * b.toInt + q.toInt * a.toInt + a.toInt * b.toInt ≤ 1297036692682702848 := by
  have h1 := mulnn (m := 67108864) (k := 1073741824) hp hb
  have h2 := mulnn (m := 67108864) (k := 1073741824) hq ha
  have h3 := mulnn (m := 1073741824) (k := 1073741824) ha hb
  have e1 : (p * b).toInt = p.toInt * b.toInt := m64 (by omega) (by omega)
  have e2 : (q * a).toInt = q.toInt * a.toInt := m64 (by omega) (by omega)
  have e3 : (a * b).toInt = a.toInt * b.toInt := m64 (by omega) (by omega)
  refine ⟨?_, by omega, by omega⟩
  have e4 : (p * b + q * a).toInt = p.toInt * b.toInt + q.toInt * a.toInt := by
    rw [a64, e1, e2] <;> rw [e1, e2] <;> omega
  rw [a64, e4, e3] <;> rw [e4, e3] <;> omega
theorem pdX_bd {p q a b : Int64} (hp : R26 p) (hq : R26 q) (ha : B30 a) (hb : B30 b) : 0 ≤ (pdX p q a b).toInt ∧ (pdX p q a b).toInt ≤ 1297036692682702848 := by
  have e : (1073741824 : Int64).toInt = 1073741824 := rfl
  have e5 : (65535 : Int64).toInt = 65535 := rfl
  have e1 : nI 16 = (16 : Int32) := rfl
  unfold pdX
  split
  · rw [e]; omega
  · split
    · rw [e]; omega
    · obtain ⟨t1, t2, t3⟩ := tog hp hq ha hb
      have s := sr64 ((((p * b) + (q * a)) + (a * b)) + 65535) (k := 16) (by decide)
      rw [e1] at s
      rw [s, a64 (by rw [t1, e5]; omega) (by rw [t1, e5]; omega), t1, e5]
      omega
theorem byX_bd (kd : Int32) {p q a b : Int64} (hp : R26 p) (hq : R26 q) (ha : B30 a) (hb : B30 b) : 0 ≤ (byX kd p q a b).toInt ∧ (byX kd p q a b).toInt ≤ 1297036692682702848 := by
  unfold byX
  split
  · exact pdX_bd hp hq ha hb
  · split
    · rw [mx_int]; split <;> omega
    · split
      · rw [a64] <;> omega
      · omega
theorem stB_bd {n : Nat} {I : TI} {J : TJ} (h : Ok n I J) {R : Nat → Int64} (hR : ∀ k, k < n → R26 (R k)) {bs : Nat → Int32} (hb : ∀ k, k < n → ¬ gvn I k → ∃ f, f ≤ 16 ∧ bs k = nI f) {k : Nat} (hk : k < n) {E : Nat → Int64} (hE : ∀ j, j < k → B30 (E j)) : B30 (stB I R bs k E) := by
  unfold stB
  by_cases g : gvn I k
  · rw [if_pos g]; decide
  · rw [if_neg g]
    rcases (h.2 k hk).1 with q | q
    · exact absurd q.gvn g
    · obtain ⟨p1, p2, _⟩ := q.parts (by have := h.1; omega)
      obtain ⟨f, hf, ef⟩ := hb k hk g
      have b1 := byX_bd (I 0 k) (hR (pa I k) (by omega)) (hR (pb I k) (by omega)) (hE _ p1) (hE _ p2)
      have b2 := rm_bd (I 5 k) hf
      rw [ef]
      unfold B30
      rw [cap_int, a64 (by omega) (by omega)]
      split <;> omega
theorem bdv_bd {n : Nat} {I : TI} {J : TJ} (h : Ok n I J) {R : Nat → Int64} (hR : ∀ k, k < n → R26 (R k)) {bs : Nat → Int32} (hb : ∀ k, k < n → ¬ gvn I k → ∃ f, f ≤ 16 ∧ bs k = nI f) : ∀ k, k < n → B30 (bdv I R bs k) := by
  intro k
  induction k using Nat.strongRecOn with
  | ind k ih =>
    intro hk
    exact stB_bd h hR hb hk (fun j hj => by rw [runA_lt _ k j hj]; exact ih j hj (by omega))
-- the class
theorem bfpX {n : Nat} {I : TI} {J : TJ} (h : Ok n I J) {R : Nat → Int64} (hR : ∀ k, k < n → J 2 k = R k) {i : Nat} (hi : i < n) : fX3_boundFromParts (nI i) I J = some (stB I R (I 10) i (J 5), I, J) := by
  have hn := h.1
  have e5 : (5 : Int32).toInt = 5 := rfl
  unfold fX3_boundFromParts
  rw [if_pos (nok (by omega)), ncl (by omega), givX, bnd_eq]
  unfold stB
  by_cases g : gvn I i
  · rw [if_pos g, if_neg o10, if_pos g]
  · rw [if_neg g, if_pos rfl, if_neg g]
    rcases (h.2 i hi).1 with q | q
    · exact absurd q.gvn g
    obtain ⟨p1, p2, p3, p4, p5, p6, p7, p8, p9⟩ := q.parts (by omega)
    have o1 : okx (I 1 i) := by rw [p3]; exact nok (by omega)
    have o2 : okx (I 2 i) := by rw [p4]; exact nok (by omega)
    have c1 : (I 1 i).toNatClampNeg = pa I i := rfl
    have c2 : (I 2 i).toNatClampNeg = pb I i := rfl
    have fin : ∀ w : Int64, fX3_boundFromParts_114 (nI i) i w I J = some (cap (w + rmX (I 5 i) (I 10 i)), I, J) := by
      intro w
      unfold fX3_boundFromParts_114 fX3_roundingMiss
      rw [if_pos (nok (by omega)), ncl (by omega)]
      unfold rmX cap
      by_cases c : I 5 i = 1
      · rw [if_pos c, bnd_eq, if_pos c]
      · rw [if_neg c, bnd_eq, if_neg c]
    rw [if_pos o1, twoX, bnd_eq, c1]
    by_cases ct : (I 0 i).toInt ≤ 5
    · rw [if_pos (show 2 ≤ (I 0 i).toInt ∧ (I 0 i).toInt ≤ 5 from ⟨p5, ct⟩), if_neg o10, if_pos o2, c2]
      unfold fX3_boundFromParts_52 byX
      by_cases c4 : I 0 i = 4
      · rw [if_pos c4, if_pos c4]
        unfold fX3_boundOfProduct pdX
        by_cases m1 : J 5 (pa I i) = 1073741824
        · rw [if_pos m1, if_pos m1, bnd_eq, fin]
        · rw [if_neg m1, if_neg m1]
          by_cases m2 : J 5 (pb I i) = 1073741824
          · rw [if_pos m2, if_pos m2, bnd_eq, fin]
          · rw [if_neg m2, if_neg m2, if_pos o1, if_pos o2, c1, c2, bnd_eq, fin, hR _ (show pa I i < n by omega), hR _ (show pb I i < n by omega)]
      · rw [if_neg c4, if_neg c4]
        by_cases c5 : I 0 i = 5
        · rw [if_pos c5, if_pos c5, fin]; rfl
        · rw [if_neg c5, if_neg c5, if_pos ct, fin]
    · have n4 : ¬ I 0 i = 4 := fun e => ct (by rw [e]; decide)
      have n5 : ¬ I 0 i = 5 := fun e => ct (by rw [e]; decide)
      rw [if_neg (show ¬ (2 ≤ (I 0 i).toInt ∧ (I 0 i).toInt ≤ 5) from fun z => ct z.2), if_pos rfl]
      unfold fX3_boundFromParts_52 byX
      rw [if_neg n4, if_neg n5, if_neg n4, if_neg n5, if_neg ct, fin, Int64.add_zero]
theorem triedX {n : Nat} {I : TI} {J0 : TJ} (h : Ok n I J0) {R : Nat → Int64} (hR : ∀ k, k < n → J0 2 k = R k) {v : Nat} (hv : v < n) : ∀ d i, i + d = v + 1 → ∀ m, d < m → ∀ J : TJ, (∀ c, c ≠ 5 → J c = J0 c) → (∀ j, j < i → J 5 j = bdv I R (I 10) j) → ∃ J', fX3_boundTried_2 m (nI v) (nI i) I J = some (bdv I R (I 10) v, I, J') ∧ (∀ c, c ≠ 5 → J' c = J0 c) ∧ ∀ j, j ≤ v → J' 5 j = bdv I R (I 10) j := by
  have hn := h.1
  intro d
  induction d with
  | zero =>
    intro i hi m hm J hJ h5
    obtain ⟨m, rfl⟩ : ∃ m', m = m' + 1 := ⟨m - 1, by omega⟩
    refine ⟨J, ?_, hJ, fun j hj => h5 j (by omega)⟩
    rw [eX3_boundTried_2, if_pos (by rw [nlt (by omega) (by omega)]; omega), if_pos (nok (by omega)), ncl (by omega), h5 v (by omega)]
  | succ d ih =>
    intro i hi m hm J hJ h5
    obtain ⟨m, rfl⟩ : ∃ m', m = m' + 1 := ⟨m - 1, by omega⟩
    have oJ : Ok n I J := h.cong (fun _ _ _ _ => rfl) (fun _ _ _ => rfl) (fun k hk => by rw [hJ 0 (by decide)]) (fun k hk => by rw [hJ 1 (by decide)])
    have rJ : ∀ k, k < n → J 2 k = R k := fun k hk => by rw [hJ 2 (by decide)]; exact hR k hk
    rw [eX3_boundTried_2, if_neg (by rw [nlt (by omega) (by omega)]; omega), bfpX oJ rJ (show i < n by omega), bnd_eq, if_pos (nok (by omega)), ncl (by omega), nsc]
    have vB := valA_eq (locB h R (I 10)) (show i < n by omega) h5
    refine ih (i + 1) (by omega) m (by omega) _ (fun c hc => ?_) (fun j hj => ?_)
    · show sJ J 5 _ c = _
      rw [sJ_ne hc]; exact hJ c hc
    · by_cases e : j = i
      · subst e; rw [J_eq]; exact vB
      · rw [J_ne e]; exact h5 j (by omega)
theorem bdX {n : Nat} {I : TI} {J : TJ} (h : Ok n I J) {R : Nat → Int64} (hR : ∀ k, k < n → J 2 k = R k) {v : Nat} (hv : v < n) : ∃ J', fX3_boundTried (nI v) I J = some (bdv I R (I 10) v, I, J') ∧ (∀ c, c ≠ 5 → J' c = J c) :=
  by
    obtain ⟨J', a, b, _⟩ := triedX h hR hv (v + 1) 0 (by omega) fuel (by have := h.1; unfold fuel; omega) J (fun _ _ => rfl) (fun j hj => by omega)
    exact ⟨J', a, b⟩
-- the model
theorem upM {z : Int64} (h1 : 0 ≤ z.toInt) (h2 : z.toInt ≤ 1297036692682702848) (K : TI) (L : TJ) : fX5_up z K L = some ((z + 65535) >>> ((16 : Int32).toInt64 &&& 63), K, L) := by
  have e0 : (0 : Int64).toInt = 0 := rfl
  have o1 : (1 : Int64).toInt = 1 := rfl
  have e5 : (65535 : Int64).toInt = 65535 := rfl
  have e1 : nI 16 = (16 : Int32) := rfl
  have s := sr64 (z + 65535) (k := 16) (by decide)
  rw [e1, a64 (by rw [e5]; omega) (by rw [e5]; omega), e5] at s
  have p2 : (2 : Int) ^ 16 = 65536 := rfl
  rw [p2] at s
  have d := div64 (x := z) (b := 65536) (p := 65536) rfl (by decide)
  rw [Int.tdiv_eq_ediv_of_nonneg h1] at d
  have r := rem64 (x := z) (b := 65536) (p := 65536) rfl (by decide)
  rw [Int.tdiv_eq_ediv_of_nonneg h1] at r
  unfold fX5_up
  by_cases c : (z - z / 65536 * 65536) ≤ (0 : Int64)
  · rw [if_pos c, Int64.add_zero]
    rw [le64, r, e0] at c
    have e9 : z / 65536 = (z + 65535) >>> ((16 : Int32).toInt64 &&& 63) := q64 (by rw [d, s]; omega)
    rw [e9]
  · rw [if_neg c]
    rw [le64, r, e0] at c
    have e9 : z / 65536 + 1 = (z + 65535) >>> ((16 : Int32).toInt64 &&& 63) := q64 (by rw [a64 (by rw [d, o1]; omega) (by rw [d, o1]; omega), d, o1, s]; omega)
    rw [e9]
theorem greM {k : Nat} (hk : k < 16) (K : TI) (L : TJ) : fX5_greatest (nI k) K L = some (rch (L 0 k) (L 1 k), K, L) := by
  unfold fX5_greatest
  rw [if_pos (nok hk), ncl (by omega), amtM, bnd_eq, amtM, bnd_eq, maxM, bnd_eq]
  rfl
theorem boundM {n : Nat} {K : TI} {L0 : TJ} (h : Ok n K L0) {v : Nat} (hv : v < n) : ∀ d i, i + d = v + 1 → ∀ m, d < m → ∀ L : TJ, (∀ c, c ≠ 2 → L c = L0 c) → (∀ j, j < i → L 2 j = bdv K (fun k => rch (L0 0 k) (L0 1 k)) (K 4) j) → ∃ L', fX5_bound_2 m (nI v) (nI i) K L = some (bdv K (fun k => rch (L0 0 k) (L0 1 k)) (K 4) v, K, L') ∧ (∀ c, c ≠ 2 → L' c = L0 c) := by
  have hn := h.1
  intro d
  induction d with
  | zero =>
    intro i hi m hm L hL h2
    obtain ⟨m, rfl⟩ : ∃ m', m = m' + 1 := ⟨m - 1, by omega⟩
    refine ⟨L, ?_, hL⟩
    rw [eX5_bound_2, if_pos (by rw [nlt (by omega) (by omega)]; omega), if_pos (nok (by omega)), ncl (by omega), h2 v (by omega)]
  | succ d ih =>
    intro i hi m hm L hL h2
    obtain ⟨m, rfl⟩ : ∃ m', m = m' + 1 := ⟨m - 1, by omega⟩
    have vB := valA_eq (locB h (fun k => rch (L0 0 k) (L0 1 k)) (K 4)) (show i < n by omega) h2
    have next : ∀ x : Int64, x = bdv K (fun k => rch (L0 0 k) (L0 1 k)) (K 4) i → ∃ L', fX5_bound_2 m (nI v) (nI (i + 1)) K (uJ L 2 i x) = some (bdv K (fun k => rch (L0 0 k) (L0 1 k)) (K 4) v, K, L') ∧ (∀ c, c ≠ 2 → L' c = L0 c) := by
      intro x hx
      refine ih (i + 1) (by omega) m (by omega) _ (fun c hc => ?_) (fun j hj => ?_)
      · show sJ L 2 _ c = _
        rw [sJ_ne hc]; exact hL c hc
      · by_cases e : j = i
        · subst e; rw [J_eq]; exact hx
        · rw [J_ne e]; exact h2 j (by omega)
    rw [eX5_bound_2, if_neg (by rw [nlt (by omega) (by omega)]; omega), if_pos (nok (by omega)), ncl (by omega)]
    unfold stB at vB
    by_cases g : gvn K i
    · rw [if_pos g] at vB
      have h1 : ¬ (1 : Int32) < K 0 i := by rcases g with e | e <;> rw [e] <;> decide
      rw [if_neg h1, nsc]
      exact next 0 vB
    · rw [if_neg g] at vB
      rcases (h.2 i (by omega)).1 with q | q
      · exact absurd q.gvn g
      obtain ⟨p1, p2, p3, p4, p5, p6, p7, p8, p9⟩ := q.parts (by omega)
      have h1 : (1 : Int32) < K 0 i := by rw [lt32]; show (1 : Int) < _; omega
      have o1 : okx (K 1 i) := by rw [p3]; exact nok (by omega)
      have o2 : okx (K 2 i) := by rw [p4]; exact nok (by omega)
      have c1 : (K 1 i).toNatClampNeg = pa K i := rfl
      have c2 : (K 2 i).toNatClampNeg = pb K i := rfl
      have hR : ∀ k, k < n → R26 ((fun k => rch (L0 0 k) (L0 1 k)) k) := fun k hk => rch_bd (h.2 k hk).2.2.2.1 (h.2 k hk).2.2.2.2.1
      have hbv : ∀ k, k < n → ¬ gvn K k → ∃ f, f ≤ 16 ∧ K 4 k = nI f := fun k hk hg => (h.valid.2 k hk hg).1
      have B1 : B30 (L 2 (pa K i)) := by rw [h2 _ p1]; exact bdv_bd h hR hbv _ (by omega)
      have B2 : B30 (L 2 (pb K i)) := by rw [h2 _ p2]; exact bdv_bd h hR hbv _ (by omega)
      -- the end of a step
      have fin : ∀ w by_ : Int64, w = rmX (K 5 i) (K 4 i) → by_ = byX (K 0 i) (rch (L0 0 (pa K i)) (L0 1 (pa K i))) (rch (L0 0 (pb K i)) (L0 1 (pb K i))) (L 2 (pa K i)) (L 2 (pb K i)) → ∃ L', fX5_bound_215 (fX5_bound_2 m) (nI v) (nI i) w by_ K L = some (bdv K (fun k => rch (L0 0 k) (L0 1 k)) (K 4) v, K, L') ∧ (∀ c, c ≠ 2 → L' c = L0 c) := by
        intro w by_ hw hby
        unfold fX5_bound_215
        rw [minM, bnd_eq, if_pos (nok (by omega)), ncl (by omega), nsc]
        refine next _ ?_
        rw [hw, hby]
        exact vB
      have mid : ∀ w : Int64, w = rmX (K 5 i) (K 4 i) → ∃ L', fX5_bound_58 (fX5_bound_2 m) (nI v) (nI i) w K L = some (bdv K (fun k => rch (L0 0 k) (L0 1 k)) (K 4) v, K, L') ∧ (∀ c, c ≠ 2 → L' c = L0 c) := by
        intro w hw
        unfold fX5_bound_58
        rw [if_pos (nok (by omega)), ncl (by omega), if_pos o1, if_pos o2, c1, c2]
        have k2 : (2 : Int32).toInt = 2 := rfl
        by_cases d2 : K 0 i = 2
        · rw [if_pos d2]
          exact fin _ _ hw (by unfold byX; rw [if_neg (by rw [d2]; decide), if_neg (by rw [d2]; decide), if_pos (by rw [d2]; decide)])
        rw [if_neg d2]
        by_cases d3 : K 0 i = 3
        · rw [if_pos d3]
          exact fin _ _ hw (by unfold byX; rw [if_neg (by rw [d3]; decide), if_neg (by rw [d3]; decide), if_pos (by rw [d3]; decide)])
        rw [if_neg d3]
        by_cases d4 : K 0 i = 4
        · rw [if_pos d4]
          by_cases m1 : L 2 (pa K i) = 1073741824
          · rw [if_pos m1]
            exact fin _ _ hw (by unfold byX pdX; rw [if_pos d4, if_pos m1])
          rw [if_neg m1]
          by_cases m2 : L 2 (pb K i) = 1073741824
          · rw [if_pos m2]
            exact fin _ _ hw (by unfold byX pdX; rw [if_pos d4, if_neg m1, if_pos m2])
          rw [if_neg m2, p3, greM (by omega), bnd_eq, p4, greM (by omega), bnd_eq, hL 0 (by decide), hL 1 (by decide)]
          obtain ⟨t1, t2, t3⟩ := tog (hR _ (show pa K i < n by omega)) (hR _ (show pb K i < n by omega)) B1 B2
          rw [upM (by rw [t1]; exact t2) (by rw [t1]; exact t3), bnd_eq]
          exact fin _ _ hw (by unfold byX pdX; rw [if_pos d4, if_neg m1, if_neg m2])
        rw [if_neg d4]
        by_cases d5 : K 0 i = 5
        · rw [if_pos d5, maxM, bnd_eq]
          exact fin _ _ hw (by unfold byX; rw [if_neg d4, if_pos d5]; rfl)
        rw [if_neg d5]
        have n5 : ¬ (K 0 i).toInt ≤ 5 := by
          intro z
          have q2 : (K 0 i).toInt ≠ 2 := fun e => d2 (q32 e)
          have q3 : (K 0 i).toInt ≠ 3 := fun e => d3 (q32 e)
          have q4 : (K 0 i).toInt ≠ 4 := fun e => d4 (q32 e)
          have q5 : (K 0 i).toInt ≠ 5 := fun e => d5 (q32 e)
          omega
        exact fin _ _ hw (by unfold byX; rw [if_neg d4, if_neg d5, if_neg n5])
      rw [if_pos h1]
      by_cases r1 : K 5 i = 1
      · rw [if_pos r1]
        refine mid _ ?_
        unfold rmX
        rw [if_pos r1, p8]; exact rmM1 _ (by omega)
      · rw [if_neg r1]
        refine mid _ ?_
        unfold rmX
        rw [if_neg r1, p8]; exact rmM2 _ (by omega)
theorem bdMo {n : Nat} {K : TI} {L : TJ} (h : Ok n K L) {v : Nat} (hv : v < n) : ∃ L', fX5_bound (nI v) K L = some (bdv K (fun k => rch (L 0 k) (L 1 k)) (K 4) v, K, L') ∧ (∀ c, c ≠ 2 → L' c = L c) :=
  boundM h hv (v + 1) 0 (by omega) fuel (by have := h.1; unfold fuel; omega) L (fun _ _ => rfl) (fun j hj => by omega)
