/-! programs that are as they should be, and their runs -/
theorem nok {k : Nat} (h : k < 16) : okx (nI k) := ⟨nI_pos (by omega), by rw [nI_clamp (by omega)]; exact h⟩
theorem ncl {k : Nat} (h : k ≤ 16) : (nI k).toNatClampNeg = k := nI_clamp (by omega)
theorem nlt {a b : Nat} (ha : a ≤ 17) (hb : b ≤ 17) : nI a < nI b ↔ a < b := nI_ltI (by omega) (by omega)
theorem nle {a b : Nat} (ha : a ≤ 17) (hb : b ≤ 17) : nI a ≤ nI b ↔ a ≤ b := nI_leI (by omega) (by omega)
theorem nsc (a : Nat) : nI a + (1 : Int32) = nI (a + 1) := nI_1 a
def Num (x : Int32) : Prop := -4194304 ≤ x.toInt ∧ x.toInt ≤ 4194304 ∧ x.toInt % 4096 = 0
def dn (I : TI) (k : Nat) : Nat := (I 3 k).toNatClampNeg
def dv (d : Nat) (x : Int) : Prop := (16 : Int) ^ (4 - d) ∣ x
def Gn (I : TI) (J : TJ) (k : Nat) : Prop := ((I 0 k = 0 ∧ Num (I 2 k) ∧ (I 1 k).toInt ≤ (I 2 k).toInt ∧ J 1 k = (I 2 k).toInt64 ∧ Num (I 7 k) ∧ (I 1 k).toInt ≤ (I 7 k).toInt ∧ (I 7 k).toInt ≤ (I 2 k).toInt) ∨ (I 0 k = 1 ∧ I 2 k = 0 ∧ J 1 k = (I 1 k).toInt64)) ∧ Num (I 1 k) ∧ J 0 k = (I 1 k).toInt64 ∧ I 3 k = 1 ∧ I 4 k = 16 ∧ I 5 k = 0 ∧ I 6 k = 1
def Wk (I : TI) (k : Nat) : Prop := ∃ a b f w : Nat, a < k ∧ b < k ∧ I 1 k = nI a ∧ I 2 k = nI b ∧ 2 ≤ (I 0 k).toInt ∧ (I 0 k).toInt ≤ 7 ∧ (6 ≤ (I 0 k).toInt → b = 0) ∧ f ≤ 16 ∧ I 4 k = nI f ∧ (I 5 k = 0 ∨ I 5 k = 1 ∨ I 5 k = 2) ∧ w ≤ 100 ∧ I 6 k = nI w ∧ (if I 0 k = 4 then dn I k = dn I a + dn I b else dn I a ≤ dn I k ∧ ((I 0 k).toInt ≤ 5 → dn I b ≤ dn I k))
def OkV (I : TI) (J : TJ) (k : Nat) : Prop := (Gn I J k ∨ Wk I k) ∧ 1 ≤ dn I k ∧ dn I k ≤ 4 ∧ (-67108864 ≤ (J 0 k).toInt ∧ (J 0 k).toInt ≤ 67108864) ∧ (-67108864 ≤ (J 1 k).toInt ∧ (J 1 k).toInt ≤ 67108864) ∧ dv (dn I k) (J 0 k).toInt ∧ dv (dn I k) (J 1 k).toInt
def Ok (n : Nat) (I : TI) (J : TJ) : Prop := n ≤ 16 ∧ ∀ k, k < n → OkV I J k
abbrev gvn (I : TI) (k : Nat) : Prop := I 0 k = 0 ∨ I 0 k = 1
theorem Gn.gvn {I : TI} {J : TJ} {k : Nat} (h : Gn I J k) : gvn I k := h.1.elim (fun z => Or.inl z.1) (fun z => Or.inr z.1)
theorem Wk.ngv {I : TI} {k : Nat} (h : Wk I k) : ¬ gvn I k := by
  obtain ⟨a, b, f, w, _, _, _, _, h2, _⟩ := h
  rintro (e | e) <;> rw [e] at h2 <;> exact absurd h2 (by decide)
theorem givX (I : TI) (J : TJ) (k : Nat) : fX2_isGiven k I J = some (if gvn I k then 1 else 0, I, J) := by
  unfold fX2_isGiven
  by_cases h0 : I 0 k = 0
  · rw [if_pos h0, if_pos (Or.inl h0)]
  · rw [if_neg h0]
    by_cases h1 : I 0 k = 1
    · rw [if_pos h1, if_pos (Or.inr h1)]
    · rw [if_neg h1, if_neg (fun z => z.elim h0 h1)]
theorem twoX (kd : Int32) (I : TI) (J : TJ) : fX4_hasTwoParts kd I J = some (if 2 ≤ kd.toInt ∧ kd.toInt ≤ 5 then 1 else 0, I, J) := by
  unfold fX4_hasTwoParts
  have e2 : (2 : Int32).toInt = 2 := rfl
  have e5 : (5 : Int32).toInt = 5 := rfl
  by_cases h0 : kd < 2
  · rw [if_pos h0]; rw [lt32, e2] at h0; rw [if_neg (by omega)]
  · rw [if_neg h0]; rw [lt32, e2] at h0
    by_cases h1 : 5 < kd
    · rw [if_pos h1]; rw [lt32, e5] at h1; rw [if_neg (by omega)]
    · rw [if_neg h1]; rw [lt32, e5] at h1; rw [if_pos (by omega)]
theorem kd_ne {kd : Int32} {n : Nat} (l : Int32) (hl : l.toInt = n) (h : kd.toInt ≠ n) : ¬ kd = l := fun e => h (by rw [e, hl])
/-- of one part the other doesn't count -/
theorem rsl_one {kd : Int32} (h : 6 ≤ kd.toInt) (x y y' : Int64) : rsl kd x y = rsl kd x y' := by
  have h2 : ¬ kd = 2 := fun e => by rw [e] at h; exact absurd h (by decide)
  have h3 : ¬ kd = 3 := fun e => by rw [e] at h; exact absurd h (by decide)
  have h4 : ¬ kd = 4 := fun e => by rw [e] at h; exact absurd h (by decide)
  have h5 : ¬ kd = 5 := fun e => by rw [e] at h; exact absurd h (by decide)
  unfold rsl
  rw [if_neg h2, if_neg h3, if_neg h4, if_neg h5, if_neg h2, if_neg h3, if_neg h4, if_neg h5]
theorem exF_one {kd : Int32} (h : 6 ≤ kd.toInt) (x y y' : Int64) : exF kd x y = exF kd x y' := by unfold exF; rw [rsl_one h x y y']
theorem tuF_one {kd : Int32} (h : 6 ≤ kd.toInt) (f : Nat) (r : Int32) (x y y' : Int64) : tuF kd f r x y = tuF kd f r x y' := by unfold tuF tuI; rw [rsl_one h x y y']
def pa (I : TI) (k : Nat) : Nat := (I 1 k).toNatClampNeg
def pb (I : TI) (k : Nat) : Nat := (I 2 k).toNatClampNeg
def fb (I : TI) (k : Nat) : Nat := (I 4 k).toNatClampNeg
def stE (I : TI) (row : Nat → Int32) (k : Nat) (E : Nat → Int64) : Int64 := if gvn I k then (row k).toInt64 else exF (I 0 k) (E (pa I k)) (E (pb I k))
def stT (I : TI) (row : Nat → Int32) (k : Nat) (E : Nat → Int64) : Int64 := if gvn I k then (row k).toInt64 else tuF (I 0 k) (fb I k) (I 5 k) (E (pa I k)) (E (pb I k))
def runA (st : Nat → (Nat → Int64) → Int64) : Nat → Nat → Int64
  | 0 => fun _ => 0
  | k + 1 => fun j => if j = k then st k (runA st k) else runA st k j
def valA (st : Nat → (Nat → Int64) → Int64) (v : Nat) : Int64 := st v (runA st v)
theorem runA_lt (st : Nat → (Nat → Int64) → Int64) : ∀ i j, j < i → runA st i j = valA st j := by
  intro i
  induction i with
  | zero => intro j h; omega
  | succ i ih =>
    intro j h
    show (if j = i then _ else _) = _
    by_cases e : j = i
    · rw [if_pos e, e]; rfl
    · rw [if_neg e]; exact ih j (by omega)
/-- a step that looks at what is ahead alone -/
def loc (n : Nat) (st : Nat → (Nat → Int64) → Int64) : Prop := ∀ k, k < n → ∀ E E' : Nat → Int64, (∀ j, j < k → E j = E' j) → st k E = st k E'
theorem valA_eq {n : Nat} {st : Nat → (Nat → Int64) → Int64} (h : loc n st) {k : Nat} (hk : k < n) {E : Nat → Int64} (hE : ∀ j, j < k → E j = valA st j) : st k E = valA st k :=
  h k hk _ _ (fun j hj => by rw [hE j hj, runA_lt st k j hj])
theorem valA_cong {n : Nat} {st st' : Nat → (Nat → Int64) → Int64} (h : ∀ k, k < n → ∀ E, st k E = st' k E) : ∀ k, k ≤ n → runA st k = runA st' k := by
  intro k
  induction k with
  | zero => intro _; rfl
  | succ k ih =>
    intro hk
    funext j
    show (if j = k then _ else _) = (if j = k then _ else _)
    rw [ih (by omega), h k (by omega)]
theorem valA_cong' {n : Nat} {st st' : Nat → (Nat → Int64) → Int64} (h : ∀ k, k < n → ∀ E, st k E = st' k E) {k : Nat} (hk : k < n) : valA st k = valA st' k := by
  unfold valA; rw [valA_cong h k (by omega), h k hk]
def exv (I : TI) (row : Nat → Int32) (v : Nat) : Int64 := valA (stE I row) v
def tuv (I : TI) (row : Nat → Int32) (v : Nat) : Int64 := valA (stT I row) v
/-- of a worked VALUE: its parts are ahead -/
theorem Wk.parts {I : TI} {k : Nat} (hk : k ≤ 16) (h : Wk I k) : pa I k < k ∧ pb I k < k ∧ I 1 k = nI (pa I k) ∧ I 2 k = nI (pb I k) ∧ 2 ≤ (I 0 k).toInt ∧ (I 0 k).toInt ≤ 7 ∧ fb I k ≤ 16 ∧ I 4 k = nI (fb I k) ∧ (I 5 k = 0 ∨ I 5 k = 1 ∨ I 5 k = 2) := by
  obtain ⟨a, b, f, w, h1, h2, h3, h4, h5, h6, _, h7, h8, h9, _⟩ := h
  have e1 : pa I k = a := by unfold pa; rw [h3, ncl (by omega)]
  have e2 : pb I k = b := by unfold pb; rw [h4, ncl (by omega)]
  have e3 : fb I k = f := by unfold fb; rw [h8, ncl (by omega)]
  rw [e1, e2, e3]
  exact ⟨h1, h2, h3, h4, h5, h6, h7, h8, h9⟩
theorem locE {n : Nat} {I : TI} {J : TJ} (h : Ok n I J) (row : Nat → Int32) : loc n (stE I row) := by
  intro k hk E E' he
  unfold stE
  split
  · rfl
  · rename_i hg
    rcases (h.2 k hk).1 with q | q
    · exact absurd q.gvn hg
    · obtain ⟨a, b, _⟩ := q.parts (by have := h.1; omega)
      rw [he _ a, he _ b]
theorem locT {n : Nat} {I : TI} {J : TJ} (h : Ok n I J) (row : Nat → Int32) : loc n (stT I row) := by
  intro k hk E E' he
  unfold stT
  split
  · rfl
  · rename_i hg
    rcases (h.2 k hk).1 with q | q
    · exact absurd q.gvn hg
    · obtain ⟨a, b, _⟩ := q.parts (by have := h.1; omega)
      rw [he _ a, he _ b]
theorem stT_bd (I : TI) (row : Nat → Int32) (k : Nat) (E : Nat → Int64) : -2147483648 ≤ (stT I row k E).toInt ∧ (stT I row k E).toInt ≤ 2147483648 := by
  unfold stT
  split
  · rw [w64]; have := r32 (row k); omega
  · exact tuF_bd _ _ _ _ _
theorem tuv_bd (I : TI) (row : Nat → Int32) (k : Nat) : -2147483648 ≤ (tuv I row k).toInt ∧ (tuv I row k).toInt ≤ 2147483648 := stT_bd _ _ _ _
-- the class's run
theorem workX {n : Nat} {I : TI} {J0 : TJ} (h : Ok n I J0) {v : Nat} (hv : v < n) : ∀ d i, i + d = v + 1 → ∀ m, d < m → ∀ J : TJ, (∀ j, j < i → J 3 j = exv I (I 8) j ∧ J 4 j = tuv I (I 8) j) → ∃ J', fX1_workOut_2 m (nI v) (nI i) I J = some ((), I, J') ∧ (∀ c, c ≠ 3 → c ≠ 4 → J' c = J c) ∧ ∀ j, j ≤ v → J' 3 j = exv I (I 8) j ∧ J' 4 j = tuv I (I 8) j := by
  have hn := h.1
  intro d
  induction d with
  | zero =>
    intro i hi m hm J hJ
    obtain ⟨m, rfl⟩ : ∃ m', m = m' + 1 := ⟨m - 1, by omega⟩
    refine ⟨J, ?_, fun _ _ _ => rfl, fun j hj => hJ j (by omega)⟩
    rw [eX1_workOut_2, if_pos (by rw [nlt (by omega) (by omega)]; omega)]
  | succ d ih =>
    intro i hi m hm J hJ
    obtain ⟨m, rfl⟩ : ∃ m', m = m' + 1 := ⟨m - 1, by omega⟩
    rw [eX1_workOut_2, if_neg (by rw [nlt (by omega) (by omega)]; omega), if_pos (nok (by omega)), ncl (by omega), givX]
    rw [bnd_eq]
    have next : ∀ x y : Int64, x = exv I (I 8) i → y = tuv I (I 8) i → ∀ J1 : TJ, J1 = uJ (uJ J 3 i x) 4 i y → ∃ J', fX1_workOut_2 m (nI v) (nI i + 1) I J1 = some ((), I, J') ∧ (∀ c, c ≠ 3 → c ≠ 4 → J' c = J c) ∧ ∀ j, j ≤ v → J' 3 j = exv I (I 8) j ∧ J' 4 j = tuv I (I 8) j := by
      intro x y hx hy J1 e1
      rw [nsc]
      obtain ⟨J', a1, a2, a3⟩ := ih (i + 1) (by omega) m (by omega) J1 (by
        intro j hj
        subst e1
        have e3 : (uJ (uJ J 3 i x) 4 i y) 3 j = if j = i then x else J 3 j := by
          show (sJ (uJ J 3 i x) 4 _) 3 j = _
          rw [sJ_ne (by decide)]; rfl
        have e4 : (uJ (uJ J 3 i x) 4 i y) 4 j = if j = i then y else J 4 j := rfl
        rw [e3, e4]
        by_cases c : j = i
        · rw [if_pos c, if_pos c, c]; exact ⟨hx, hy⟩
        · rw [if_neg c, if_neg c]; exact hJ j (by omega))
      refine ⟨J', a1, fun c c3 c4 => ?_, a3⟩
      rw [a2 c c3 c4, e1]
      show (sJ (sJ J 3 _) 4 _) c = _
      rw [sJ_ne c4, sJ_ne c3]
    have hE : ∀ j, j < i → J 3 j = valA (stE I (I 8)) j := fun j hj => (hJ j hj).1
    have hT : ∀ j, j < i → J 4 j = valA (stT I (I 8)) j := fun j hj => (hJ j hj).2
    have vE := valA_eq (locE h (I 8)) (show i < n by omega) hE
    have vT := valA_eq (locT h (I 8)) (show i < n by omega) hT
    by_cases hg : gvn I i
    · rw [if_pos hg, if_neg (by decide)]
      refine next _ _ ?_ ?_ _ rfl
      · unfold exv; rw [← vE]; unfold stE; rw [if_pos hg]
      · unfold tuv; rw [← vT]; unfold stT; rw [if_pos hg]
    · rw [if_neg hg, if_pos rfl, twoX]
      rcases (h.2 i (by omega)).1 with q | q
      · exact absurd q.gvn hg
      obtain ⟨p1, p2, p3, p4, p5, p6, p7, p8, p9⟩ := q.parts (by omega)
      unfold stE at vE; rw [if_neg hg] at vE
      unfold stT at vT; rw [if_neg hg] at vT
      -- the rest, for either second part
      have rest : ∀ b : Nat, b < i → exF (I 0 i) (J 3 (pa I i)) (J 3 b) = exv I (I 8) i → tuF (I 0 i) (fb I i) (I 5 i) (J 4 (pa I i)) (J 4 b) = tuv I (I 8) i → ∃ J', fX1_workOut_74 (fX1_workOut_2 m) (nI v) (nI i) i (nI b) I J = some ((), I, J') ∧ (∀ c, c ≠ 3 → c ≠ 4 → J' c = J c) ∧ ∀ j, j ≤ v → J' 3 j = exv I (I 8) j ∧ J' 4 j = tuv I (I 8) j := by
        intro b hb g1 g2
        unfold fX1_workOut_74
        have o1 : okx (I 1 i) := by rw [p3]; exact nok (by omega)
        have c1 : (I 1 i).toNatClampNeg = pa I i := rfl
        rw [if_pos o1, if_pos (nok (by omega)), exactlyX]
        rw [bnd_eq]
        rw [if_pos (nok (by omega)), if_pos o1, ncl (show b ≤ 16 by omega), ncl (show i ≤ 16 by omega), c1]
        have b1 := tuv_bd I (I 8) (pa I i)
        have b2 := tuv_bd I (I 8) b
        have t1 : J 4 (pa I i) = tuv I (I 8) (pa I i) := (hJ _ p1).2
        have t2 : J 4 b = tuv I (I 8) b := (hJ _ hb).2
        rw [tunedX p7 rfl p8 rfl p9 (by rw [t1]; exact b1) (by rw [t2]; exact b2)]
        exact next _ _ g1 g2 _ rfl
      by_cases ht : 2 ≤ (I 0 i).toInt ∧ (I 0 i).toInt ≤ 5
      · rw [if_pos ht]
        rw [bnd_eq]
        rw [if_neg (by decide)]
        rw [p4]
        exact rest (pb I i) p2 vE vT
      · rw [if_neg ht]
        rw [bnd_eq]
        rw [if_pos rfl]
        rw [p3]
        exact rest (pa I i) p1 ((exF_one (by omega) _ _ _).trans vE) ((tuF_one (by omega) _ _ _ _ _).trans vT)
