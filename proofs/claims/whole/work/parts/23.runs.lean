/-! the runs: with INPUTS as SET, by the class and by the model -/
theorem asSetX {n : Nat} {I0 : TI} {J : TJ} (h : Ok n I0 J) {v : Nat} (hv : v < n) : ∀ d i, i + d = v + 1 → ∀ m, d < m → ∀ I : TI, (∀ c, c ≠ 8 → I c = I0 c) → (∀ j, j < i → I 8 j = I0 7 j) → ∃ I' J', fX1_workOutAsSet_2 m (nI v) (nI i) I J = some ((), I', J') ∧ (∀ c, c ≠ 8 → I' c = I0 c) ∧ (∀ c, c ≠ 3 → c ≠ 4 → J' c = J c) ∧ J' 3 v = exv I0 (I0 7) v ∧ J' 4 v = tuv I0 (I0 7) v := by
  have hn := h.1
  intro d
  induction d with
  | zero =>
    intro i hi m hm I hI h8
    obtain ⟨m, rfl⟩ : ∃ m', m = m' + 1 := ⟨m - 1, by omega⟩
    rw [eX1_workOutAsSet_2, if_pos (by rw [nlt (by omega) (by omega)]; omega)]
    have okI : Ok n I J := by
      refine ⟨h.1, fun k hk => ?_⟩
      have q := h.2 k hk
      unfold OkV Gn Wk dn at *
      simp only [hI 0 (by decide), hI 1 (by decide), hI 2 (by decide), hI 3 (by decide), hI 4 (by decide), hI 5 (by decide), hI 6 (by decide), hI 7 (by decide)]
      exact q
    obtain ⟨J', a1, a2, a3⟩ := workX okI hv (v + 1) 0 (by omega) fuel (by unfold fuel; omega) J (fun j hj => by omega)
    have e1 : fX1_workOut (nI v) I J = some ((), I, J') := a1
    rw [e1]
    refine ⟨I, J', rfl, hI, a2, ?_⟩
    have g := a3 v (Nat.le_refl v)
    have s1 : ∀ k, k < v + 1 → ∀ E, stE I (I 8) k E = stE I0 (I0 7) k E := by
      intro k hk E
      unfold stE pa pb
      simp only [gvn, hI 0 (by decide), hI 1 (by decide), hI 2 (by decide), h8 k (by omega)]
    have s2 : ∀ k, k < v + 1 → ∀ E, stT I (I 8) k E = stT I0 (I0 7) k E := by
      intro k hk E
      unfold stT pa pb fb
      simp only [gvn, hI 0 (by decide), hI 1 (by decide), hI 2 (by decide), hI 4 (by decide), hI 5 (by decide), h8 k (by omega)]
    exact ⟨g.1.trans (valA_cong' s1 (by omega)), g.2.trans (valA_cong' s2 (by omega))⟩
  | succ d ih =>
    intro i hi m hm I hI h8
    obtain ⟨m, rfl⟩ : ∃ m', m = m' + 1 := ⟨m - 1, by omega⟩
    rw [eX1_workOutAsSet_2, if_neg (by rw [nlt (by omega) (by omega)]; omega), if_pos (nok (by omega)), ncl (by omega), nsc]
    refine ih (i + 1) (by omega) m (by omega) _ ?_ ?_
    · intro c hc
      show sI I 8 _ c = _
      rw [sI_ne hc]; exact hI c hc
    · intro j hj
      show (if j = i then I 7 i else I 8 j) = _
      by_cases c : j = i
      · rw [if_pos c, c, hI 7 (by decide)]
      · rw [if_neg c]; exact h8 j (by omega)
theorem runSetX {n : Nat} {I : TI} {J : TJ} (h : Ok n I J) {v : Nat} (hv : v < n) : ∃ I' J', fX1_workOutAsSet (nI v) I J = some ((), I', J') ∧ (∀ c, c ≠ 8 → I' c = I c) ∧ (∀ c, c ≠ 3 → c ≠ 4 → J' c = J c) ∧ J' 3 v = exv I (I 7) v ∧ J' 4 v = tuv I (I 7) v :=
  asSetX h hv (v + 1) 0 (by omega) fuel (by have := h.1; unfold fuel; omega) I (fun _ _ => rfl) (fun j hj => by omega)
-- divisibility: what a VALUE is EXACTLY
theorem dv_mono {a b : Nat} {x : Int} (h : a ≤ b) (hx : dv a x) : dv b x := by
  unfold dv at *
  refine Int.dvd_trans ?_ hx
  have : 4 - a = (4 - b) + ((4 - a) - (4 - b)) := by omega
  rw [this, Int.pow_add]
  exact Int.dvd_mul_right _ _
theorem dv_of4 {x : Int} (h : x % 4096 = 0) : dv 1 x := by
  unfold dv
  exact Int.dvd_of_emod_eq_zero h
theorem bm_dvd {d z : Int} (hd : d ∣ 18446744073709551616) (h : d ∣ z) : d ∣ z.bmod (2 ^ 64) := by
  have hm : d ∣ ((2 ^ 64 : Nat) : Int) := hd
  have e : d ∣ z % ((2 ^ 64 : Nat) : Int) := by
    rw [Int.emod_def]
    exact Int.dvd_sub h (Int.dvd_trans hm (Int.dvd_mul_right _ _))
  rw [Int.bmod_def]
  split
  · exact e
  · exact Int.dvd_sub e hm
theorem pw_dvd (k : Nat) (hk : k ≤ 8) : (16 : Int) ^ k ∣ 18446744073709551616 := by
  have : ∀ k, k < 9 → (16 : Int) ^ k ∣ 18446744073709551616 := by decide +kernel
  exact this k (by omega)
theorem prod_dvd {a b : Nat} {x y : Int} (ha : a ≤ 4) (hb : b ≤ 4) (hab : a + b ≤ 4) (hx : dv a x) (hy : dv b y) : (16 : Int) ^ (8 - (a + b)) ∣ x * y := by
  unfold dv at hx hy
  have : 8 - (a + b) = (4 - a) + (4 - b) := by omega
  rw [this, Int.pow_add]
  exact Int.mul_dvd_mul hx hy
theorem p16 (k : Nat) (h : 4 ≤ k) : (65536 : Int) ∣ 16 ^ k := by
  obtain ⟨j, rfl⟩ : ∃ j, k = 4 + j := ⟨k - 4, by omega⟩
  rw [Int.pow_add]
  exact Int.dvd_mul_right _ _
theorem exF_dv {kd : Int32} {x y : Int64} {a b d : Nat} (ha : a ≤ 4) (hb : b ≤ 4) (hd : d ≤ 4) (hx : dv a x.toInt) (hy : dv b y.toInt) (h : if kd = 4 then d = a + b else a ≤ d ∧ (kd.toInt ≤ 5 → b ≤ d)) : dv d (exF kd x y).toInt ∧ (kd = 4 → (65536 : Int) ∣ (rsl kd x y).toInt) := by
  by_cases c4 : kd = 4
  · subst c4
    rw [if_pos rfl] at h
    have e0 : rsl 4 x y = x * y := rfl
    have p1 := prod_dvd ha hb (by omega) hx hy
    have p2 : (16 : Int) ^ (8 - (a + b)) ∣ (x * y).toInt := by
      rw [Int64.toInt_mul]
      exact bm_dvd (pw_dvd _ (by omega)) p1
    have p3 : (65536 : Int) ∣ (x * y).toInt := Int.dvd_trans (p16 _ (by omega)) p2
    refine ⟨?_, fun _ => by rw [e0]; exact p3⟩
    unfold exF
    rw [if_pos rfl, e0]
    have e1 : nI 16 = (16 : Int32) := rfl
    have e2 := sr64 (x * y) (k := 16) (by decide)
    rw [e1] at e2
    rw [e2]
    unfold dv
    obtain ⟨w, hw⟩ := p2
    have e3 : (16 : Int) ^ (8 - (a + b)) = 2 ^ 16 * 16 ^ (4 - d) := by
      have : 8 - (a + b) = 4 + (4 - d) := by omega
      rw [this, Int.pow_add]; rfl
    rw [hw, e3, Int.mul_assoc, Int.mul_ediv_cancel_left _ (by decide)]
    exact Int.dvd_mul_right _ _
  · rw [if_neg c4] at h
    refine ⟨?_, fun z => absurd z c4⟩
    unfold exF
    rw [if_neg c4]
    have hx' := dv_mono h.1 hx
    have pd : (16 : Int) ^ (4 - d) ∣ 18446744073709551616 := pw_dvd _ (by omega)
    unfold rsl
    by_cases c2 : kd = 2
    · rw [if_pos c2, Int64.toInt_add]
      have hy' := dv_mono (h.2 (by rw [c2]; decide)) hy
      exact bm_dvd pd (Int.dvd_add hx' hy')
    rw [if_neg c2]
    by_cases c3 : kd = 3
    · rw [if_pos c3, Int64.toInt_sub]
      have hy' := dv_mono (h.2 (by rw [c3]; decide)) hy
      exact bm_dvd pd (Int.dvd_sub hx' hy')
    rw [if_neg c3, if_neg c4]
    by_cases c5 : kd = 5
    · rw [if_pos c5]
      have hy' := dv_mono (h.2 (by rw [c5]; decide)) hy
      split
      · exact hx'
      · exact hy'
    rw [if_neg c5]
    by_cases c6 : kd = 6
    · rw [if_pos c6]
      split
      · exact hx'
      · rw [Int64.toInt_neg]
        exact bm_dvd pd (Int.dvd_neg.mpr hx')
    · rw [if_neg c6]; exact hx'
theorem Wk.deg {I : TI} {k : Nat} (hk : k ≤ 16) (h : Wk I k) : if I 0 k = 4 then dn I k = dn I (pa I k) + dn I (pb I k) else dn I (pa I k) ≤ dn I k ∧ ((I 0 k).toInt ≤ 5 → dn I (pb I k) ≤ dn I k) := by
  obtain ⟨a, b, f, w, h1, h2, h3, h4, _, _, _, _, _, _, _, _, hd⟩ := h
  have e1 : pa I k = a := by unfold pa; rw [h3, ncl (by omega)]
  have e2 : pb I k = b := by unfold pb; rw [h4, ncl (by omega)]
  rw [e1, e2]; exact hd
theorem exv_dv {n : Nat} {I : TI} {J : TJ} (h : Ok n I J) (row : Nat → Int32) (hrow : ∀ k, k < n → gvn I k → (row k).toInt % 4096 = 0) : ∀ k, k < n → dv (dn I k) (exv I row k).toInt := by
  intro k
  induction k using Nat.strongRecOn with
  | ind k ih =>
    intro hk
    have hE : ∀ j, j < k → runA (stE I row) k j = exv I row j := fun j hj => runA_lt _ k j hj
    unfold exv valA stE
    by_cases hg : gvn I k
    · rw [if_pos hg, w64]
      rcases (h.2 k hk).1 with q | q
      · have e3 : dn I k = 1 := by unfold dn; rw [q.2.2.2.1]; rfl
        rw [e3]
        exact dv_of4 (hrow k hk hg)
      · exact absurd hg q.ngv
    · rw [if_neg hg]
      rcases (h.2 k hk).1 with q | q
      · exact absurd q.gvn hg
      · have hn := h.1
        obtain ⟨p1, p2, _⟩ := q.parts (by omega)
        have d1 := h.2 _ (show pa I k < n by omega)
        have d2 := h.2 _ (show pb I k < n by omega)
        have d3 := h.2 k hk
        have i1 := ih _ p1 (by omega)
        have i2 := ih _ p2 (by omega)
        rw [← hE _ p1] at i1
        rw [← hE _ p2] at i2
        exact (exF_dv d1.2.2.1 d2.2.2.1 d3.2.2.1 i1 i2 (q.deg (by omega))).1
-- the model's run
def rwM (K : TI) (k : Nat) : Int32 := if K 0 k = 0 then K 7 k else K 1 k
theorem runM {n : Nat} {K : TI} {L0 : TJ} (h : Ok n K L0) {v : Nat} (hv : v < n) (hrow : ∀ k, k < n → gvn K k → (rwM K k).toInt % 4096 = 0) : ∀ d i, i + d = v + 1 → ∀ m, d < m → ∀ L : TJ, (∀ j, j < i → L 3 j = exv K (rwM K) j ∧ L 4 j = tuv K (rwM K) j) → ∃ L', fX5_runs_2 m (nI v) (nI i) K L = some ((), K, L') ∧ (∀ c, c ≠ 3 → c ≠ 4 → L' c = L c) ∧ ∀ j, j ≤ v → L' 3 j = exv K (rwM K) j ∧ L' 4 j = tuv K (rwM K) j := by
  have hn := h.1
  intro d
  induction d with
  | zero =>
    intro i hi m hm L hL
    obtain ⟨m, rfl⟩ : ∃ m', m = m' + 1 := ⟨m - 1, by omega⟩
    refine ⟨L, ?_, fun _ _ _ => rfl, fun j hj => hL j (by omega)⟩
    rw [eX5_runs_2, if_pos (by rw [nlt (by omega) (by omega)]; omega)]
  | succ d ih =>
    intro i hi m hm L hL
    obtain ⟨m, rfl⟩ : ∃ m', m = m' + 1 := ⟨m - 1, by omega⟩
    rw [eX5_runs_2, if_neg (by rw [nlt (by omega) (by omega)]; omega), if_pos (nok (by omega)), ncl (by omega)]
    have next : ∀ x y : Int64, x = exv K (rwM K) i → y = tuv K (rwM K) i → ∀ L1 : TJ, L1 = uJ (uJ L 3 i x) 4 i y → ∃ L', fX5_runs_2 m (nI v) (nI i + 1) K L1 = some ((), K, L') ∧ (∀ c, c ≠ 3 → c ≠ 4 → L' c = L c) ∧ ∀ j, j ≤ v → L' 3 j = exv K (rwM K) j ∧ L' 4 j = tuv K (rwM K) j := by
      intro x y hx hy L1 e1
      rw [nsc]
      obtain ⟨L', a1, a2, a3⟩ := ih (i + 1) (by omega) m (by omega) L1 (by
        intro j hj
        subst e1
        have e3 : (uJ (uJ L 3 i x) 4 i y) 3 j = if j = i then x else L 3 j := by
          show (sJ (uJ L 3 i x) 4 _) 3 j = _
          rw [sJ_ne (by decide)]; rfl
        have e4 : (uJ (uJ L 3 i x) 4 i y) 4 j = if j = i then y else L 4 j := rfl
        rw [e3, e4]
        by_cases c : j = i
        · rw [if_pos c, if_pos c, c]; exact ⟨hx, hy⟩
        · rw [if_neg c, if_neg c]; exact hL j (by omega))
      refine ⟨L', a1, fun c c3 c4 => ?_, a3⟩
      rw [a2 c c3 c4, e1]
      show (sJ (sJ L 3 _) 4 _) c = _
      rw [sJ_ne c4, sJ_ne c3]
    have hE : ∀ j, j < i → L 3 j = valA (stE K (rwM K)) j := fun j hj => (hL j hj).1
    have hT : ∀ j, j < i → L 4 j = valA (stT K (rwM K)) j := fun j hj => (hL j hj).2
    have vE := valA_eq (locE h (rwM K)) (show i < n by omega) hE
    have vT := valA_eq (locT h (rwM K)) (show i < n by omega) hT
    by_cases hg : gvn K i
    · have h1 : ¬ (1 : Int32) < K 0 i := by rcases hg with e | e <;> rw [e] <;> decide
      rw [if_neg h1]
      unfold stE at vE; rw [if_pos hg] at vE
      unfold stT at vT; rw [if_pos hg] at vT
      have go : ∀ w : Int64, w = (rwM K i).toInt64 → ∃ L', fX5_runs_48 (fX5_runs_2 m) (nI v) (nI i) w (nI i) K L = some ((), K, L') ∧ (∀ c, c ≠ 3 → c ≠ 4 → L' c = L c) ∧ ∀ j, j ≤ v → L' 3 j = exv K (rwM K) j ∧ L' 4 j = tuv K (rwM K) j := by
        intro w hw
        unfold fX5_runs_48
        rw [if_pos (nok (by omega)), if_pos (nok (by omega)), ncl (by omega)]
        have e5 : (uJ L 3 i w) 3 i = w := by show (if i = i then w else _) = w; rw [if_pos rfl]
        rw [e5]
        exact next w w (by rw [hw]; exact vE) (by rw [hw]; exact vT) _ rfl
      by_cases h0 : K 0 i = 0
      · rw [if_pos h0]
        exact go _ (by unfold rwM; rw [if_pos h0])
      · rw [if_neg h0]
        exact go _ (by unfold rwM; rw [if_neg h0])
    · rcases (h.2 i (by omega)).1 with q | q
      · exact absurd q.gvn hg
      obtain ⟨p1, p2, p3, p4, p5, p6, p7, p8, p9⟩ := q.parts (by omega)
      have h1 : (1 : Int32) < K 0 i := by rw [lt32]; show (1 : Int) < _; omega
      rw [if_pos h1]
      unfold stE at vE; rw [if_neg hg] at vE
      unfold stT at vT; rw [if_neg hg] at vT
      have o1 : okx (K 1 i) := by rw [p3]; exact nok (by omega)
      have o2 : okx (K 2 i) := by rw [p4]; exact nok (by omega)
      have c1 : (K 1 i).toNatClampNeg = pa K i := rfl
      have c2 : (K 2 i).toNatClampNeg = pb K i := rfl
      have d1 := h.2 _ (show pa K i < n by omega)
      have d2 := h.2 _ (show pb K i < n by omega)
      have d3 := h.2 i (by omega)
      have y1 := exv_dv h (rwM K) hrow _ (show pa K i < n by omega)
      have y2 := exv_dv h (rwM K) hrow _ (show pb K i < n by omega)
      have l1 : L 3 (pa K i) = exv K (rwM K) (pa K i) := (hL _ p1).1
      have l2 : L 3 (pb K i) = exv K (rwM K) (pb K i) := (hL _ p2).1
      rw [← l1] at y1
      rw [← l2] at y2
      have xd := exF_dv d1.2.2.1 d2.2.2.1 d3.2.2.1 y1 y2 (q.deg (by omega))
      have b1 := tuv_bd K (rwM K) (pa K i)
      have b2 := tuv_bd K (rwM K) (pb K i)
      have t1 : L 4 (pa K i) = tuv K (rwM K) (pa K i) := (hL _ p1).2
      have t2 : L 4 (pb K i) = tuv K (rwM K) (pb K i) := (hL _ p2).2
      have hu := uM (fb K i) (by omega)
      rw [← p8] at hu
      have sp := shf_pw (K 0 i) p7
      -- what lies behind the exact part
      have tail : ∀ (w3 : Int32) (w0 bb : Int64), ¬ w0 = 0 → rsl (K 0 i) (L 3 (pa K i)) (L 3 (pb K i)) / w0 = exv K (rwM K) i → (if w3 = 0 then (((65536 : Int32) >>> ((K 4 i) &&& 31)).toInt64) else (65536 : Int64) * (((65536 : Int32) >>> ((K 4 i) &&& 31)).toInt64)) = bb → bb.toInt = 2 ^ shf (K 0 i) (fb K i) → ∃ L', fX5_runs_139 (fX5_runs_2 m) (nI v) (nI i) w3 (((65536 : Int32) >>> ((K 4 i) &&& 31)).toInt64) w0 (rsl (K 0 i) (L 3 (pa K i)) (L 3 (pb K i))) (nI i) K L = some ((), K, L') ∧ (∀ c, c ≠ 3 → c ≠ 4 → L' c = L c) ∧ ∀ j, j ≤ v → L' 3 j = exv K (rwM K) j ∧ L' 4 j = tuv K (rwM K) j := by
        intro w3 w0 bb hw0 hex hbb hb2
        obtain ⟨r, er, fr⟩ := tunedM (kd := K 0 i) (rnd := K 5 i) (I := K) (J := uJ L 3 i (rsl (K 0 i) (L 3 (pa K i)) (L 3 (pb K i)) / w0)) p7 hu hb2 (x := L 4 (pa K i)) (y := L 4 (pb K i)) (by rw [t1]; exact b1) (by rw [t2]; exact b2)
        have go : ∃ L', fX5_runs_189 (fX5_runs_2 m) (nI v) (nI i) bb (rsl (K 0 i) (L 4 (pa K i)) (L 4 (pb K i))) (((65536 : Int32) >>> ((K 4 i) &&& 31)).toInt64) K (uJ L 3 i (rsl (K 0 i) (L 3 (pa K i)) (L 3 (pb K i)) / w0)) = some ((), K, L') ∧ (∀ c, c ≠ 3 → c ≠ 4 → L' c = L c) ∧ ∀ j, j ≤ v → L' 3 j = exv K (rwM K) j ∧ L' 4 j = tuv K (rwM K) j := by
          unfold fX5_runs_189
          rw [if_pos (nok (by omega)), ncl (by omega), er]
          rw [bnd_eq]
          rw [minM]
          rw [bnd_eq]
          rw [maxM, bnd_eq]
          refine next _ (tuF (K 0 i) (fb K i) (K 5 i) (L 4 (pa K i)) (L 4 (pb K i))) hex vT _ ?_
          rw [← fr]
        unfold fX5_runs_139
        rw [if_neg hw0, if_pos (nok (by omega)), if_pos (nok (by omega)), ncl (by omega), if_pos o1, if_pos o2, doesM, c1, c2]
        rw [bnd_eq]
        by_cases z3 : w3 = 0
        · rw [if_pos z3] at hbb ⊢
          rw [hbb]; rw [hbb] at go; exact go
        · rw [if_neg z3] at hbb ⊢
          rw [hbb]; exact go
      by_cases c4 : K 0 i = 4
      · rw [if_pos c4]
        unfold fX5_runs_79
        rw [if_pos (nok (by omega)), ncl (by omega), if_pos o1, if_pos o2, doesM, c1, c2]
        rw [bnd_eq]
        rw [if_neg (by decide)]
        rw [if_pos c4] at sp
        refine tail 1 65536 _ (by decide) ?_ rfl ?_
        · rw [sh_div (xd.2 c4)]
          have : exF (K 0 i) (L 3 (pa K i)) (L 3 (pb K i)) = exv K (rwM K) i := vE
          unfold exF at this
          rw [if_pos c4] at this
          exact this
        · rw [if_neg (by decide), m64] <;> rw [hu] <;> have := pw_le16 (s := 16 - fb K i) (by omega) <;> have := pw_pos (16 - fb K i) <;> have e9 : (65536 : Int64).toInt = 65536 := rfl
          · rw [e9]; omega
          · rw [e9]; omega
          · rw [e9]; omega
      · rw [if_neg c4]
        unfold fX5_runs_79
        rw [if_pos (nok (by omega)), ncl (by omega), if_pos o1, if_pos o2, doesM, c1, c2]
        rw [bnd_eq]
        rw [if_pos rfl]
        rw [if_neg c4] at sp
        refine tail 0 1 _ (by decide) ?_ rfl ?_
        · rw [div_one]
          have : exF (K 0 i) (L 3 (pa K i)) (L 3 (pb K i)) = exv K (rwM K) i := vE
          unfold exF at this
          rw [if_neg c4] at this
          exact this
        · rw [if_pos rfl, hu, sp.1, Int.pow_zero, Int.mul_one]
theorem runSetM {n : Nat} {K : TI} {L : TJ} (h : Ok n K L) {v : Nat} (hv : v < n) (hrow : ∀ k, k < n → gvn K k → (rwM K k).toInt % 4096 = 0) : ∃ L', fX5_runs (nI v) K L = some ((), K, L') ∧ (∀ c, c ≠ 3 → c ≠ 4 → L' c = L c) ∧ L' 3 v = exv K (rwM K) v ∧ L' 4 v = tuv K (rwM K) v := by
  obtain ⟨L', a1, a2, a3⟩ := runM h hv hrow (v + 1) 0 (by omega) fuel (by have := h.1; unfold fuel; omega) L (fun j hj => by omega)
  exact ⟨L', a1, a2, a3 v (Nat.le_refl v)⟩
