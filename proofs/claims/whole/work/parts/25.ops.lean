theorem o10 : ¬ (1 : Int32) = 0 := by decide
/-! calls that build and change a program: both answer alike -/
def Bo {α : Type} (x m : Option (α × SS)) : Prop := ∃ (r : α) (I' : TI) (J' : TJ) (K' : TI) (L' : TJ) (n' : Nat), x = some (r, I', J') ∧ m = some (r, K', L') ∧ Cp n' I' J' K' L'
theorem Bo.mk {α : Type} {x m : Option (α × SS)} {r : α} {I' : TI} {J' : TJ} {K' : TI} {L' : TJ} {n' : Nat} (h : Cp n' I' J' K' L') (hx : x = some (r, I', J')) (hm : m = some (r, K', L')) : Bo x m := ⟨r, I', J', K', L', n', hx, hm, h⟩
theorem Cp.n16 {n : Nat} {I : TI} {J : TJ} {K : TI} {L : TJ} (h : Cp n I J K L) : n ≤ 16 := h.1.1
theorem Cp.x {n : Nat} {I : TI} {J : TJ} {K : TI} {L : TJ} (h : Cp n I J K L) : I 12 0 = nI n := h.2.1
theorem Cp.m {n : Nat} {I : TI} {J : TJ} {K : TI} {L : TJ} (h : Cp n I J K L) : K 13 0 = nI n := h.2.2.1
theorem Cp.c {n : Nat} {I : TI} {J : TJ} {K : TI} {L : TJ} (h : Cp n I J K L) {k : Nat} (hk : k < n) {c : Nat} (hc : c < 7) : K c k = I c k := (h.2.2.2.1 k hk).1 c hc
theorem Ok.kd {n : Nat} {I : TI} {J : TJ} (h : Ok n I J) {k : Nat} (hk : k < n) : I 0 k ≤ 1 ↔ gvn I k := by
  have e : (1 : Int32).toInt = 1 := rfl
  constructor
  · intro q
    rcases (h.2 k hk).1 with g | g
    · exact g.gvn
    · obtain ⟨a, b, f, w, _, _, _, _, h2, _⟩ := g
      rw [le32, e] at q; omega
  · rintro (q | q) <;> rw [q] <;> decide
theorem wkX0 {n : Nat} {I : TI} {J : TJ} {v : Int32} (h : I 12 0 = nI n) (hv : v < 0 ∨ nI n ≤ v) : fX0_isWorked v I J = some (0, I, J) := by
  unfold fX0_isWorked
  rw [hasX0 h hv, bnd_eq, if_pos rfl]
theorem wkX1 {n : Nat} {I : TI} {J : TJ} {k : Nat} (h : I 12 0 = nI n) (hn : n ≤ 16) (hk : k < n) : fX0_isWorked (nI k) I J = some (if gvn I k then 0 else 1, I, J) := by
  unfold fX0_isWorked
  rw [hasX1 h hn hk, bnd_eq, if_neg o10, if_pos (nok (by omega)), ncl (by omega), givX, bnd_eq]
  by_cases g : gvn I k
  · rw [if_pos g, if_neg o10, if_pos g]
  · rw [if_neg g, if_pos rfl, if_neg g]
theorem inpX0 {n : Nat} {I : TI} {J : TJ} {v : Int32} (h : I 12 0 = nI n) (hv : v < 0 ∨ nI n ≤ v) : fX0_isInput v I J = some (0, I, J) := by
  unfold fX0_isInput
  rw [hasX0 h hv, bnd_eq, if_pos rfl]
theorem inpX1 {n : Nat} {I : TI} {J : TJ} {k : Nat} (h : I 12 0 = nI n) (hn : n ≤ 16) (hk : k < n) : fX0_isInput (nI k) I J = some (if I 0 k = 0 then 1 else 0, I, J) := by
  unfold fX0_isInput
  rw [hasX1 h hn hk, bnd_eq, if_neg o10, if_pos (nok (by omega)), ncl (by omega)]
  by_cases g : I 0 k = 0
  · rw [if_pos g, if_pos g]
  · rw [if_neg g, if_neg g]
theorem wkM0 {n : Nat} {K : TI} {L : TJ} {v : Int32} (h : K 13 0 = nI n) (hn : n ≤ 16) (hv : v < 0 ∨ nI n ≤ v) : fX5_isWork v K L = some (0, K, L) := by
  unfold fX5_isWork
  rw [valM0 h hn hv, bnd_eq, if_pos rfl]
theorem wkM1 {n : Nat} {K : TI} {L : TJ} {k : Nat} (ho : Ok n K L) (h : K 13 0 = nI n) (hk : k < n) : fX5_isWork (nI k) K L = some (if gvn K k then 0 else 1, K, L) := by
  have hn := ho.1
  unfold fX5_isWork
  rw [valM1 h hn hk, bnd_eq, if_neg o10, if_pos (nok (by omega)), ncl (by omega)]
  by_cases g : gvn K k
  · rw [if_pos ((ho.kd hk).mpr g), if_pos g]
  · rw [if_neg (fun z => g ((ho.kd hk).mp z)), if_neg g]
theorem inpM0 {n : Nat} {K : TI} {L : TJ} {v : Int32} (h : K 13 0 = nI n) (hn : n ≤ 16) (hv : v < 0 ∨ nI n ≤ v) : fX5_isInput v K L = some (0, K, L) := by
  unfold fX5_isInput
  rw [valM0 h hn hv, bnd_eq, if_pos rfl]
theorem inpM1 {n : Nat} {K : TI} {L : TJ} {k : Nat} (h : K 13 0 = nI n) (hn : n ≤ 16) (hk : k < n) : fX5_isInput (nI k) K L = some (if K 0 k = 0 then 1 else 0, K, L) := by
  unfold fX5_isInput
  rw [valM1 h hn hk, bnd_eq, if_neg o10, if_pos (nok (by omega)), ncl (by omega)]
  by_cases g : K 0 k = 0
  · rw [if_pos g, if_pos g]
  · rw [if_neg g, if_neg g]
theorem gvn_c {n : Nat} {I : TI} {J : TJ} {K : TI} {L : TJ} (h : Cp n I J K L) {k : Nat} (hk : k < n) : gvn K k ↔ gvn I k := by
  unfold gvn; rw [h.c hk (c := 0) (by decide)]
-- cut
theorem Cp.down {n k : Nat} {I : TI} {J : TJ} {K : TI} {L : TJ} (h : Cp n I J K L) (hk : k ≤ n) : Cp k (uI I 12 0 (nI k)) J (uI K 13 0 (nI k)) L := by
  obtain ⟨h1, h2, h3, h4, h5⟩ := h
  have g1 : Ok k I J := ⟨by have := h1.1; omega, fun j hj => h1.2 j (by omega)⟩
  exact ⟨g1.cong (fun j hj c hc => by show sI I 12 _ c j = _; rw [sI_ne (by omega)]) (fun j hj _ => rfl) (fun _ _ => rfl) (fun _ _ => rfl), rfl, rfl, fun j hj => by
    obtain ⟨a1, a2, a3, a4, a5, a6⟩ := h4 j (by omega)
    refine ⟨fun c hc => ?_, a2, a3, a4, a5, a6⟩
    show sI K 13 _ c j = sI I 12 _ c j
    rw [sI_ne (by omega), sI_ne (by omega)]; exact a1 c hc, h5⟩
theorem op_cut {n : Nat} {I : TI} {J : TJ} {K : TI} {L : TJ} (h : Cp n I J K L) (v : Int32) : Bo (fX4_cut v I J) (fX5_cut v K L) := by
  have hn := h.n16
  unfold fX4_cut fX5_cut
  rw [inM, bnd_eq, h.x, h.m]
  have e0 : (0 : Int64).toInt = 0 := rfl
  have e1 : (0 : Int32).toInt = 0 := rfl
  by_cases c1 : v < 0
  · have c1' : ¬ ((0 : Int64) ≤ v.toInt64 ∧ v.toInt64 ≤ (nI n).toInt64) := by
      rw [lt32, e1] at c1; rw [le64, w64, e0]; omega
    rw [if_pos c1, if_neg c1', if_pos rfl]
    exact Bo.mk h rfl rfl
  · rw [if_neg c1]
    by_cases c2 : v ≤ nI n
    · have e2 : (0 : Int64) ≤ v.toInt64 ∧ v.toInt64 ≤ (nI n).toInt64 := by
        rw [lt32, e1] at c1
        exact ⟨by rw [le64, w64, e0]; omega, by rw [we64]; exact c2⟩
      rw [if_pos c2, if_pos e2, if_neg o10]
      obtain ⟨k, hk, rfl⟩ : ∃ k, k ≤ n ∧ v = nI k := nI_of2 (M := nI n) (nI_toInt (by omega)) c1 c2
      exact Bo.mk (h.down hk) rfl rfl
    · have c2' : ¬ ((0 : Int64) ≤ v.toInt64 ∧ v.toInt64 ≤ (nI n).toInt64) := by
        rw [we64]; exact fun z => c2 z.2
      rw [if_neg c2, if_neg c2', if_pos rfl]
      exact Bo.mk h rfl rfl
-- bits, rounding, weight
theorem Cp.put {n : Nat} {I : TI} {J : TJ} {K : TI} {L : TJ} (h : Cp n I J K L) {k : Nat} (hk : k < n) (hg : ¬ gvn I k) {c : Nat} {v : Int32} (hc : (c = 4 ∧ ∃ f, f ≤ 16 ∧ v = nI f) ∨ (c = 5 ∧ (v = 0 ∨ v = 1 ∨ v = 2)) ∨ (c = 6 ∧ ∃ w, w ≤ 100 ∧ v = nI w)) : Cp n (uI I c k v) J (uI K c k v) L := by
  have c46 : 4 ≤ c ∧ c ≤ 6 := by omega
  have rdI : ∀ (X : TI) c' j, uI X c k v c' j = if c' = c then (if j = k then v else X c j) else X c' j := by
    intro X c' j
    show (if c' = c then upd (X c) k v else X c') j = _
    by_cases e : c' = c
    · rw [if_pos e, if_pos e]; rfl
    · rw [if_neg e, if_neg e]
  obtain ⟨v1, v2⟩ := h.1.valid
  have ne : ∀ (X : TI) c' j, c' ≠ c → uI X c k v c' j = X c' j := fun X c' j e => by rw [rdI, if_neg e]
  have off : ∀ (X : TI) c' j, j ≠ k → uI X c k v c' j = X c' j := fun X c' j e => by
    rw [rdI]
    by_cases q : c' = c
    · rw [if_pos q, if_neg e, q]
    · rw [if_neg q]
  have gv : ∀ j, gvn (uI I c k v) j ↔ gvn I j := fun j => by unfold gvn; rw [ne I 0 j (by omega)]
  obtain ⟨h1, h2, h3, h4, h5⟩ := h
  refine ⟨h1.set (fun j hj c' hc' => ne I c' j (by omega)) (fun j hj _ => ne I 7 j (by omega)) (fun _ _ => rfl) (fun _ _ => rfl) (fun j hj g => ?_) (fun j hj g => ?_), by rw [ne I 12 0 (by omega)]; exact h2, by rw [ne K 13 0 (by omega)]; exact h3, fun j hj => ?_, fun j hj => ?_⟩
  · have jk : j ≠ k := fun e => hg (e ▸ g)
    rw [off I 4 j jk, off I 5 j jk, off I 6 j jk]; exact v1 j hj g
  · by_cases jk : j = k
    · subst jk
      obtain ⟨w4, w5, w6⟩ := v2 j hj g
      rcases hc with ⟨rfl, q⟩ | ⟨rfl, q⟩ | ⟨rfl, q⟩
      · refine ⟨?_, ?_, ?_⟩
        · rw [rdI, if_pos rfl, if_pos rfl]; exact q
        · rw [ne I 5 j (by decide)]; exact w5
        · rw [ne I 6 j (by decide)]; exact w6
      · refine ⟨?_, ?_, ?_⟩
        · rw [ne I 4 j (by decide)]; exact w4
        · rw [rdI, if_pos rfl, if_pos rfl]; exact q
        · rw [ne I 6 j (by decide)]; exact w6
      · refine ⟨?_, ?_, ?_⟩
        · rw [ne I 4 j (by decide)]; exact w4
        · rw [ne I 5 j (by decide)]; exact w5
        · rw [rdI, if_pos rfl, if_pos rfl]; exact q
    · rw [off I 4 j jk, off I 5 j jk, off I 6 j jk]; exact v2 j hj g
  · obtain ⟨a1, a2, a3, a4, a5, a6⟩ := h4 j hj
    refine ⟨fun c' hc' => ?_, a2, a3, ?_, ?_, a6⟩
    · rw [rdI, rdI]
      by_cases q : c' = c
      · rw [if_pos q, if_pos q, ← q, a1 c' hc']
      · rw [if_neg q, if_neg q]; exact a1 c' hc'
    · rw [ne I 0 j (by omega), ne I 7 j (by omega), ne K 7 j (by omega)]; exact a4
    · rw [ne I 0 j (by omega), ne I 7 j (by omega), ne I 1 j (by omega)]; exact a5
  · rw [ne K 9 j (by omega), ne K 10 j (by omega), ne I 9 j (by omega)]; exact h5 j hj
theorem rng {v : Int32} {M : Int32} {m : Nat} (hM : M.toInt = m) (hm : m < 1000) (M' : Int64) (hM' : M'.toInt = m) : ((0 : Int64) ≤ v.toInt64 ∧ v.toInt64 ≤ M') ↔ (¬ v < 0 ∧ v ≤ M) := by
  have e0 : (0 : Int64).toInt = 0 := rfl
  have e1 : (0 : Int32).toInt = 0 := rfl
  rw [le64, le64, lt32, le32, w64, e0, e1, hM, hM']
  omega
theorem op_bits {n : Nat} {I : TI} {J : TJ} {K : TI} {L : TJ} (h : Cp n I J K L) (v f : Int32) : Bo (fX4_bits v f I J) (fX5_bits v f K L) := by
  have hn := h.n16
  unfold fX4_bits fX5_bits
  rcases ix3 v n hn with hv | ⟨k, hk, rfl⟩
  · rw [wkX0 h.x hv, wkM0 h.m hn hv, bnd_eq, bnd_eq, if_pos rfl, if_pos rfl]
    exact Bo.mk h rfl rfl
  · rw [wkX1 h.x hn hk, wkM1 h.okM h.m hk, bnd_eq, bnd_eq, inM]
    have hc := rng (v := f) (M := 16) (m := 16) rfl (by decide) 16 rfl
    by_cases g : gvn I k
    · rw [if_pos g, if_pos ((gvn_c h hk).mpr g), if_pos rfl, if_pos rfl]
      exact Bo.mk h rfl rfl
    · rw [if_neg g, if_neg (fun z => g ((gvn_c h hk).mp z)), if_neg o10, if_neg o10, bnd_eq]
      by_cases c1 : f < 0
      · rw [if_pos c1, if_neg (fun z => (hc.mp z).1 c1), if_pos rfl]
        exact Bo.mk h rfl rfl
      · rw [if_neg c1]
        by_cases c2 : f ≤ 16
        · rw [if_pos c2, if_pos (hc.mpr ⟨c1, c2⟩), if_neg o10, if_pos (nok (by omega)), if_pos (nok (by omega)), ncl (by omega), h.c hk (c := 4) (by decide)]
          exact Bo.mk (h.put hk g (Or.inl ⟨rfl, nI_of2 (M := 16) rfl c1 c2⟩)) rfl rfl
        · rw [if_neg c2, if_neg (fun z => c2 (hc.mp z).2), if_pos rfl]
          exact Bo.mk h rfl rfl
theorem op_rounding {n : Nat} {I : TI} {J : TJ} {K : TI} {L : TJ} (h : Cp n I J K L) (v f : Int32) : Bo (fX4_rounding v f I J) (fX5_rounding v f K L) := by
  have hn := h.n16
  unfold fX4_rounding fX5_rounding
  rcases ix3 v n hn with hv | ⟨k, hk, rfl⟩
  · rw [wkX0 h.x hv, wkM0 h.m hn hv, bnd_eq, bnd_eq, if_pos rfl, if_pos rfl]
    exact Bo.mk h rfl rfl
  · rw [wkX1 h.x hn hk, wkM1 h.okM h.m hk, bnd_eq, bnd_eq, inM]
    have hc := rng (v := f) (M := 2) (m := 2) rfl (by decide) 2 rfl
    by_cases g : gvn I k
    · rw [if_pos g, if_pos ((gvn_c h hk).mpr g), if_pos rfl, if_pos rfl]
      exact Bo.mk h rfl rfl
    · rw [if_neg g, if_neg (fun z => g ((gvn_c h hk).mp z)), if_neg o10, if_neg o10, bnd_eq]
      by_cases c1 : f < 0
      · rw [if_pos c1, if_neg (fun z => (hc.mp z).1 c1), if_pos rfl]
        exact Bo.mk h rfl rfl
      · rw [if_neg c1]
        by_cases c2 : f ≤ 2
        · rw [if_pos c2, if_pos (hc.mpr ⟨c1, c2⟩), if_neg o10, if_pos (nok (by omega)), if_pos (nok (by omega)), ncl (by omega), h.c hk (c := 5) (by decide)]
          refine Bo.mk (h.put hk g (Or.inr (Or.inl ⟨rfl, ?_⟩))) rfl rfl
          obtain ⟨j, hj, rfl⟩ := nI_of2 (M := 2) (n := 2) rfl c1 c2
          rcases (show j = 0 ∨ j = 1 ∨ j = 2 by omega) with rfl | rfl | rfl
          · exact Or.inl rfl
          · exact Or.inr (Or.inl rfl)
          · exact Or.inr (Or.inr rfl)
        · rw [if_neg c2, if_neg (fun z => c2 (hc.mp z).2), if_pos rfl]
          exact Bo.mk h rfl rfl
theorem op_weight {n : Nat} {I : TI} {J : TJ} {K : TI} {L : TJ} (h : Cp n I J K L) (v f : Int32) : Bo (fX4_weight v f I J) (fX5_weight v f K L) := by
  have hn := h.n16
  unfold fX4_weight fX5_weight
  rcases ix3 v n hn with hv | ⟨k, hk, rfl⟩
  · rw [wkX0 h.x hv, wkM0 h.m hn hv, bnd_eq, bnd_eq, if_pos rfl, if_pos rfl]
    exact Bo.mk h rfl rfl
  · rw [wkX1 h.x hn hk, wkM1 h.okM h.m hk, bnd_eq, bnd_eq, inM]
    have hc := rng (v := f) (M := 100) (m := 100) rfl (by decide) 100 rfl
    by_cases g : gvn I k
    · rw [if_pos g, if_pos ((gvn_c h hk).mpr g), if_pos rfl, if_pos rfl]
      exact Bo.mk h rfl rfl
    · rw [if_neg g, if_neg (fun z => g ((gvn_c h hk).mp z)), if_neg o10, if_neg o10, bnd_eq]
      by_cases c1 : f < 0
      · rw [if_pos c1, if_neg (fun z => (hc.mp z).1 c1), if_pos rfl]
        exact Bo.mk h rfl rfl
      · rw [if_neg c1]
        by_cases c2 : f ≤ 100
        · rw [if_pos c2, if_pos (hc.mpr ⟨c1, c2⟩), if_neg o10, if_pos (nok (by omega)), if_pos (nok (by omega)), ncl (by omega), h.c hk (c := 6) (by decide)]
          exact Bo.mk (h.put hk g (Or.inr (Or.inr ⟨rfl, nI_of2 (M := 100) rfl c1 c2⟩))) rfl rfl
        · rw [if_neg c2, if_neg (fun z => c2 (hc.mp z).2), if_pos rfl]
          exact Bo.mk h rfl rfl
-- set
theorem rem64L (v : Int64) : (v - v / 4096 * 4096) = (0 : Int64) ↔ v.toInt % 4096 = 0 := by
  have e := rem64 (x := v) (b := 4096) (p := 4096) rfl (by decide)
  have t : v.toInt.tmod 4096 = v.toInt - v.toInt.tdiv 4096 * 4096 := by
    have := Int.mul_tdiv_add_tmod v.toInt 4096
    omega
  constructor
  · intro h
    rw [h] at e
    have e0 : (0 : Int64).toInt = 0 := rfl
    exact Int.emod_eq_zero_of_dvd (Int.dvd_of_tmod_eq_zero (by omega))
  · intro h
    apply q64
    have := Int.tmod_eq_zero_of_dvd (Int.dvd_of_emod_eq_zero h)
    rw [e, ← t, this]; rfl
theorem Cp.setU {n : Nat} {I : TI} {J : TJ} {K : TI} {L : TJ} (h : Cp n I J K L) {k : Nat} (hk : k < n) (hg : I 0 k = 0) {u : Int32} (hu : u.toInt % 4096 = 0) (h1 : J 0 k ≤ u.toInt64) (h2 : u.toInt64 ≤ J 1 k) : Cp n (uI I 7 k u) J (uI K 7 k u) L := by
  have rdI : ∀ (X : TI) c' j, uI X 7 k u c' j = if c' = 7 then (if j = k then u else X 7 j) else X c' j := by
    intro X c' j
    show (if c' = 7 then upd (X 7) k u else X c') j = _
    by_cases e : c' = 7
    · rw [if_pos e, if_pos e]; rfl
    · rw [if_neg e, if_neg e]
  have ne : ∀ (X : TI) c' j, c' ≠ 7 → uI X 7 k u c' j = X c' j := fun X c' j e => by rw [rdI, if_neg e]
  obtain ⟨a1, a2, a3, a4, a5⟩ := h
  have hv := a1.2 k hk
  refine ⟨⟨a1.1, fun j hj => ?_⟩, by rw [ne I 12 0 (by decide)]; exact a2, by rw [ne K 13 0 (by decide)]; exact a3, fun j hj => ?_, fun j hj => ?_⟩
  · obtain ⟨q, r⟩ := a1.2 j hj
    have d0 : ∀ i, dn (uI I 7 k u) i = dn I i := fun i => dn_cong (ne I 3 i (by decide))
    refine ⟨?_, by rw [d0]; exact r⟩
    rcases q with q | q
    · refine Or.inl ?_
      obtain ⟨q1, q2⟩ := q
      refine ⟨?_, ?_⟩
      · rcases q1 with ⟨b0, b1, b2, b3, b4, b5, b6⟩ | ⟨b0, b1, b2⟩
        · refine Or.inl ⟨by rw [ne I 0 j (by decide)]; exact b0, by rw [ne I 2 j (by decide)]; exact b1, by rw [ne I 1 j (by decide), ne I 2 j (by decide)]; exact b2, by rw [ne I 2 j (by decide)]; exact b3, ?_⟩
          rw [ne I 1 j (by decide), ne I 2 j (by decide), rdI, if_pos rfl]
          by_cases e : j = k
          · rw [if_pos e]
            subst e
            have q3 : J 0 j = (I 1 j).toInt64 := q2.2.1
            rw [q3, we64, le32] at h1
            rw [b3, we64, le32] at h2
            obtain ⟨n1, n2, n3⟩ := q2.1
            obtain ⟨m1, m2, m3⟩ := b1
            exact ⟨⟨by omega, by omega, hu⟩, h1, h2⟩
          · rw [if_neg e]; exact ⟨b4, b5, b6⟩
        · exact Or.inr ⟨by rw [ne I 0 j (by decide)]; exact b0, by rw [ne I 2 j (by decide)]; exact b1, by rw [ne I 1 j (by decide)]; exact b2⟩
      · rw [ne I 1 j (by decide), ne I 3 j (by decide), ne I 4 j (by decide), ne I 5 j (by decide), ne I 6 j (by decide)]; exact q2
    · refine Or.inr ?_
      obtain ⟨a, b, f, w, b1, b2, b3, b4, b5, b6, b7, b8, b9, b10, b11, b12, b13⟩ := q
      refine ⟨a, b, f, w, b1, b2, by rw [ne I 1 j (by decide)]; exact b3, by rw [ne I 2 j (by decide)]; exact b4, ?_⟩
      rw [ne I 0 j (by decide), ne I 4 j (by decide), ne I 5 j (by decide), ne I 6 j (by decide), d0, d0, d0]
      exact ⟨b5, b6, b7, b8, b9, b10, b11, b12, b13⟩
  · obtain ⟨b1, b2, b3, b4, b5, b6⟩ := a4 j hj
    refine ⟨fun c hc => by rw [ne K c j (by omega), ne I c j (by omega)]; exact b1 c hc, b2, b3, ?_, ?_, b6⟩
    · rw [ne I 0 j (by decide), rdI, rdI, if_pos rfl, if_pos rfl]
      intro z
      by_cases e : j = k
      · rw [if_pos e, if_pos e]
      · rw [if_neg e, if_neg e]; exact b4 z
    · rw [ne I 0 j (by decide), ne I 1 j (by decide), rdI, if_pos rfl]
      intro z
      by_cases e : j = k
      · exact absurd (e ▸ z) (by rw [hg]; decide)
      · rw [if_neg e]; exact b5 z
  · rw [ne K 9 j (by decide), ne K 10 j (by decide), ne I 9 j (by decide)]; exact a5 j hj
theorem isOfM {k : Nat} (hk : k < 16) (w : Int64) (K : TI) (L : TJ) : fX5_isOf (nI k) w K L = some (if (L 0 k ≤ w ∧ w ≤ L 1 k) ∧ w.toInt % 4096 = 0 then 1 else 0, K, L) := by
  unfold fX5_isOf
  rw [if_pos (nok hk), ncl (by omega), inM, bnd_eq]
  by_cases c : L 0 k ≤ w ∧ w ≤ L 1 k
  · rw [if_pos c, if_neg o10]
    by_cases e : w.toInt % 4096 = 0
    · rw [if_pos ((rem64L w).mpr e), if_pos ⟨c, e⟩]
    · rw [if_neg (fun z => e ((rem64L w).mp z)), if_neg (fun z => e z.2)]
  · rw [if_neg c, if_pos rfl, if_neg (fun z => c z.1)]
theorem setX {n : Nat} {I : TI} {J : TJ} (h : I 12 0 = nI n) (hn : n ≤ 16) {k : Nat} (hk : k < n) (g : I 0 k = 0) (u : Int32) : fX4_set (nI k) u I J = if (J 0 k ≤ u.toInt64 ∧ u.toInt64 ≤ J 1 k) ∧ u.toInt % 4096 = 0 then some (1, uI I 7 k u, J) else some (-2, I, J) := by
  unfold fX4_set
  rw [inpX1 h hn hk, bnd_eq, if_pos g, if_neg o10, stepX, bnd_eq]
  by_cases e : u.toInt % 4096 = 0
  · rw [if_pos e, if_neg o10, if_pos (nok (by omega)), ncl (by omega)]
    by_cases c1 : u.toInt64 < J 0 k
    · rw [if_pos c1, if_neg]
      intro z; have z1 := z.1.1; rw [lt64] at c1; rw [le64] at z1; omega
    · rw [if_neg c1]
      by_cases c2 : u.toInt64 ≤ J 1 k
      · rw [if_pos c2, if_pos ⟨⟨by rw [lt64] at c1; rw [le64]; omega, c2⟩, e⟩]
      · rw [if_neg c2, if_neg (fun z => c2 z.1.2)]
  · rw [if_neg e, if_pos rfl, if_neg (fun z => e z.2)]
theorem op_set {n : Nat} {I : TI} {J : TJ} {K : TI} {L : TJ} (h : Cp n I J K L) (v u : Int32) : Bo (fX4_set v u I J) (fX5_set v u K L) := by
  have hn := h.n16
  rcases ix3 v n hn with hv | ⟨k, hk, rfl⟩
  · unfold fX4_set fX5_set
    rw [inpX0 h.x hv, inpM0 h.m hn hv, bnd_eq, bnd_eq, if_pos rfl, if_pos rfl]
    exact Bo.mk h rfl rfl
  · by_cases g : I 0 k = 0
    · rw [setX h.x hn hk g]
      unfold fX5_set
      rw [inpM1 h.m hn hk, bnd_eq, h.c hk (c := 0) (by decide), if_pos g, if_neg o10, isOfM (by omega), bnd_eq, (h.2.2.2.1 k hk).2.1, (h.2.2.2.1 k hk).2.2.1, w64]
      by_cases c : (J 0 k ≤ u.toInt64 ∧ u.toInt64 ≤ J 1 k) ∧ u.toInt % 4096 = 0
      · rw [if_pos c, if_pos c, if_neg o10, if_pos (nok (by omega)), ncl (by omega)]
        exact Bo.mk (h.setU hk g c.2 c.1.1 c.1.2) rfl rfl
      · rw [if_neg c, if_neg c, if_pos rfl]
        exact Bo.mk h rfl rfl
    · unfold fX4_set fX5_set
      rw [inpX1 h.x hn hk, inpM1 h.m hn hk, bnd_eq, bnd_eq, h.c hk (c := 0) (by decide), if_neg g, if_pos rfl, if_pos rfl]
      exact Bo.mk h rfl rfl
-- worstAt
theorem op_worstAt {n : Nat} {I : TI} {J : TJ} {K : TI} {L : TJ} (h : Cp n I J K L) (v : Int32) : Bo (fX4_worstAt v I J) (fX5_worstAt v K L) := by
  unfold fX4_worstAt fX5_worstAt
  rw [inM, bnd_eq]
  have hc := rng (v := v) (M := 15) (m := 15) rfl (by decide) 15 rfl
  by_cases c1 : v < 0
  · rw [if_pos c1, if_neg (fun z => (hc.mp z).1 c1), if_pos rfl]
    exact Bo.mk h rfl rfl
  · rw [if_neg c1]
    by_cases c2 : v ≤ 15
    · rw [if_pos (hc.mpr ⟨c1, c2⟩), if_neg o10]
      obtain ⟨k, hk, rfl⟩ := nI_of2 (M := 15) (n := 15) rfl c1 c2
      have c3 : ¬ (16 : Int32) ≤ nI k := by
        rw [le32, nI_toInt (by omega)]; show ¬ (16 : Int) ≤ _; omega
      rw [if_neg c3, if_pos (nok (by omega)), if_pos (nok (by omega)), ncl (by omega)]
      rcases h.2.2.2.2 k (by omega) with ⟨e1, e2⟩ | ⟨e1, e2⟩
      · rw [if_pos e1, e2]
        exact Bo.mk h rfl rfl
      · rw [if_neg (by rw [e1]; decide), e2]
        exact Bo.mk h rfl rfl
    · have c3 : (16 : Int32) ≤ v := by
        rw [le32] at c2 ⊢
        have a1 : (15 : Int32).toInt = 15 := rfl
        have a2 : (16 : Int32).toInt = 16 := rfl
        omega
      rw [if_pos c3, if_neg (fun z => c2 (hc.mp z).2), if_pos rfl]
      exact Bo.mk h rfl rfl
