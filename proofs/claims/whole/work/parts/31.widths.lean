/-! about, floor, gain, blame -/
def bd (I : TI) (J : TJ) (bs : Nat → Int32) (v : Nat) : Int64 := bdv I (fun k => rch (J 0 k) (J 1 k)) bs v
theorem bd_cong {n : Nat} {I K : TI} {J L : TJ} {bs bs' : Nat → Int32} (ho : Ok n I J) (h : ∀ k, k < n → K 0 k = I 0 k ∧ K 1 k = I 1 k ∧ K 2 k = I 2 k ∧ K 5 k = I 5 k) (hJ : ∀ k, k < n → L 0 k = J 0 k ∧ L 1 k = J 1 k) (hb : ∀ k, k < n → ¬ gvn I k → bs' k = bs k) {v : Nat} (hv : v < n) : bd K L bs' v = bd I J bs v := by
  refine bdv_cong h (fun k hk hg => ?_) hb hv
  rcases (ho.2 k hk).1 with q | q
  · exact absurd q.gvn hg
  · obtain ⟨p1, p2, _⟩ := q.parts (by have := ho.1; omega)
    obtain ⟨a1, a2⟩ := hJ (pa I k) (by omega)
    obtain ⟨b1, b2⟩ := hJ (pb I k) (by omega)
    simp only [a1, a2, b1, b2, and_self]
theorem Cp.bdM {n : Nat} {I : TI} {J : TJ} {K : TI} {L : TJ} (h : Cp n I J K L) {v : Nat} (hv : v < n) : ∃ L', fX5_bound (nI v) K L = some (bd I J (I 4) v, K, L') ∧ (∀ c, c ≠ 2 → L' c = L c) := by
  obtain ⟨L', a, b⟩ := bdMo h.okM hv
  refine ⟨L', ?_, b⟩
  rw [a]
  have : bd K L (K 4) v = bd I J (I 4) v := bd_cong h.1 (fun k hk => ⟨h.c hk (by decide), h.c hk (by decide), h.c hk (by decide), h.c hk (by decide)⟩) (fun k hk => ⟨(h.2.2.2.1 k hk).2.1, (h.2.2.2.1 k hk).2.2.1⟩) (fun k hk _ => h.c hk (by decide)) hv
  rw [← this]; rfl
theorem asToldL {n : Nat} {I0 : TI} {J : TJ} (h : I0 12 0 = nI n) (hn : n ≤ 16) : ∀ d i, i + d = n → ∀ m, d < m → ∀ I : TI, (∀ c, c ≠ 10 → I c = I0 c) → (∀ j, j < i → I 10 j = I0 4 j) → ∃ I', fX3_tryAsTold_2 m (nI i) I J = some ((), I', J) ∧ (∀ c, c ≠ 10 → I' c = I0 c) ∧ ∀ j, j < n → I' 10 j = I0 4 j := by
  intro d
  induction d with
  | zero =>
    intro i hi m hm I hI h10
    obtain ⟨m, rfl⟩ : ∃ m', m = m' + 1 := ⟨m - 1, by omega⟩
    refine ⟨I, ?_, hI, fun j hj => h10 j (by omega)⟩
    rw [eX3_tryAsTold_2, hI 12 (by decide), h, if_pos (by rw [nle (by omega) (by omega)]; omega)]
  | succ d ih =>
    intro i hi m hm I hI h10
    obtain ⟨m, rfl⟩ : ∃ m', m = m' + 1 := ⟨m - 1, by omega⟩
    rw [eX3_tryAsTold_2, hI 12 (by decide), h, if_neg (by rw [nle (by omega) (by omega)]; omega), if_pos (nok (by omega)), ncl (by omega), nsc]
    refine ih (i + 1) (by omega) m (by omega) _ (fun c hc => ?_) (fun j hj => ?_)
    · show sI I 10 _ c = _
      rw [sI_ne hc]; exact hI c hc
    · by_cases e : j = i
      · subst e; rw [I_eq, hI 4 (by decide)]
      · rw [I_ne e]; exact h10 j (by omega)
theorem widestL {I0 : TI} {J : TJ} : ∀ d i, i + d = 16 → ∀ m, d < m → ∀ I : TI, (∀ c, c ≠ 10 → I c = I0 c) → (∀ j, j < i → I 10 j = 16) → ∃ I', fX3_tryWidest_2 m (nI i) I J = some ((), I', J) ∧ (∀ c, c ≠ 10 → I' c = I0 c) ∧ ∀ j, j < 16 → I' 10 j = 16 := by
  have e16 : (16 : Int32) = nI 16 := rfl
  intro d
  induction d with
  | zero =>
    intro i hi m hm I hI h10
    obtain ⟨m, rfl⟩ : ∃ m', m = m' + 1 := ⟨m - 1, by omega⟩
    refine ⟨I, ?_, hI, fun j hj => h10 j (by omega)⟩
    rw [eX3_tryWidest_2, if_pos (by rw [e16, nle (by omega) (by omega)]; omega)]
  | succ d ih =>
    intro i hi m hm I hI h10
    obtain ⟨m, rfl⟩ : ∃ m', m = m' + 1 := ⟨m - 1, by omega⟩
    rw [eX3_tryWidest_2, if_neg (by rw [e16, nle (by omega) (by omega)]; omega), if_pos (nok (by omega)), ncl (by omega), nsc]
    refine ih (i + 1) (by omega) m (by omega) _ (fun c hc => ?_) (fun j hj => ?_)
    · show sI I 10 _ c = _
      rw [sI_ne hc]; exact hI c hc
    · by_cases e : j = i
      · subst e; rw [I_eq]
      · rw [I_ne e]; exact h10 j (by omega)
theorem asToldX {n : Nat} {I : TI} {J : TJ} (h : I 12 0 = nI n) (hn : n ≤ 16) : ∃ I', fX3_tryAsTold I J = some ((), I', J) ∧ (∀ c, c ≠ 10 → I' c = I c) ∧ ∀ j, j < n → I' 10 j = I 4 j :=
  asToldL h hn n 0 (by omega) fuel (by unfold fuel; omega) I (fun _ _ => rfl) (fun j hj => by omega)
theorem widestX (I : TI) (J : TJ) : ∃ I', fX3_tryWidest I J = some ((), I', J) ∧ (∀ c, c ≠ 10 → I' c = I c) ∧ ∀ j, j < 16 → I' 10 j = 16 :=
  widestL 16 0 (by omega) fuel (by unfold fuel; omega) I (fun _ _ => rfl) (fun j hj => by omega)
/-- the class's bound with what stands in its trial row -/
theorem triX {n : Nat} {I0 I : TI} {J : TJ} (ho : Ok n I0 J) (hR : ∀ k, k < n → J 2 k = rch (J 0 k) (J 1 k)) (hI : ∀ c, c < 8 → I c = I0 c) {v : Nat} (hv : v < n) : ∃ J', fX3_boundTried (nI v) I J = some (bd I0 J (I 10) v, I, J') ∧ (∀ c, c ≠ 5 → J' c = J c) := by
  have o2 : Ok n I J := ho.cong (fun k hk c hc => by rw [hI c (by omega)]) (fun k hk _ => by rw [hI 7 (by decide)]) (fun _ _ => rfl) (fun _ _ => rfl)
  obtain ⟨J', a, b⟩ := bdX (R := fun k => rch (J 0 k) (J 1 k)) o2 hR hv
  refine ⟨J', ?_, b⟩
  rw [a]
  have : bd I J (I 10) v = bd I0 J (I 10) v := bd_cong ho (fun k hk => ⟨by rw [hI 0 (by decide)], by rw [hI 1 (by decide)], by rw [hI 2 (by decide)], by rw [hI 5 (by decide)]⟩) (fun _ _ => ⟨rfl, rfl⟩) (fun _ _ _ => rfl) hv
  rw [← this]; rfl
theorem Cp.reach {n : Nat} {I : TI} {J : TJ} {K : TI} {L : TJ} (h : Cp n I J K L) : ∀ k, k < n → J 2 k = rch (J 0 k) (J 1 k) := fun k hk => (h.2.2.2.1 k hk).2.2.2.2.2
theorem toldX {n : Nat} {I : TI} {J : TJ} (ho : Ok n I J) (h : I 12 0 = nI n) (hR : ∀ k, k < n → J 2 k = rch (J 0 k) (J 1 k)) {v : Nat} (hv : v < n) : ∃ I' J', fX3_boundAsTold (nI v) I J = some (bd I J (I 4) v, I', J') ∧ (∀ c, c ≠ 10 → I' c = I c) ∧ (∀ j, j < n → I' 10 j = I 4 j) ∧ (∀ c, c ≠ 5 → J' c = J c) := by
  obtain ⟨I', a1, a2, a3⟩ := asToldX (J := J) h ho.1
  obtain ⟨J', b1, b2⟩ := triX ho hR (I := I') (fun c hc => a2 c (by omega)) hv
  refine ⟨I', J', ?_, a2, a3, b2⟩
  unfold fX3_boundAsTold
  rw [a1, bnd_eq, b1, bnd_eq]
  rw [bd_cong ho (fun _ _ => ⟨rfl, rfl, rfl, rfl⟩) (fun _ _ => ⟨rfl, rfl⟩) (fun k hk _ => a3 k hk) hv]
theorem atWidestX {n : Nat} {I : TI} {J : TJ} (ho : Ok n I J) (hR : ∀ k, k < n → J 2 k = rch (J 0 k) (J 1 k)) {v : Nat} (hv : v < n) : ∃ I' J', fX3_boundAtWidest (nI v) I J = some (bd I J (fun _ => 16) v, I', J') ∧ (∀ c, c ≠ 10 → I' c = I c) ∧ (∀ j, j < 16 → I' 10 j = 16) ∧ (∀ c, c ≠ 5 → J' c = J c) := by
  obtain ⟨I', a1, a2, a3⟩ := widestX I J
  obtain ⟨J', b1, b2⟩ := triX ho hR (I := I') (fun c hc => a2 c (by omega)) hv
  refine ⟨I', J', ?_, a2, a3, b2⟩
  unfold fX3_boundAtWidest
  rw [a1, bnd_eq, b1, bnd_eq]
  have := ho.1
  rw [bd_cong ho (fun _ _ => ⟨rfl, rfl, rfl, rfl⟩) (fun _ _ => ⟨rfl, rfl⟩) (fun k hk _ => a3 k (by omega)) hv]
theorem op_about {n : Nat} {I : TI} {J : TJ} {K : TI} {L : TJ} (h : Cp n I J K L) (v w : Int32) : Bo (fX4_about v w I J) (fX5_about v w K L) := by
  have hn := h.n16
  unfold fX4_about fX5_about
  rcases ix3 v n hn with hv | ⟨k, hk, rfl⟩
  · rw [hasX0 h.x hv, valM0 h.m hn hv, bnd_eq, bnd_eq, if_pos rfl, if_pos rfl]
    exact Bo.mk h rfl rfl
  · rw [hasX1 h.x hn hk, valM1 h.m hn hk, bnd_eq, bnd_eq, if_neg o10, if_neg o10, if_pos (nok (by omega))]
    obtain ⟨a1, a2, a3, _⟩ := h.2.2.2.1 k hk
    by_cases w0 : w = 0
    · rw [if_pos w0, if_pos w0, if_pos (nok (by omega)), ncl (by omega), a1 0 (by decide)]; exact Bo.mk h rfl rfl
    rw [if_neg w0, if_neg w0]
    by_cases w1 : w = 1
    · rw [if_pos w1, if_pos w1, if_pos (nok (by omega)), ncl (by omega), a1 1 (by decide)]; exact Bo.mk h rfl rfl
    rw [if_neg w1, if_neg w1]
    by_cases w2 : w = 2
    · rw [if_pos w2, if_pos w2, if_pos (nok (by omega)), ncl (by omega), a1 2 (by decide)]; exact Bo.mk h rfl rfl
    rw [if_neg w2, if_neg w2]
    by_cases w3 : w = 3
    · rw [if_pos w3, if_pos w3, if_pos (nok (by omega)), ncl (by omega), a1 3 (by decide)]; exact Bo.mk h rfl rfl
    rw [if_neg w3, if_neg w3]
    by_cases w4 : w = 4
    · rw [if_pos w4, if_pos w4, if_pos (nok (by omega)), ncl (by omega), a1 4 (by decide)]; exact Bo.mk h rfl rfl
    rw [if_neg w4, if_neg w4]
    by_cases w5 : w = 5
    · rw [if_pos w5, if_pos w5, if_pos (nok (by omega)), ncl (by omega), a1 5 (by decide)]; exact Bo.mk h rfl rfl
    rw [if_neg w5, if_neg w5]
    by_cases w6 : w = 6
    · rw [if_pos w6, if_pos w6, if_pos (nok (by omega)), ncl (by omega), a1 6 (by decide)]; exact Bo.mk h rfl rfl
    rw [if_neg w6, if_neg w6]
    by_cases w7 : w = 7
    · rw [if_pos w7, if_pos w7, if_pos (nok (by omega)), ncl (by omega), a2]; exact Bo.mk h rfl rfl
    rw [if_neg w7, if_neg w7]
    by_cases w8 : w = 8
    · rw [if_pos w8, if_pos w8, if_pos (nok (by omega)), ncl (by omega), a3]; exact Bo.mk h rfl rfl
    rw [if_neg w8, if_neg w8]
    by_cases w9 : w = 9
    · rw [if_pos w9, if_pos w9]
      obtain ⟨I', J', x1, x2, x3, x4⟩ := toldX h.1 h.x h.reach hk
      obtain ⟨L', m1, m2⟩ := h.bdM hk
      rw [x1, m1, bnd_eq, bnd_eq]
      exact Bo.mk (h.frame (fun c hc => x2 c (by omega)) (by rw [x2 12 (by decide)]) (fun c hc => x4 c (by omega)) (fun _ _ => rfl) (fun _ _ => rfl) rfl (fun c hc => m2 c (by omega))) rfl rfl
    · rw [if_neg w9, if_neg w9]
      exact Bo.mk h rfl rfl
-- the model's rows of bits
theorem saveL {n : Nat} {K0 : TI} {L : TJ} (h : K0 13 0 = nI n) (hn : n ≤ 16) : ∀ d i, i + d = n → ∀ m, d < m → ∀ K : TI, (∀ c, c ≠ 11 → K c = K0 c) → (∀ j, j < i → K 11 j = K0 4 j) → ∃ K', fX5_save_17_2 m (nI i) K L = some ((), K', L) ∧ (∀ c, c ≠ 11 → K' c = K0 c) ∧ ∀ j, j < n → K' 11 j = K0 4 j := by
  intro d
  induction d with
  | zero =>
    intro i hi m hm K hK h10
    obtain ⟨m, rfl⟩ : ∃ m', m = m' + 1 := ⟨m - 1, by omega⟩
    refine ⟨K, ?_, hK, fun j hj => h10 j (by omega)⟩
    rw [eX5_save_17_2, hK 13 (by decide), h, if_pos (by rw [nle (by omega) (by omega)]; omega)]
  | succ d ih =>
    intro i hi m hm K hK h10
    obtain ⟨m, rfl⟩ : ∃ m', m = m' + 1 := ⟨m - 1, by omega⟩
    rw [eX5_save_17_2, hK 13 (by decide), h, if_neg (by rw [nle (by omega) (by omega)]; omega), if_pos (nok (by omega)), ncl (by omega), nsc]
    refine ih (i + 1) (by omega) m (by omega) _ (fun c hc => ?_) (fun j hj => ?_)
    · show sI K 11 _ c = _
      rw [sI_ne hc]; exact hK c hc
    · by_cases e : j = i
      · subst e; rw [I_eq, hK 4 (by decide)]
      · rw [I_ne e]; exact h10 j (by omega)
theorem saveBL {n : Nat} {K0 : TI} {L : TJ} (h : K0 13 0 = nI n) (hn : n ≤ 16) : ∀ d i, i + d = n → ∀ m, d < m → ∀ K : TI, (∀ c, c ≠ 12 → K c = K0 c) → (∀ j, j < i → K 12 j = K0 4 j) → ∃ K', fX5_save_18_2 m (nI i) K L = some ((), K', L) ∧ (∀ c, c ≠ 12 → K' c = K0 c) ∧ ∀ j, j < n → K' 12 j = K0 4 j := by
  intro d
  induction d with
  | zero =>
    intro i hi m hm K hK h10
    obtain ⟨m, rfl⟩ : ∃ m', m = m' + 1 := ⟨m - 1, by omega⟩
    refine ⟨K, ?_, hK, fun j hj => h10 j (by omega)⟩
    rw [eX5_save_18_2, hK 13 (by decide), h, if_pos (by rw [nle (by omega) (by omega)]; omega)]
  | succ d ih =>
    intro i hi m hm K hK h10
    obtain ⟨m, rfl⟩ : ∃ m', m = m' + 1 := ⟨m - 1, by omega⟩
    rw [eX5_save_18_2, hK 13 (by decide), h, if_neg (by rw [nle (by omega) (by omega)]; omega), if_pos (nok (by omega)), ncl (by omega), nsc]
    refine ih (i + 1) (by omega) m (by omega) _ (fun c hc => ?_) (fun j hj => ?_)
    · show sI K 12 _ c = _
      rw [sI_ne hc]; exact hK c hc
    · by_cases e : j = i
      · subst e; rw [I_eq, hK 4 (by decide)]
      · rw [I_ne e]; exact h10 j (by omega)
theorem takeL {n : Nat} {K0 : TI} {L : TJ} (h : K0 13 0 = nI n) (hn : n ≤ 16) : ∀ d i, i + d = n → ∀ m, d < m → ∀ K : TI, (∀ c, c ≠ 4 → K c = K0 c) → (∀ j, j < i → K 4 j = K0 11 j) → ∃ K', fX5_take_17_2 m (nI i) K L = some ((), K', L) ∧ (∀ c, c ≠ 4 → K' c = K0 c) ∧ ∀ j, j < n → K' 4 j = K0 11 j := by
  intro d
  induction d with
  | zero =>
    intro i hi m hm K hK h10
    obtain ⟨m, rfl⟩ : ∃ m', m = m' + 1 := ⟨m - 1, by omega⟩
    refine ⟨K, ?_, hK, fun j hj => h10 j (by omega)⟩
    rw [eX5_take_17_2, hK 13 (by decide), h, if_pos (by rw [nle (by omega) (by omega)]; omega)]
  | succ d ih =>
    intro i hi m hm K hK h10
    obtain ⟨m, rfl⟩ : ∃ m', m = m' + 1 := ⟨m - 1, by omega⟩
    rw [eX5_take_17_2, hK 13 (by decide), h, if_neg (by rw [nle (by omega) (by omega)]; omega), if_pos (nok (by omega)), ncl (by omega), nsc]
    refine ih (i + 1) (by omega) m (by omega) _ (fun c hc => ?_) (fun j hj => ?_)
    · show sI K 4 _ c = _
      rw [sI_ne hc]; exact hK c hc
    · by_cases e : j = i
      · subst e; rw [I_eq, hK 11 (by decide)]
      · rw [I_ne e]; exact h10 j (by omega)
theorem takeBL {n : Nat} {K0 : TI} {L : TJ} (h : K0 13 0 = nI n) (hn : n ≤ 16) : ∀ d i, i + d = n → ∀ m, d < m → ∀ K : TI, (∀ c, c ≠ 4 → K c = K0 c) → (∀ j, j < i → K 4 j = K0 12 j) → ∃ K', fX5_take_18_2 m (nI i) K L = some ((), K', L) ∧ (∀ c, c ≠ 4 → K' c = K0 c) ∧ ∀ j, j < n → K' 4 j = K0 12 j := by
  intro d
  induction d with
  | zero =>
    intro i hi m hm K hK h10
    obtain ⟨m, rfl⟩ : ∃ m', m = m' + 1 := ⟨m - 1, by omega⟩
    refine ⟨K, ?_, hK, fun j hj => h10 j (by omega)⟩
    rw [eX5_take_18_2, hK 13 (by decide), h, if_pos (by rw [nle (by omega) (by omega)]; omega)]
  | succ d ih =>
    intro i hi m hm K hK h10
    obtain ⟨m, rfl⟩ : ∃ m', m = m' + 1 := ⟨m - 1, by omega⟩
    rw [eX5_take_18_2, hK 13 (by decide), h, if_neg (by rw [nle (by omega) (by omega)]; omega), if_pos (nok (by omega)), ncl (by omega), nsc]
    refine ih (i + 1) (by omega) m (by omega) _ (fun c hc => ?_) (fun j hj => ?_)
    · show sI K 4 _ c = _
      rw [sI_ne hc]; exact hK c hc
    · by_cases e : j = i
      · subst e; rw [I_eq, hK 12 (by decide)]
      · rw [I_ne e]; exact h10 j (by omega)
theorem setAllL {n : Nat} {K0 : TI} {L : TJ} (ho : Ok n K0 L) (h : K0 13 0 = nI n) (f : Int32) : ∀ d i, i + d = n → ∀ m, d < m → ∀ K : TI, (∀ c, c ≠ 4 → K c = K0 c) → (∀ j, j < i → K 4 j = if gvn K0 j then 16 else f) → ∃ K', fX5_setAll_2 m f (nI i) K L = some ((), K', L) ∧ (∀ c, c ≠ 4 → K' c = K0 c) ∧ ∀ j, j < n → K' 4 j = if gvn K0 j then 16 else f := by
  have hn := ho.1
  intro d
  induction d with
  | zero =>
    intro i hi m hm K hK h10
    obtain ⟨m, rfl⟩ : ∃ m', m = m' + 1 := ⟨m - 1, by omega⟩
    refine ⟨K, ?_, hK, fun j hj => h10 j (by omega)⟩
    rw [eX5_setAll_2, hK 13 (by decide), h, if_pos (by rw [nle (by omega) (by omega)]; omega)]
  | succ d ih =>
    intro i hi m hm K hK h10
    obtain ⟨m, rfl⟩ : ∃ m', m = m' + 1 := ⟨m - 1, by omega⟩
    rw [eX5_setAll_2, hK 13 (by decide), h, if_neg (by rw [nle (by omega) (by omega)]; omega), if_pos (nok (by omega)), ncl (by omega), nsc, hK 0 (by decide)]
    have go : ∀ x : Int32, x = (if gvn K0 i then 16 else f) → ∃ K', fX5_setAll_2 m f (nI (i + 1)) (uI K 4 i x) L = some ((), K', L) ∧ (∀ c, c ≠ 4 → K' c = K0 c) ∧ ∀ j, j < n → K' 4 j = if gvn K0 j then 16 else f := by
      intro x hx
      refine ih (i + 1) (by omega) m (by omega) _ (fun c hc => ?_) (fun j hj => ?_)
      · show sI K 4 _ c = _
        rw [sI_ne hc]; exact hK c hc
      · by_cases e : j = i
        · subst e; rw [I_eq, hx]
        · rw [I_ne e]; exact h10 j (by omega)
    by_cases g : gvn K0 i
    · rw [if_pos ((ho.kd (by omega)).mpr g)]
      exact go _ (by rw [if_pos g])
    · rw [if_neg (fun z => g ((ho.kd (by omega)).mp z))]
      exact go _ (by rw [if_neg g])
theorem savM {n : Nat} {K : TI} {L : TJ} (h : K 13 0 = nI n) (hn : n ≤ 16) : ∃ K', fX5_save_17 K L = some ((), K', L) ∧ (∀ c, c ≠ 11 → K' c = K c) ∧ ∀ j, j < n → K' 11 j = K 4 j :=
  saveL h hn n 0 (by omega) fuel (by unfold fuel; omega) K (fun _ _ => rfl) (fun j hj => by omega)
theorem savBM {n : Nat} {K : TI} {L : TJ} (h : K 13 0 = nI n) (hn : n ≤ 16) : ∃ K', fX5_save_18 K L = some ((), K', L) ∧ (∀ c, c ≠ 12 → K' c = K c) ∧ ∀ j, j < n → K' 12 j = K 4 j :=
  saveBL h hn n 0 (by omega) fuel (by unfold fuel; omega) K (fun _ _ => rfl) (fun j hj => by omega)
theorem tkM {n : Nat} {K : TI} {L : TJ} (h : K 13 0 = nI n) (hn : n ≤ 16) : ∃ K', fX5_take_17 K L = some ((), K', L) ∧ (∀ c, c ≠ 4 → K' c = K c) ∧ ∀ j, j < n → K' 4 j = K 11 j :=
  takeL h hn n 0 (by omega) fuel (by unfold fuel; omega) K (fun _ _ => rfl) (fun j hj => by omega)
theorem tkBM {n : Nat} {K : TI} {L : TJ} (h : K 13 0 = nI n) (hn : n ≤ 16) : ∃ K', fX5_take_18 K L = some ((), K', L) ∧ (∀ c, c ≠ 4 → K' c = K c) ∧ ∀ j, j < n → K' 4 j = K 12 j :=
  takeBL h hn n 0 (by omega) fuel (by unfold fuel; omega) K (fun _ _ => rfl) (fun j hj => by omega)
theorem sallM {n : Nat} {K : TI} {L : TJ} (ho : Ok n K L) (h : K 13 0 = nI n) (f : Int32) : ∃ K', fX5_setAll f K L = some ((), K', L) ∧ (∀ c, c ≠ 4 → K' c = K c) ∧ ∀ j, j < n → K' 4 j = if gvn K j then 16 else f :=
  setAllL ho h f n 0 (by omega) fuel (by have := ho.1; unfold fuel; omega) K (fun _ _ => rfl) (fun j hj => by omega)
/-- the model's bound with other bits -/
theorem Cp.bdM2 {n : Nat} {I : TI} {J : TJ} {K K' : TI} {L L' : TJ} (h : Cp n I J K L) (hK : ∀ c, c < 8 → c ≠ 4 → K' c = K c) (hb : ∀ k, k < n → if gvn I k then K' 4 k = 16 else ∃ f, f ≤ 16 ∧ K' 4 k = nI f) (hL : ∀ c, c < 2 → L' c = L c) {v : Nat} (hv : v < n) : ∃ L2, fX5_bound (nI v) K' L' = some (bd I J (K' 4) v, K', L2) ∧ (∀ c, c ≠ 2 → L2 c = L' c) := by
  have oM := h.okM
  have ok2 : Ok n K' L' := by
    obtain ⟨v1, v2⟩ := oM.valid
    refine oM.set (fun k hk c hc => by rw [hK c (by omega) (by omega)]) (fun k hk _ => by rw [hK 7 (by decide) (by decide)]) (fun k hk => by rw [hL 0 (by decide)]) (fun k hk => by rw [hL 1 (by decide)]) (fun k hk hg => ?_) (fun k hk hg => ?_)
    · obtain ⟨a, b, c⟩ := v1 k hk hg
      have := hb k hk
      rw [if_pos ((gvn_c h hk).mp hg)] at this
      exact ⟨this, by rw [hK 5 (by decide) (by decide)]; exact b, by rw [hK 6 (by decide) (by decide)]; exact c⟩
    · obtain ⟨a, b, c⟩ := v2 k hk hg
      have := hb k hk
      rw [if_neg (fun z => hg ((gvn_c h hk).mpr z))] at this
      exact ⟨this, by rw [hK 5 (by decide) (by decide)]; exact b, by rw [hK 6 (by decide) (by decide)]; exact c⟩
  obtain ⟨L2, a, b⟩ := bdMo ok2 hv
  refine ⟨L2, ?_, b⟩
  rw [a]
  have : bd K' L' (K' 4) v = bd I J (K' 4) v := bd_cong h.1 (fun k hk => ⟨by rw [hK 0 (by decide) (by decide)]; exact h.c hk (by decide), by rw [hK 1 (by decide) (by decide)]; exact h.c hk (by decide), by rw [hK 2 (by decide) (by decide)]; exact h.c hk (by decide), by rw [hK 5 (by decide) (by decide)]; exact h.c hk (by decide)⟩) (fun k hk => ⟨by rw [hL 0 (by decide)]; exact (h.2.2.2.1 k hk).2.1, by rw [hL 1 (by decide)]; exact (h.2.2.2.1 k hk).2.2.1⟩) (fun k hk _ => rfl) hv
  rw [← this]; rfl
theorem op_floor {n : Nat} {I : TI} {J : TJ} {K : TI} {L : TJ} (h : Cp n I J K L) (v : Int32) : Bo (fX4_floor v I J) (fX5_floor v K L) := by
  have hn := h.n16
  unfold fX4_floor fX5_floor
  rcases ix3 v n hn with hv | ⟨k, hk, rfl⟩
  · rw [hasX0 h.x hv, valM0 h.m hn hv, bnd_eq, bnd_eq, if_pos rfl, if_pos rfl]
    exact Bo.mk h rfl rfl
  · rw [hasX1 h.x hn hk, valM1 h.m hn hk, bnd_eq, bnd_eq, if_neg o10, if_neg o10]
    obtain ⟨I', J', x1, x2, x3, x4⟩ := atWidestX h.1 h.reach hk
    obtain ⟨K1, s1, s2, s3⟩ := savM (L := L) h.m hn
    have oK1 : Ok n K1 L := h.okM.cong (fun k hk c hc => by rw [s2 c (by omega)]) (fun k hk _ => by rw [s2 7 (by decide)]) (fun _ _ => rfl) (fun _ _ => rfl)
    have m1 : K1 13 0 = nI n := by rw [s2 13 (by decide)]; exact h.m
    obtain ⟨K2, t1, t2, t3⟩ := sallM oK1 m1 16
    have b16 : ∀ j, j < n → K2 4 j = 16 := fun j hj => by rw [t3 j hj]; split <;> rfl
    obtain ⟨L2, u1, u2⟩ := h.bdM2 (K' := K2) (L' := L) (fun c hc c4 => by rw [t2 c c4, s2 c (by omega)]) (fun k hk => by
      split
      · exact b16 k hk
      · exact ⟨16, by decide, b16 k hk⟩) (fun _ _ => rfl) hk
    have m2 : K2 13 0 = nI n := by rw [t2 13 (by decide)]; exact m1
    obtain ⟨K3, w1, w2, w3⟩ := tkM (L := L2) m2 hn
    rw [x1, s1, bnd_eq, bnd_eq, t1, bnd_eq, u1, bnd_eq, w1, bnd_eq, bd_cong h.1 (fun _ _ => ⟨rfl, rfl, rfl, rfl⟩) (fun _ _ => ⟨rfl, rfl⟩) (fun k hk _ => b16 k hk) hk]
    refine Bo.mk (h.frameN (fun k hk c hc => by rw [x2 c (by omega)]) (x2 9 (by decide)) (by rw [x2 12 (by decide)]) (fun k hk c hc => by rw [x4 c (by omega)]) (fun k hk c hc => ?_) ?_ ?_ ?_ (fun k hk c hc => by rw [u2 c (by omega)])) rfl rfl
    · by_cases c4 : c = 4
      · subst c4; rw [w3 k hk, t2 11 (by decide), s3 k hk]
      · rw [w2 c c4, t2 c c4, s2 c (by omega)]
    · rw [w2 9 (by decide), t2 9 (by decide), s2 9 (by decide)]
    · rw [w2 10 (by decide), t2 10 (by decide), s2 10 (by decide)]
    · rw [w2 13 (by decide), m2, h.m]
-- gain
def gn (I : TI) (J : TJ) (v w : Nat) : Int64 := bd I J (I 4) v - bd I J (upd (I 4) w 16) v
theorem gainX {n : Nat} {I : TI} {J : TJ} (ho : Ok n I J) (h : I 12 0 = nI n) (hR : ∀ k, k < n → J 2 k = rch (J 0 k) (J 1 k)) {v w : Nat} (hv : v < n) (hw : w < n) : ∃ I' J', fX3_gainOf (nI v) (nI w) I J = some (gn I J v w, I', J') ∧ (∀ c, c ≠ 10 → I' c = I c) ∧ (∀ c, c ≠ 5 → J' c = J c) := by
  have hn := ho.1
  obtain ⟨I', J', x1, x2, x3, x4⟩ := toldX ho h hR hv
  have ho2 : Ok n I J' := ho.cong (fun _ _ _ _ => rfl) (fun _ _ _ => rfl) (fun k hk => by rw [x4 0 (by decide)]) (fun k hk => by rw [x4 1 (by decide)])
  obtain ⟨J2, y1, y2⟩ := triX (I0 := I) (I := uI I' 10 w 16) ho2 (fun k hk => by rw [x4 2 (by decide), x4 0 (by decide), x4 1 (by decide)]; exact hR k hk) (fun c hc => by show sI I' 10 _ c = _; rw [sI_ne (by omega)]; exact x2 c (by omega)) hv
  refine ⟨uI I' 10 w 16, J2, ?_, fun c hc => by show sI I' 10 _ c = _; rw [sI_ne hc]; exact x2 c hc, fun c hc => by rw [y2 c hc]; exact x4 c hc⟩
  unfold fX3_gainOf
  rw [x1, bnd_eq, if_pos (nok (by omega)), ncl (by omega), y1, bnd_eq]
  unfold gn
  have e : bd I J' ((uI I' 10 w 16) 10) v = bd I J (upd (I 4) w 16) v := by
    refine bd_cong ho (fun _ _ => ⟨rfl, rfl, rfl, rfl⟩) (fun k hk => ⟨by rw [x4 0 (by decide)], by rw [x4 1 (by decide)]⟩) (fun k hk _ => ?_) hv
    show (if k = w then 16 else I' 10 k) = (if k = w then 16 else I 4 k)
    rw [x3 k hk]
  rw [e]
theorem gainM {n : Nat} {I : TI} {J : TJ} {K : TI} {L : TJ} (h : Cp n I J K L) {v w : Nat} (hv : v < n) (hw : w < n) : ∃ L', fX5_gainOf (nI v) (nI w) K L = some (gn I J v w, K, L') ∧ (∀ c, c ≠ 2 → L' c = L c) := by
  have hn := h.n16
  obtain ⟨L1, a1, a2⟩ := h.bdM hv
  have oM := h.okM
  obtain ⟨v1, v2⟩ := oM.valid
  obtain ⟨L2, b1, b2⟩ := h.bdM2 (K' := uI K 4 w 16) (L' := L1) (fun c hc c4 => by show sI K 4 _ c = _; rw [sI_ne c4]) (fun k hk => by
    have r : (uI K 4 w 16) 4 k = if k = w then 16 else K 4 k := rfl
    rw [r]
    by_cases g : gvn I k
    · rw [if_pos g, (v1 k hk ((gvn_c h hk).mpr g)).1]
      split <;> rfl
    · rw [if_neg g]
      split
      · exact ⟨16, by decide, rfl⟩
      · exact (v2 k hk (fun z => g ((gvn_c h hk).mp z))).1) (fun c hc => a2 c (by omega)) hv
  have back : uI (uI K 4 w 16) 4 w (K 4 w) = K := by
    funext c
    show sI (sI K 4 _) 4 _ c = _
    by_cases c4 : c = 4
    · subst c4
      rw [sI_eq]
      funext j
      show (if j = w then K 4 w else (if j = w then 16 else K 4 j)) = _
      by_cases e : j = w
      · rw [if_pos e, e]
      · rw [if_neg e, if_neg e]
    · rw [sI_ne c4, sI_ne c4]
  refine ⟨L2, ?_, fun c hc => by rw [b2 c hc, a2 c hc]⟩
  unfold fX5_gainOf
  rw [a1, bnd_eq, if_pos (nok (by omega)), ncl (by omega), b1, bnd_eq, back]
  unfold gn
  have e : bd I J ((uI K 4 w 16) 4) v = bd I J (upd (I 4) w 16) v := by
    refine bd_cong h.1 (fun _ _ => ⟨rfl, rfl, rfl, rfl⟩) (fun _ _ => ⟨rfl, rfl⟩) (fun k hk _ => ?_) hv
    show (if k = w then 16 else K 4 k) = (if k = w then 16 else I 4 k)
    rw [h.c hk (c := 4) (by decide)]
  rw [e]
theorem op_gain {n : Nat} {I : TI} {J : TJ} {K : TI} {L : TJ} (h : Cp n I J K L) (v w : Int32) : Bo (fX4_gain v w I J) (fX5_gain v w K L) := by
  have hn := h.n16
  unfold fX4_gain fX5_gain
  rcases ix3 v n hn with hv | ⟨k, hk, rfl⟩
  · rw [hasX0 h.x hv, valM0 h.m hn hv, bnd_eq, bnd_eq, if_pos rfl, if_pos rfl]
    exact Bo.mk h rfl rfl
  · rw [hasX1 h.x hn hk, valM1 h.m hn hk, bnd_eq, bnd_eq, if_neg o10, if_neg o10]
    rcases ix3 w n hn with hw | ⟨j, hj, rfl⟩
    · rw [hasX0 h.x hw, valM0 h.m hn hw, bnd_eq, bnd_eq, if_pos rfl, if_pos rfl]
      exact Bo.mk h rfl rfl
    · obtain ⟨I', J', x1, x2, x3⟩ := gainX h.1 h.x h.reach hk hj
      obtain ⟨L', m1, m2⟩ := gainM h hk hj
      rw [hasX1 h.x hn hj, valM1 h.m hn hj, bnd_eq, bnd_eq, if_neg o10, if_neg o10, x1, m1, bnd_eq, bnd_eq]
      exact Bo.mk (h.frame (fun c hc => x2 c (by omega)) (by rw [x2 12 (by decide)]) (fun c hc => x3 c (by omega)) (fun _ _ => rfl) (fun _ _ => rfl) rfl (fun c hc => m2 c (by omega))) rfl rfl
theorem blameL {n : Nat} {v : Nat} (hv : v < n) : ∀ d i, i + d = n → ∀ m m', d < m → d < m' → ∀ (I : TI) (J : TJ) (K : TI) (L : TJ) (fd : Int32) (gr : Int64), Cp n I J K L → ∃ r I' J' L', fX3_mostToBlame_7 m (nI v) fd gr (nI i) I J = some (r, I', J') ∧ fX5_blame_18 m' (nI v) fd gr (nI i) K L = some (r, K, L') ∧ Cp n I' J' K L' := by
  intro d
  induction d with
  | zero =>
    intro i hi m m' hm hm' I J K L fd gr h
    have hn := h.n16
    obtain ⟨m, rfl⟩ : ∃ q, m = q + 1 := ⟨m - 1, by omega⟩
    obtain ⟨m', rfl⟩ : ∃ q, m' = q + 1 := ⟨m' - 1, by omega⟩
    rw [eX3_mostToBlame_7, eX5_blame_18, h.x, h.m, if_pos (by rw [nle (by omega) (by omega)]; omega), if_pos (by rw [nle (by omega) (by omega)]; omega)]
    exact ⟨fd, I, J, L, rfl, rfl, h⟩
  | succ d ih =>
    intro i hi m m' hm hm' I J K L fd gr h
    have hn := h.n16
    have hin : i < n := by omega
    obtain ⟨m, rfl⟩ : ∃ q, m = q + 1 := ⟨m - 1, by omega⟩
    obtain ⟨m', rfl⟩ : ∃ q, m' = q + 1 := ⟨m' - 1, by omega⟩
    rw [eX3_mostToBlame_7, eX5_blame_18, h.x, h.m, if_neg (by rw [nle (by omega) (by omega)]; omega), if_neg (by rw [nle (by omega) (by omega)]; omega), wkX1 h.x hn hin, bnd_eq, if_pos (nok (by omega)), ncl (by omega)]
    have go : ∀ (g : Int64) (I1 : TI) (J1 : TJ) (L1 : TJ), Cp n I1 J1 K L1 → ∃ r I' J' L', fX3_mostToBlame_42 (fX3_mostToBlame_7 m) (nI v) fd gr (nI i) g I1 J1 = some (r, I', J') ∧ fX5_blame_49 (fX5_blame_18 m') (nI v) fd gr (nI i) g K L1 = some (r, K, L') ∧ Cp n I' J' K L' := by
      intro g I1 J1 L1 h1
      unfold fX3_mostToBlame_42 fX5_blame_49
      rw [nsc]
      by_cases c : g ≤ gr
      · rw [if_pos c, if_pos c]
        exact ih (i + 1) (by omega) m m' (by omega) (by omega) I1 J1 K L1 fd gr h1
      · rw [if_neg c, if_neg c]
        exact ih (i + 1) (by omega) m m' (by omega) (by omega) I1 J1 K L1 (nI i) g h1
    by_cases g : gvn I i
    · rw [if_pos g, if_pos rfl, if_pos ((h.okM.kd hin).mpr ((gvn_c h hin).mpr g))]
      exact go 0 I J L h
    · obtain ⟨I1, J1, x1, x2, x3⟩ := gainX h.1 h.x h.reach hv hin
      obtain ⟨L1, m1, m2⟩ := gainM h hv hin
      rw [if_neg g, if_neg o10, if_neg (fun z => g ((gvn_c h hin).mp ((h.okM.kd hin).mp z))), x1, m1, bnd_eq, bnd_eq]
      exact go _ I1 J1 L1 (h.frame (fun c hc => x2 c (by omega)) (by rw [x2 12 (by decide)]) (fun c hc => x3 c (by omega)) (fun _ _ => rfl) (fun _ _ => rfl) rfl (fun c hc => m2 c (by omega)))
theorem op_blame {n : Nat} {I : TI} {J : TJ} {K : TI} {L : TJ} (h : Cp n I J K L) (v : Int32) : Bo (fX4_blame v I J) (fX5_blame v K L) := by
  have hn := h.n16
  unfold fX4_blame fX5_blame
  rcases ix3 v n hn with hv | ⟨k, hk, rfl⟩
  · rw [hasX0 h.x hv, valM0 h.m hn hv, bnd_eq, bnd_eq, if_pos rfl, if_pos rfl]
    exact Bo.mk h rfl rfl
  · obtain ⟨r, I', J', L', a1, a2, a3⟩ := blameL hk n 0 (by omega) fuel fuel (by unfold fuel; omega) (by unfold fuel; omega) I J K L (-1) 0 h
    have e1 : fX3_mostToBlame (nI k) I J = some (r, I', J') := a1
    rw [hasX1 h.x hn hk, valM1 h.m hn hk, bnd_eq, bnd_eq, if_neg o10, if_neg o10, e1, bnd_eq]
    exact Bo.mk a3 rfl a2
