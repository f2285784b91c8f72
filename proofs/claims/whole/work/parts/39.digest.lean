/-! digest -/
theorem digIn (v : Int32) : ∀ d w, w + d = 10 → ∀ m m', d < m → d < m' → ∀ (a : Int64) (n : Nat) (I : TI) (J : TJ) (K : TI) (L : TJ), Cp n I J K L → ∃ a' n' I' J' K' L', Cp n' I' J' K' L' ∧ (∀ kf, fX4_digest_46 kf m a v (nI w) I J = kf a' (v + 1) I' J') ∧ ∀ kf, fX5_digest_43 kf m' a v (nI w) K L = kf a' (v + 1) K' L' := by
  have e9 : (9 : Int32) = nI 9 := rfl
  have e10 : (10 : Int32) = nI 10 := rfl
  intro d
  induction d with
  | zero =>
    intro w hw m m' hm hm' a n I J K L h
    obtain ⟨m, rfl⟩ : ∃ q, m = q + 1 := ⟨m - 1, by omega⟩
    obtain ⟨m', rfl⟩ : ∃ q, m' = q + 1 := ⟨m' - 1, by omega⟩
    obtain ⟨r1, I1, J1, K1, L1, n1, x1, m1, h1⟩ := op_exact h v
    obtain ⟨r2, I2, J2, K2, L2, n2, x2, m2, h2⟩ := op_tuned h1 v
    refine ⟨((31 : Int64) * (((31 : Int64) * a) + r1)) + r2, n2, I2, J2, K2, L2, h2, fun kf => ?_, fun kf => ?_⟩
    · rw [eX4_digest_46, if_pos (by rw [e9, nlt (by omega) (by omega)]; omega), x1, bnd_eq, x2, bnd_eq]
    · rw [eX5_digest_43, if_pos (by rw [e10, nle (by omega) (by omega)]; omega), m1, bnd_eq, m2, bnd_eq]
  | succ d ih =>
    intro w hw m m' hm hm' a n I J K L h
    obtain ⟨m, rfl⟩ : ∃ q, m = q + 1 := ⟨m - 1, by omega⟩
    obtain ⟨m', rfl⟩ : ∃ q, m' = q + 1 := ⟨m' - 1, by omega⟩
    obtain ⟨r1, I1, J1, K1, L1, n1, x1, m1, h1⟩ := op_about h v (nI w)
    obtain ⟨a', n', I', J', K', L', y1, y2, y3⟩ := ih (w + 1) (by omega) m m' (by omega) (by omega) ((31 : Int64) * a + r1) n1 I1 J1 K1 L1 h1
    refine ⟨a', n', I', J', K', L', y1, fun kf => ?_, fun kf => ?_⟩
    · rw [eX4_digest_46, if_neg (by rw [e9, nlt (by omega) (by omega)]; omega), x1, bnd_eq, nsc]; exact y2 kf
    · rw [eX5_digest_43, if_neg (by rw [e10, nle (by omega) (by omega)]; omega), m1, bnd_eq, nsc]; exact y3 kf
theorem digV : ∀ d i, i + d = 17 → ∀ m m', d < m → d < m' → ∀ (a : Int64) (n : Nat) (I : TI) (J : TJ) (K : TI) (L : TJ), Cp n I J K L → Bo (fX4_digest_32 m a (nI i) I J) (fX5_digest_32 m' a (nI i) K L) := by
  intro d
  induction d with
  | zero =>
    intro i hi m m' hm hm' a n I J K L h
    have hn := h.n16
    obtain ⟨m, rfl⟩ : ∃ q, m = q + 1 := ⟨m - 1, by omega⟩
    obtain ⟨m', rfl⟩ : ∃ q, m' = q + 1 := ⟨m' - 1, by omega⟩
    rw [eX4_digest_32, eX5_digest_32, h.x, h.m, if_pos (by rw [nle (by omega) (by omega)]; omega), if_pos (by rw [nle (by omega) (by omega)]; omega)]
    exact Bo.mk h rfl rfl
  | succ d ih =>
    intro i hi m m' hm hm' a n I J K L h
    have hn := h.n16
    obtain ⟨m, rfl⟩ : ∃ q, m = q + 1 := ⟨m - 1, by omega⟩
    obtain ⟨m', rfl⟩ : ∃ q, m' = q + 1 := ⟨m' - 1, by omega⟩
    rw [eX4_digest_32, eX5_digest_32, h.x, h.m]
    by_cases c : nI n ≤ nI i
    · rw [if_pos c, if_pos c]; exact Bo.mk h rfl rfl
    · rw [if_neg c, if_neg c]
      obtain ⟨a', n', I', J', K', L', y1, y2, y3⟩ := digIn (nI i) 10 0 (by omega) fuel fuel (by unfold fuel; omega) (by unfold fuel; omega) a n I J K L h
      have z : (0 : Int32) = nI 0 := rfl
      rw [z, y2, y3, nsc]
      exact ih (i + 1) (by omega) m m' (by omega) (by omega) a' n' I' J' K' L' y1
theorem digC {n : Nat} {I : TI} {J : TJ} {K : TI} {L : TJ} (h : Cp n I J K L) : ∀ d i, i + d = 4 → ∀ m m', d < m → d < m' → ∀ (a : Int64), Bo (fX4_digest_6 m a (nI i) I J) (fX5_digest_6 m' a (nI i) K L) := by
  have e3 : (3 : Int32) = nI 3 := rfl
  have e4 : (4 : Int32) = nI 4 := rfl
  have hn := h.n16
  intro d
  induction d with
  | zero =>
    intro i hi m m' hm hm' a
    obtain ⟨m, rfl⟩ : ∃ q, m = q + 1 := ⟨m - 1, by omega⟩
    obtain ⟨m', rfl⟩ : ∃ q, m' = q + 1 := ⟨m' - 1, by omega⟩
    rw [eX4_digest_6, eX5_digest_6, if_pos (by rw [e3, nlt (by omega) (by omega)]; omega), if_pos (by rw [e4, nle (by omega) (by omega)]; omega)]
    exact digV 17 0 (by omega) fuel fuel (by unfold fuel; omega) (by unfold fuel; omega) a n I J K L h
  | succ d ih =>
    intro i hi m m' hm hm' a
    obtain ⟨m, rfl⟩ : ∃ q, m = q + 1 := ⟨m - 1, by omega⟩
    obtain ⟨m', rfl⟩ : ∃ q, m' = q + 1 := ⟨m' - 1, by omega⟩
    rw [eX4_digest_6, eX5_digest_6, if_neg (by rw [e3, nlt (by omega) (by omega)]; omega), if_neg (by rw [e4, nle (by omega) (by omega)]; omega), countX h.x hn, countM h, bnd_eq, bnd_eq, nsc]
    exact ih (i + 1) (by omega) m m' (by omega) (by omega) _
theorem op_digest {n : Nat} {I : TI} {J : TJ} {K : TI} {L : TJ} (h : Cp n I J K L) : Bo (fX4_digest I J) (fX5_digest K L) :=
  digC h 4 0 (by omega) fuel fuel (by unfold fuel; omega) (by unfold fuel; omega) 17
