/-! worst, above: whole -/
theorem toFirstX {n : Nat} {I0 : TI} {J : TJ} (h : I0 12 0 = nI n) (hn : n ≤ 16) : ∀ d i, i + d = n → ∀ m, d < m → ∀ I : TI, (∀ c, c ≠ 8 → I c = I0 c) → (∀ k, k < i → I 8 k = I0 1 k) → ∃ I', fX1_toFirstRow_2 m (nI i) I J = some ((), I', J) ∧ (∀ c, c ≠ 8 → I' c = I0 c) ∧ ∀ k, k < n → I' 8 k = I0 1 k := by
  intro d
  induction d with
  | zero =>
    intro i hi m hm I hI h8
    obtain ⟨m, rfl⟩ : ∃ m', m = m' + 1 := ⟨m - 1, by omega⟩
    refine ⟨I, ?_, hI, fun k hk => h8 k (by omega)⟩
    rw [eX1_toFirstRow_2, hI 12 (by decide), h, if_pos (by rw [nle (by omega) (by omega)]; omega)]
  | succ d ih =>
    intro i hi m hm I hI h8
    obtain ⟨m, rfl⟩ : ∃ m', m = m' + 1 := ⟨m - 1, by omega⟩
    rw [eX1_toFirstRow_2, hI 12 (by decide), h, if_neg (by rw [nle (by omega) (by omega)]; omega), if_pos (nok (by omega)), ncl (by omega), nsc]
    refine ih (i + 1) (by omega) m (by omega) _ (fun c hc => ?_) (fun k hk => ?_)
    · show sI I 8 _ c = _
      rw [sI_ne hc]; exact hI c hc
    · by_cases e : k = i
      · subst e; rw [I_eq, hI 1 (by decide)]
      · rw [I_ne e]; exact h8 k (by omega)
theorem keepM {n : Nat} {K0 : TI} {L : TJ} (h : K0 13 0 = nI n) (hn : n ≤ 16) : ∀ d i, i + d = n → ∀ m, d < m → ∀ K : TI, (∀ c, c ≠ 7 → c ≠ 8 → K c = K0 c) → (∀ k, k < i → K 8 k = K0 7 k ∧ K 7 k = if K0 0 k = 0 then K0 1 k else K0 7 k) → (∀ k, i ≤ k → K 7 k = K0 7 k) → ∃ K', fX5_keep_2 m (nI i) K L = some ((), K', L) ∧ (∀ c, c ≠ 7 → c ≠ 8 → K' c = K0 c) ∧ ∀ k, k < n → K' 8 k = K0 7 k ∧ K' 7 k = if K0 0 k = 0 then K0 1 k else K0 7 k := by
  intro d
  induction d with
  | zero =>
    intro i hi m hm K hK h8 h7
    obtain ⟨m, rfl⟩ : ∃ m', m = m' + 1 := ⟨m - 1, by omega⟩
    refine ⟨K, ?_, hK, fun k hk => h8 k (by omega)⟩
    rw [eX5_keep_2, hK 13 (by decide) (by decide), h, if_pos (by rw [nle (by omega) (by omega)]; omega)]
  | succ d ih =>
    intro i hi m hm K hK h8 h7
    obtain ⟨m, rfl⟩ : ∃ m', m = m' + 1 := ⟨m - 1, by omega⟩
    have go : ∀ x : Int32, x = (if K0 0 i = 0 then K0 1 i else K0 7 i) → ∃ K', fX5_keep_2 m (nI (i + 1)) (uI (uI K 8 i (K0 7 i)) 7 i x) L = some ((), K', L) ∧ (∀ c, c ≠ 7 → c ≠ 8 → K' c = K0 c) ∧ ∀ k, k < n → K' 8 k = K0 7 k ∧ K' 7 k = if K0 0 k = 0 then K0 1 k else K0 7 k := by
      intro x hx
      refine ih (i + 1) (by omega) m (by omega) _ (fun c c7 c8 => ?_) (fun k hk => ?_) (fun k hk => ?_)
      · show sI (sI K 8 _) 7 _ c = _
        rw [sI_ne c7, sI_ne c8]; exact hK c c7 c8
      · by_cases e : k = i
        · subst e; rw [I_nc (by decide), I_eq, I_eq]; exact ⟨rfl, hx⟩
        · rw [I_ne e, I_ne e, I_ne e, I_ne e]; exact h8 k (by omega)
      · rw [I_ne (by omega), I_ne (by omega)]; exact h7 k (by omega)
    rw [eX5_keep_2, hK 13 (by decide) (by decide), h, if_neg (by rw [nle (by omega) (by omega)]; omega), if_pos (nok (by omega)), ncl (by omega), nsc, hK 0 (by decide) (by decide), hK 1 (by decide) (by decide), h7 i (Nat.le_refl i)]
    by_cases g : K0 0 i = 0
    · rw [if_pos g]
      exact go _ (by rw [if_pos g])
    · rw [if_neg g]
      exact go _ (by rw [if_neg g])
theorem restM {n : Nat} {Kb : TI} {L : TJ} (h : Kb 13 0 = nI n) (hn : n ≤ 16) : ∀ d i, i + d = n → ∀ m, d < m → ∀ K : TI, (∀ c, c ≠ 7 → K c = Kb c) → (∀ k, k < i → K 7 k = Kb 8 k) → ∃ K', fX5_restore_2 m (nI i) K L = some ((), K', L) ∧ (∀ c, c ≠ 7 → K' c = Kb c) ∧ ∀ k, k < n → K' 7 k = Kb 8 k := by
  intro d
  induction d with
  | zero =>
    intro i hi m hm K hK h7
    obtain ⟨m, rfl⟩ : ∃ m', m = m' + 1 := ⟨m - 1, by omega⟩
    refine ⟨K, ?_, hK, fun k hk => h7 k (by omega)⟩
    rw [eX5_restore_2, hK 13 (by decide), h, if_pos (by rw [nle (by omega) (by omega)]; omega)]
  | succ d ih =>
    intro i hi m hm K hK h7
    obtain ⟨m, rfl⟩ : ∃ m', m = m' + 1 := ⟨m - 1, by omega⟩
    rw [eX5_restore_2, hK 13 (by decide), h, if_neg (by rw [nle (by omega) (by omega)]; omega), if_pos (nok (by omega)), ncl (by omega), nsc, hK 8 (by decide)]
    refine ih (i + 1) (by omega) m (by omega) _ (fun c hc => ?_) (fun k hk => ?_)
    · show sI K 7 _ c = _
      rw [sI_ne hc]; exact hK c hc
    · by_cases e : k = i
      · subst e; rw [I_eq]
      · rw [I_ne e]; exact h7 k (by omega)
theorem Rw.fin {n : Nat} {I0 : TI} {J0 : TJ} {K0 : TI} {L0 : TJ} (h0 : Cp n I0 J0 K0 L0) (h8 : ∀ k, k < n → K0 8 k = K0 7 k) {r : Nat → Int32} {I : TI} {J : TJ} {K : TI} {L : TJ} (h : Rw n I0 J0 K0 L0 r I J K L) : ∃ K', fX5_restore K L = some ((), K', L) ∧ Cp n I J K' L := by
  have hn := h0.n16
  have oX := h.okX h0
  obtain ⟨a1, a2, a3, a4, a5, a6, a7, a8⟩ := h
  obtain ⟨K', y1, y2, y3⟩ := restM (L := L) (show K 13 0 = nI n by rw [a3 13 (by decide) (by decide) (by decide)]; exact h0.m) hn n 0 (by omega) fuel (by unfold fuel; omega) K (fun _ _ => rfl) (fun k hk => by omega)
  refine ⟨K', y1, oX, by rw [a1 12 (by decide) (by decide)]; exact h0.x, by rw [y2 13 (by decide), a3 13 (by decide) (by decide) (by decide)]; exact h0.m, fun k hk => ?_, fun k hk => ?_⟩
  · obtain ⟨b1, b2, b3, b4, b5, b6⟩ := h0.2.2.2.1 k hk
    refine ⟨fun c hc => by rw [y2 c (by omega), a3 c (by omega) (by omega) (by omega), a1 c (by omega) (by omega)]; exact b1 c hc, by rw [a4 0 (by decide) (by decide), a2 0 (by decide) (by decide)]; exact b2, by rw [a4 1 (by decide) (by decide), a2 1 (by decide) (by decide)]; exact b3, fun e => ?_, fun e => ?_, by rw [a2 0 (by decide) (by decide), a2 1 (by decide) (by decide), a2 2 (by decide) (by decide)]; exact b6⟩
    · rw [a1 0 (by decide) (by decide)] at e
      rw [y3 k hk, a3 8 (by decide) (by decide) (by decide), h8 k hk, a1 7 (by decide) (by decide)]; exact b4 e
    · rw [a1 0 (by decide) (by decide)] at e
      rw [a1 7 (by decide) (by decide), a1 1 (by decide) (by decide)]; exact b5 e
  · rw [y2 9 (by decide), y2 10 (by decide)]; exact a8 k hk
theorem rowsStart {n : Nat} {I : TI} {J : TJ} {K : TI} {L : TJ} (h : Cp n I J K L) : ∃ I' K' K0 r, fX1_toFirstRow I J = some ((), I', J) ∧ fX5_keep K L = some ((), K', L) ∧ Cp n I J K0 L ∧ (∀ k, k < n → K0 8 k = K0 7 k) ∧ Rw n I J K0 L r I' J K' L ∧ rmn I r n + 1 = prd I n := by
  have hn := h.n16
  obtain ⟨I', x1, x2, x3⟩ := toFirstX (J := J) h.x hn n 0 (by omega) fuel (by unfold fuel; omega) I (fun _ _ => rfl) (fun k hk => by omega)
  obtain ⟨K', y1, y2, y3⟩ := keepM (L := L) h.m hn n 0 (by omega) fuel (by unfold fuel; omega) K (fun _ _ _ => rfl) (fun k hk => by omega) (fun _ _ => rfl)
  have ne : ∀ c, c ≠ 8 → sI K 8 (K' 8) c = K c := fun c hc => sI_ne hc
  have c0 : Cp n I J (sI K 8 (K' 8)) L := h.frame (fun _ _ => rfl) rfl (fun _ _ => rfl) (fun c hc => ne c (by omega)) (fun k hk => by rw [ne 7 (by decide)]) (by rw [ne 13 (by decide)]) (fun _ _ => rfl)
  refine ⟨I', K', sI K 8 (K' 8), I 1, x1, y1, c0, fun k hk => ?_, ⟨fun c c8 c9 => x2 c c8, fun _ _ _ => rfl, fun c c7 c9 c10 => ?_, fun _ _ _ => rfl, fun k hk _ => x3 k hk, fun k hk e => ?_, fun k hk => ?_, fun k hk => ?_⟩, rmn_first n (fun _ _ _ => rfl)⟩
  · rw [sI_eq, ne 7 (by decide)]; exact (y3 k hk).1
  · by_cases c8 : c = 8
    · subst c8; rw [sI_eq]
    · rw [ne c c8]; exact y2 c c7 c8
  · have e' : K 0 k = 0 := by rw [h.c hk (by decide)]; exact e
    rw [(y3 k hk).2, if_pos e']; exact h.c hk (by decide)
  · refine ⟨fun e => ?_, fun _ => rfl⟩
    rcases (h.1.2 k hk).1 with q | q
    · rcases q.1 with ⟨_, _, b2, _⟩ | ⟨b0, _⟩
      · exact ⟨q.2.1.2.2, Int.le_refl _, b2⟩
      · exact absurd (b0.symm.trans e) (by decide)
    · exact absurd (Or.inl e) q.ngv
  · rw [y2 9 (by decide) (by decide), y2 10 (by decide) (by decide), x2 9 (by decide)]; exact h.2.2.2.2 k hk
theorem nps {c : Nat} (h : c < 100000) : ¬ nI (c + 1) ≤ 0 := by
  have e : (0 : Int32).toInt = 0 := rfl
  rw [le32, nI_toInt (by omega), e]; omega
theorem nms (c : Nat) : nI (c + 1) + (-1 : Int32) = nI c := ixm_s c
theorem worstL {n : Nat} {I0 : TI} {J0 : TJ} {K0 : TI} {L0 : TJ} (h0 : Cp n I0 J0 K0 L0) {v : Nat} (hv : v < n) : ∀ c, c < 90000 → ∀ m m', c + 1 < m → c + 1 < m' → ∀ (w : Int64) (r : Nat → Int32) (I : TI) (J : TJ) (K : TI) (L : TJ), Rw n I0 J0 K0 L0 r I J K L → rmn I0 r n = c → ∃ q r' I' J' K' L', fX1_greatestMiss_13 m (nI v) (nI (c + 1)) w I J = some (q, I', J') ∧ fX5_worst_41 m' (nI v) w 1 K L = bnd (fX5_restore K' L') (fun _ I J => some (q, I, J)) ∧ Rw n I0 J0 K0 L0 r' I' J' K' L' := by
  intro c
  induction c with
  | zero =>
    intro hc m m' hm hm' w r I J K L h hr
    obtain ⟨m, rfl⟩ : ∃ q, m = q + 1 + 1 := ⟨m - 2, by omega⟩
    obtain ⟨m', rfl⟩ : ∃ q, m' = q + 1 + 1 := ⟨m' - 2, by omega⟩
    obtain ⟨q, J1, L1, x1, x2, x3, x4⟩ := iterL h0 hv h
    rw [eX1_greatestMiss_13, if_neg (nps (by omega)), x1, bnd_eq, x2, bnd_eq, eX5_worst_41, if_neg o10, x3, bnd_eq]
    have fin : ∀ (w : Int64) (I : TI) (J : TJ) (K : TI) (L : TJ), Rw n I0 J0 K0 L0 r I J K L → ∃ q r' I' J' K' L', fX1_greatestMiss_43 (fX1_greatestMiss_13 (m + 1)) (nI v) (nI (0 + 1)) w I J = some (q, I', J') ∧ fX5_worst_124 (fX5_worst_41 (m' + 1)) (nI v) w K L = bnd (fX5_restore K' L') (fun _ I J => some (q, I, J)) ∧ Rw n I0 J0 K0 L0 r' I' J' K' L' := by
      intro w I J K L h
      obtain ⟨q, r', I', K', y1, y2, y3, y4⟩ := nextB h0 h
      rcases y4 with ⟨_, z⟩ | ⟨_, z⟩
      · refine ⟨w, r', I', J, K', L, ?_, ?_, y3⟩
        · unfold fX1_greatestMiss_43
          rw [y1, bnd_eq, nms, eX1_greatestMiss_13, if_pos (show nI 0 ≤ 0 by decide)]
        · unfold fX5_worst_124
          rw [y2, bnd_eq, z, eX5_worst_41, if_pos rfl]
      · omega
    by_cases g : q ≤ w
    · rw [if_pos g, if_pos g]
      exact fin w I J1 K L1 x4
    · rw [if_neg g, if_neg g]
      obtain ⟨I2, K2, k1, k2, k3⟩ := keptB h0 x4 (nI v) q
      rw [k1, bnd_eq, k2]
      exact fin q I2 J1 K2 L1 k3
  | succ c ih =>
    intro hc m m' hm hm' w r I J K L h hr
    obtain ⟨m, rfl⟩ : ∃ q, m = q + 1 := ⟨m - 1, by omega⟩
    obtain ⟨m', rfl⟩ : ∃ q, m' = q + 1 := ⟨m' - 1, by omega⟩
    obtain ⟨q, J1, L1, x1, x2, x3, x4⟩ := iterL h0 hv h
    rw [eX1_greatestMiss_13, if_neg (nps (by omega)), x1, bnd_eq, x2, bnd_eq, eX5_worst_41, if_neg o10, x3, bnd_eq]
    have go : ∀ (w : Int64) (I : TI) (J : TJ) (K : TI) (L : TJ), Rw n I0 J0 K0 L0 r I J K L → ∃ q r' I' J' K' L', fX1_greatestMiss_43 (fX1_greatestMiss_13 m) (nI v) (nI (c + 1 + 1)) w I J = some (q, I', J') ∧ fX5_worst_124 (fX5_worst_41 m') (nI v) w K L = bnd (fX5_restore K' L') (fun _ I J => some (q, I, J)) ∧ Rw n I0 J0 K0 L0 r' I' J' K' L' := by
      intro w I J K L h
      obtain ⟨q, r', I', K', y1, y2, y3, y4⟩ := nextB h0 h
      rcases y4 with ⟨z, _⟩ | ⟨z, z2⟩
      · omega
      · unfold fX1_greatestMiss_43 fX5_worst_124
        rw [y1, bnd_eq, nms, y2, bnd_eq, z]
        exact ih (by omega) m m' (by omega) (by omega) w r' I' J K' L y3 (by omega)
    by_cases g : q ≤ w
    · rw [if_pos g, if_pos g]
      exact go w I J1 K L1 x4
    · rw [if_neg g, if_neg g]
      obtain ⟨I2, K2, k1, k2, k3⟩ := keptB h0 x4 (nI v) q
      rw [k1, bnd_eq, k2]
      exact go q I2 J1 K2 L1 k3
theorem few {p : Nat} : nI (min 1000000 p) ≤ (4000 : Int32) ↔ p ≤ 4000 := by
  have e : (4000 : Int32).toInt = 4000 := rfl
  rw [le32, nI_toInt (by omega), e]; omega
theorem nfew {p : Nat} : (4000 : Int32) < nI (min 1000000 p) ↔ ¬ p ≤ 4000 := by
  have e : (4000 : Int32).toInt = 4000 := rfl
  rw [lt32, nI_toInt (by omega), e]; omega
theorem op_worst {n : Nat} {I : TI} {J : TJ} {K : TI} {L : TJ} (h : Cp n I J K L) (v : Int32) : Bo (fX4_worst v I J) (fX5_worst v K L) := by
  have hn := h.n16
  unfold fX4_worst fX5_worst
  rcases ix3 v n hn with hv | ⟨k, hk, rfl⟩
  · rw [hasX0 h.x hv, valM0 h.m hn hv, bnd_eq, bnd_eq, if_pos rfl, if_pos rfl]
    exact Bo.mk h rfl rfl
  · rw [hasX1 h.x hn hk, valM1 h.m hn hk, bnd_eq, bnd_eq, if_neg o10, if_neg o10, rwsM h.okM h.m, bnd_eq, h.prd]
    unfold fX1_areFew
    rw [rwX h.1 h.x, bnd_eq]
    by_cases c : prd I n ≤ 4000
    · rw [if_neg (fun z => nfew.mp z c), bnd_eq, if_neg o10, if_pos (few.mpr c)]
      unfold fX1_greatestMiss
      obtain ⟨I1, K1, K0, r, s1, s2, s3, s4, s5, s6⟩ := rowsStart h
      have pp := prd_pos I n
      obtain ⟨q, r', I', J', K', L', w1, w2, w3⟩ := worstL s3 hk (rmn I r n) (by omega) fuel fuel (by unfold fuel; omega) (by unfold fuel; omega) (-1) r I1 J K1 L s5 rfl
      obtain ⟨K2, f1, f2⟩ := w3.fin s3 s4
      rw [rwX h.1 h.x, bnd_eq, s1, bnd_eq, Nat.min_eq_right (show prd I n ≤ 1000000 by omega), ← s6, w1, bnd_eq, s2, bnd_eq, w2, f1, bnd_eq]
      exact Bo.mk f2 rfl rfl
    · rw [if_pos (nfew.mpr c), bnd_eq, if_pos rfl, if_neg (fun z => c (few.mp z))]
      exact Bo.mk h rfl rfl
theorem aboveL {n : Nat} {I0 : TI} {J0 : TJ} {K0 : TI} {L0 : TJ} (h0 : Cp n I0 J0 K0 L0) {v : Nat} (hv : v < n) (w : Int64) : ∀ c, c < 90000 → ∀ m m', c + 1 < m → c + 1 < m' → ∀ (a : Int32) (r : Nat → Int32) (I : TI) (J : TJ) (K : TI) (L : TJ), Rw n I0 J0 K0 L0 r I J K L → rmn I0 r n = c → ∃ q r' I' J' K' L', fX1_rowsAbove_13 m (nI v) w (nI (c + 1)) a I J = some (q, I', J') ∧ fX5_above_34 m' (nI v) w a 1 K L = bnd (fX5_restore K' L') (fun _ I J => some (q, I, J)) ∧ Rw n I0 J0 K0 L0 r' I' J' K' L' := by
  intro c
  induction c with
  | zero =>
    intro hc m m' hm hm' a r I J K L h hr
    obtain ⟨m, rfl⟩ : ∃ q, m = q + 1 + 1 := ⟨m - 2, by omega⟩
    obtain ⟨m', rfl⟩ : ∃ q, m' = q + 1 + 1 := ⟨m' - 2, by omega⟩
    obtain ⟨q, J1, L1, x1, x2, x3, x4⟩ := iterL h0 hv h
    rw [eX1_rowsAbove_13, if_neg (nps (by omega)), x1, bnd_eq, x2, bnd_eq, eX5_above_34, if_neg o10, x3, bnd_eq]
    have fin : ∀ (a b b' : Int32), a + b' = b → ∃ q r' I' J' K' L', fX1_rowsAbove_36 (fX1_rowsAbove_13 (m + 1)) (nI v) w (nI (0 + 1)) b I J1 = some (q, I', J') ∧ fX5_above_56 (fX5_above_34 (m' + 1)) (nI v) w b' a K L1 = bnd (fX5_restore K' L') (fun _ I J => some (q, I, J)) ∧ Rw n I0 J0 K0 L0 r' I' J' K' L' := by
      intro a b b' hb
      obtain ⟨q, r', I', K', y1, y2, y3, y4⟩ := nextB h0 x4
      rcases y4 with ⟨_, z⟩ | ⟨_, z⟩
      · refine ⟨b, r', I', J1, K', L1, ?_, ?_, y3⟩
        · unfold fX1_rowsAbove_36
          rw [y1, bnd_eq, nms, eX1_rowsAbove_13, if_pos (show nI 0 ≤ 0 by decide)]
        · unfold fX5_above_56
          rw [y2, bnd_eq, z, eX5_above_34, if_pos rfl, hb]
      · omega
    by_cases g : q ≤ w
    · rw [if_pos g, if_pos g]
      exact fin a a 0 (Int32.add_zero a)
    · rw [if_neg g, if_neg g]
      exact fin a (a + 1) 1 rfl
  | succ c ih =>
    intro hc m m' hm hm' a r I J K L h hr
    obtain ⟨m, rfl⟩ : ∃ q, m = q + 1 := ⟨m - 1, by omega⟩
    obtain ⟨m', rfl⟩ : ∃ q, m' = q + 1 := ⟨m' - 1, by omega⟩
    obtain ⟨q, J1, L1, x1, x2, x3, x4⟩ := iterL h0 hv h
    rw [eX1_rowsAbove_13, if_neg (nps (by omega)), x1, bnd_eq, x2, bnd_eq, eX5_above_34, if_neg o10, x3, bnd_eq]
    have go : ∀ (a b b' : Int32), a + b' = b → ∃ q r' I' J' K' L', fX1_rowsAbove_36 (fX1_rowsAbove_13 m) (nI v) w (nI (c + 1 + 1)) b I J1 = some (q, I', J') ∧ fX5_above_56 (fX5_above_34 m') (nI v) w b' a K L1 = bnd (fX5_restore K' L') (fun _ I J => some (q, I, J)) ∧ Rw n I0 J0 K0 L0 r' I' J' K' L' := by
      intro a b b' hb
      obtain ⟨q, r', I', K', y1, y2, y3, y4⟩ := nextB h0 x4
      rcases y4 with ⟨z, _⟩ | ⟨z, z2⟩
      · omega
      · unfold fX1_rowsAbove_36 fX5_above_56
        rw [y1, bnd_eq, nms, y2, bnd_eq, z, hb]
        exact ih (by omega) m m' (by omega) (by omega) b r' I' J1 K' L1 y3 (by omega)
    by_cases g : q ≤ w
    · rw [if_pos g, if_pos g]
      exact go a a 0 (Int32.add_zero a)
    · rw [if_neg g, if_neg g]
      exact go a (a + 1) 1 rfl
theorem op_above {n : Nat} {I : TI} {J : TJ} {K : TI} {L : TJ} (h : Cp n I J K L) (v : Int32) (w : Int64) : Bo (fX4_above v w I J) (fX5_above v w K L) := by
  have hn := h.n16
  unfold fX4_above fX5_above
  rcases ix3 v n hn with hv | ⟨k, hk, rfl⟩
  · rw [hasX0 h.x hv, valM0 h.m hn hv, bnd_eq, bnd_eq, if_pos rfl, if_pos rfl]
    exact Bo.mk h rfl rfl
  · rw [hasX1 h.x hn hk, valM1 h.m hn hk, bnd_eq, bnd_eq, if_neg o10, if_neg o10, rwsM h.okM h.m, bnd_eq, h.prd]
    unfold fX1_areFew
    rw [rwX h.1 h.x, bnd_eq]
    by_cases c : prd I n ≤ 4000
    · rw [if_neg (fun z => nfew.mp z c), bnd_eq, if_neg o10, if_pos (few.mpr c)]
      unfold fX1_rowsAbove
      obtain ⟨I1, K1, K0, r, s1, s2, s3, s4, s5, s6⟩ := rowsStart h
      have pp := prd_pos I n
      obtain ⟨q, r', I', J', K', L', w1, w2, w3⟩ := aboveL s3 hk w (rmn I r n) (by omega) fuel fuel (by unfold fuel; omega) (by unfold fuel; omega) 0 r I1 J K1 L s5 rfl
      obtain ⟨K2, f1, f2⟩ := w3.fin s3 s4
      rw [rwX h.1 h.x, bnd_eq, s1, bnd_eq, Nat.min_eq_right (show prd I n ≤ 1000000 by omega), ← s6, w1, bnd_eq, s2, bnd_eq, w2, f1, bnd_eq]
      exact Bo.mk f2 rfl rfl
    · rw [if_pos (nfew.mpr c), bnd_eq, if_pos rfl, if_neg (fun z => c (few.mp z))]
      exact Bo.mk h rfl rfl
