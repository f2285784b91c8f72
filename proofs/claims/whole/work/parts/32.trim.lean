/-! trim -/
theorem Cp.newbits {n : Nat} {I I' : TI} {J J' : TJ} {K K' : TI} {L L' : TJ} (h : Cp n I J K L) (hI : ∀ k, k < n → ∀ c, c < 8 → c ≠ 4 → I' c k = I c k) (hI9 : I' 9 = I 9) (hI2 : I' 12 0 = I 12 0) (hJ : ∀ k, k < n → ∀ c, c < 3 → J' c k = J c k) (hK : ∀ k, k < n → ∀ c, c < 8 → c ≠ 4 → K' c k = K c k) (hK9 : K' 9 = K 9) (hK10 : K' 10 = K 10) (hK2 : K' 13 0 = K 13 0) (hL : ∀ k, k < n → ∀ c, c < 2 → L' c k = L c k) (hb : ∀ k, k < n → K' 4 k = I' 4 k) (hv : ∀ k, k < n → if gvn I k then I' 4 k = 16 else ∃ f, f ≤ 16 ∧ I' 4 k = nI f) : Cp n I' J' K' L' := by
  obtain ⟨h1, h2, h3, h4, h5⟩ := h
  obtain ⟨v1, v2⟩ := h1.valid
  refine ⟨h1.set (fun k hk c hc => hI k hk c (by omega) (by omega)) (fun k hk _ => hI k hk 7 (by decide) (by decide)) (fun k hk => hJ k hk 0 (by decide)) (fun k hk => hJ k hk 1 (by decide)) (fun k hk hg => ?_) (fun k hk hg => ?_), by rw [hI2]; exact h2, by rw [hK2]; exact h3, fun k hk => ?_, fun k hk => ?_⟩
  · have := hv k hk
    rw [if_pos hg] at this
    exact ⟨this, by rw [hI k hk 5 (by decide) (by decide)]; exact (v1 k hk hg).2.1, by rw [hI k hk 6 (by decide) (by decide)]; exact (v1 k hk hg).2.2⟩
  · have := hv k hk
    rw [if_neg hg] at this
    exact ⟨this, by rw [hI k hk 5 (by decide) (by decide)]; exact (v2 k hk hg).2.1, by rw [hI k hk 6 (by decide) (by decide)]; exact (v2 k hk hg).2.2⟩
  · obtain ⟨a1, a2, a3, a4, a5, a6⟩ := h4 k hk
    refine ⟨fun c hc => ?_, by rw [hL k hk 0 (by decide), hJ k hk 0 (by decide)]; exact a2, by rw [hL k hk 1 (by decide), hJ k hk 1 (by decide)]; exact a3, ?_, ?_, by rw [hJ k hk 2 (by decide), hJ k hk 0 (by decide), hJ k hk 1 (by decide)]; exact a6⟩
    · by_cases c4 : c = 4
      · subst c4; exact hb k hk
      · rw [hK k hk c (by omega) c4, hI k hk c (by omega) c4]; exact a1 c hc
    · rw [hI k hk 0 (by decide) (by decide), hI k hk 7 (by decide) (by decide), hK k hk 7 (by decide) (by decide)]; exact a4
    · rw [hI k hk 0 (by decide) (by decide), hI k hk 7 (by decide) (by decide), hI k hk 1 (by decide) (by decide)]; exact a5
  · rw [hK9, hK10, hI9]; exact h5 k hk
/-- the class's trial row and the model's bits go together -/
def Tr (n : Nat) (I0 : TI) (J0 : TJ) (K0 : TI) (L0 : TJ) (I : TI) (J : TJ) (K : TI) (L : TJ) : Prop :=
  (∀ c, c ≠ 10 → I c = I0 c) ∧ (∀ c, c ≠ 5 → J c = J0 c) ∧ (∀ c, c ≠ 4 → c ≠ 11 → K c = K0 c) ∧ (∀ c, c ≠ 2 → L c = L0 c) ∧ (∀ k, k < n → I 10 k = K 4 k) ∧ ∀ k, k < n → if gvn I0 k then K 4 k = 16 else ∃ f, f ≤ 16 ∧ K 4 k = nI f
theorem Tr.put {n : Nat} {I0 : TI} {J0 : TJ} {K0 : TI} {L0 : TJ} {I : TI} {J : TJ} {K : TI} {L : TJ} (h : Tr n I0 J0 K0 L0 I J K L) {i f : Nat} (hg : ¬ gvn I0 i) (hf : f ≤ 16) : Tr n I0 J0 K0 L0 (uI I 10 i (nI f)) J (uI K 4 i (nI f)) L := by
  obtain ⟨a1, a2, a3, a4, a5, a6⟩ := h
  refine ⟨fun c hc => by show sI I 10 _ c = _; rw [sI_ne hc]; exact a1 c hc, a2, fun c c4 c11 => by show sI K 4 _ c = _; rw [sI_ne c4]; exact a3 c c4 c11, a4, fun k hk => ?_, fun k hk => ?_⟩
  · show (if k = i then nI f else I 10 k) = (if k = i then nI f else K 4 k)
    rw [a5 k hk]
  · have e : (uI K 4 i (nI f)) 4 k = if k = i then nI f else K 4 k := rfl
    rw [e]
    by_cases c : k = i
    · rw [if_pos c, if_neg (by rw [c]; exact hg)]; exact ⟨f, hf, rfl⟩
    · rw [if_neg c]; exact a6 k hk
/-- both bounds, with the bits as they stand -/
theorem Tr.bound {n : Nat} {I0 : TI} {J0 : TJ} {K0 : TI} {L0 : TJ} (h0 : Cp n I0 J0 K0 L0) {I : TI} {J : TJ} {K : TI} {L : TJ} (h : Tr n I0 J0 K0 L0 I J K L) {v : Nat} (hv : v < n) : ∃ b J' L', fX3_boundTried (nI v) I J = some (b, I, J') ∧ fX5_bound (nI v) K L = some (b, K, L') ∧ Tr n I0 J0 K0 L0 I J' K L' := by
  obtain ⟨a1, a2, a3, a4, a5, a6⟩ := h
  have oJ : Ok n I0 J := h0.1.cong (fun _ _ _ _ => rfl) (fun _ _ _ => rfl) (fun k hk => by rw [a2 0 (by decide)]) (fun k hk => by rw [a2 1 (by decide)])
  obtain ⟨J', x1, x2⟩ := triX (I0 := I0) (I := I) oJ (fun k hk => by rw [a2 2 (by decide), a2 0 (by decide), a2 1 (by decide)]; exact h0.reach k hk) (fun c hc => a1 c (by omega)) hv
  obtain ⟨L', m1, m2⟩ := h0.bdM2 (K' := K) (L' := L) (fun c hc c4 => a3 c c4 (by omega)) a6 (fun c hc => a4 c (by omega)) hv
  refine ⟨bd I0 J0 (K 4) v, J', L', ?_, m1, a1, fun c hc => by rw [x2 c hc]; exact a2 c hc, a3, fun c hc => by rw [m2 c hc]; exact a4 c hc, a5, a6⟩
  rw [x1, bd_cong h0.1 (fun _ _ => ⟨rfl, rfl, rfl, rfl⟩) (fun k hk => ⟨by rw [a2 0 (by decide)], by rw [a2 1 (by decide)]⟩) (fun k hk _ => a5 k hk) hv]
theorem nI_m1 (b : Nat) : nI (b + 1) + (-1 : Int32) = nI b := pk_m1 b
theorem lessenL {n : Nat} {I0 : TI} {J0 : TJ} {K0 : TI} {L0 : TJ} (h0 : Cp n I0 J0 K0 L0) {v i : Nat} (hv : v < n) (hi : i < n) (hg : ¬ gvn I0 i) (mm : Int64) : ∀ b, b ≤ 16 → ∀ m m', b < m → b + 1 < m' → ∀ (I : TI) (J : TJ) (K : TI) (L : TJ), Tr n I0 J0 K0 L0 I J K L → K 4 i = nI b → ∃ I' J' K' L', fX3_lessen_4 m (nI i) (nI v) mm (nI b + (-1 : Int32)) I J = some ((), I', J') ∧ (∀ kf, fX5_trim_82 kf m' (nI v) mm (nI i) 1 K L = kf (nI v) mm (nI (i + 1)) K' L') ∧ Tr n I0 J0 K0 L0 I' J' K' L' ∧ ∀ k, k ≠ i → K' 4 k = K 4 k := by
  have hn := h0.n16
  intro b
  induction b with
  | zero =>
    intro _ m m' hm hm' I J K L h hb
    obtain ⟨m, rfl⟩ : ∃ q, m = q + 1 := ⟨m - 1, by omega⟩
    obtain ⟨m', rfl⟩ : ∃ q, m' = q + 1 := ⟨m' - 1, by omega⟩
    refine ⟨I, J, K, L, ?_, fun kf => ?_, h, fun _ _ => rfl⟩
    · rw [eX3_lessen_4, if_pos (by decide)]
    · rw [eX5_trim_82, if_neg o10, if_pos (nok (by omega)), ncl (by omega), if_pos (by rw [hb]; decide), nsc]
  | succ b ih =>
    intro hb16 m m' hm hm' I J K L h hb
    obtain ⟨m, rfl⟩ : ∃ q, m = q + 1 := ⟨m - 1, by omega⟩
    obtain ⟨m', rfl⟩ : ∃ q, m' = q + 1 := ⟨m' - 1, by omega⟩
    rw [nI_m1]
    have h2 := h.put (i := i) (f := b) hg (by omega)
    obtain ⟨bv, J', L', x1, m1, h3⟩ := h2.bound h0 hv
    have e1 : nI (b + 1) - 1 = nI b := nI_pred b
    have gt : ¬ K 4 i ≤ 0 := by rw [hb]; exact nI_nle (by omega) (by omega)
    by_cases c : bv ≤ mm
    · obtain ⟨I2, J2, K2, L2, y1, y2, y3, y4⟩ := ih (by omega) m m' (by omega) (by omega) _ _ _ _ h3 I_eq
      refine ⟨I2, J2, K2, L2, ?_, fun kf => ?_, y3, fun k hk => by rw [y4 k hk, I_ne hk]⟩
      · rw [eX3_lessen_4, if_neg (nI_pos (by omega)), if_pos (nok (by omega)), ncl (by omega), x1, bnd_eq, if_pos c]
        exact y1
      · rw [eX5_trim_82, if_neg o10, if_pos (nok (by omega)), ncl (by omega), if_neg gt, hb, e1, m1, bnd_eq, if_pos c]
        exact y2 kf
    · have h4 := h3.put (i := i) (f := b + 1) hg hb16
      have r4 : (uI K 4 i (nI b)) 4 i = nI b := I_eq
      refine ⟨_, _, _, _, ?_, fun kf => ?_, h4, fun k hk => by rw [I_ne hk, I_ne hk]⟩
      · rw [eX3_lessen_4, if_neg (nI_pos (by omega)), if_pos (nok (by omega)), ncl (by omega), x1, bnd_eq, if_neg c, nsc]
      · rw [eX5_trim_82, if_neg o10, if_pos (nok (by omega)), ncl (by omega), if_neg gt, hb, e1, m1, bnd_eq, if_neg c, r4, nsc]
        obtain ⟨q, rfl⟩ : ∃ q, m' = q + 1 := ⟨m' - 1, by omega⟩
        rw [eX5_trim_82, if_pos rfl, nsc]
theorem takeX9L {n : Nat} {I0 : TI} {J : TJ} (h : I0 12 0 = nI n) (hn : n ≤ 16) : ∀ d i, i + d = n → ∀ m, d < m → ∀ I : TI, (∀ c, c ≠ 4 → I c = I0 c) → (∀ j, j < i → I 4 j = I0 10 j) → ∃ I', fX3_take_9_2 m (nI i) I J = some ((), I', J) ∧ (∀ c, c ≠ 4 → I' c = I0 c) ∧ ∀ j, j < n → I' 4 j = I0 10 j := by
  intro d
  induction d with
  | zero =>
    intro i hi m hm K hK h10
    obtain ⟨m, rfl⟩ : ∃ m', m = m' + 1 := ⟨m - 1, by omega⟩
    refine ⟨K, ?_, hK, fun j hj => h10 j (by omega)⟩
    rw [eX3_take_9_2, hK 12 (by decide), h, if_pos (by rw [nle (by omega) (by omega)]; omega)]
  | succ d ih =>
    intro i hi m hm K hK h10
    obtain ⟨m, rfl⟩ : ∃ m', m = m' + 1 := ⟨m - 1, by omega⟩
    rw [eX3_take_9_2, hK 12 (by decide), h, if_neg (by rw [nle (by omega) (by omega)]; omega), if_pos (nok (by omega)), ncl (by omega), nsc]
    refine ih (i + 1) (by omega) m (by omega) _ (fun c hc => ?_) (fun j hj => ?_)
    · show sI K 4 _ c = _
      rw [sI_ne hc]; exact hK c hc
    · by_cases e : j = i
      · subst e; rw [I_eq, hK 10 (by decide)]
      · rw [I_ne e]; exact h10 j (by omega)
theorem takeX11L {n : Nat} {I0 : TI} {J : TJ} (h : I0 12 0 = nI n) (hn : n ≤ 16) : ∀ d i, i + d = n → ∀ m, d < m → ∀ I : TI, (∀ c, c ≠ 4 → I c = I0 c) → (∀ j, j < i → I 4 j = I0 11 j) → ∃ I', fX3_take_11_2 m (nI i) I J = some ((), I', J) ∧ (∀ c, c ≠ 4 → I' c = I0 c) ∧ ∀ j, j < n → I' 4 j = I0 11 j := by
  intro d
  induction d with
  | zero =>
    intro i hi m hm K hK h10
    obtain ⟨m, rfl⟩ : ∃ m', m = m' + 1 := ⟨m - 1, by omega⟩
    refine ⟨K, ?_, hK, fun j hj => h10 j (by omega)⟩
    rw [eX3_take_11_2, hK 12 (by decide), h, if_pos (by rw [nle (by omega) (by omega)]; omega)]
  | succ d ih =>
    intro i hi m hm K hK h10
    obtain ⟨m, rfl⟩ : ∃ m', m = m' + 1 := ⟨m - 1, by omega⟩
    rw [eX3_take_11_2, hK 12 (by decide), h, if_neg (by rw [nle (by omega) (by omega)]; omega), if_pos (nok (by omega)), ncl (by omega), nsc]
    refine ih (i + 1) (by omega) m (by omega) _ (fun c hc => ?_) (fun j hj => ?_)
    · show sI K 4 _ c = _
      rw [sI_ne hc]; exact hK c hc
    · by_cases e : j = i
      · subst e; rw [I_eq, hK 11 (by decide)]
      · rw [I_ne e]; exact h10 j (by omega)
theorem tk9X {n : Nat} {I : TI} {J : TJ} (h : I 12 0 = nI n) (hn : n ≤ 16) : ∃ I', fX3_take_9 I J = some ((), I', J) ∧ (∀ c, c ≠ 4 → I' c = I c) ∧ ∀ j, j < n → I' 4 j = I 10 j :=
  takeX9L h hn n 0 (by omega) fuel (by unfold fuel; omega) I (fun _ _ => rfl) (fun j hj => by omega)
theorem tk11X {n : Nat} {I : TI} {J : TJ} (h : I 12 0 = nI n) (hn : n ≤ 16) : ∃ I', fX3_take_11 I J = some ((), I', J) ∧ (∀ c, c ≠ 4 → I' c = I c) ∧ ∀ j, j < n → I' 4 j = I 11 j :=
  takeX11L h hn n 0 (by omega) fuel (by unfold fuel; omega) I (fun _ _ => rfl) (fun j hj => by omega)
theorem trimL {n : Nat} {I0 : TI} {J0 : TJ} {K0 : TI} {L0 : TJ} (h0 : Cp n I0 J0 K0 L0) {v : Nat} (hv : v < n) (mm : Int64) : ∀ d i, i + d = n → ∀ m m', d < m → d < m' → ∀ (I : TI) (J : TJ) (K : TI) (L : TJ), Tr n I0 J0 K0 L0 I J K L → (∀ k, i ≤ k → k < n → K 4 k = 16) → Bo (fX3_lessenInTurn_16 m (nI v) mm (nI i) I J) (fX5_trim_55 m' (nI v) mm (nI i) K L) := by
  have hn := h0.n16
  intro d
  induction d with
  | zero =>
    intro i hi m m' hm hm' I J K L h h16
    obtain ⟨m, rfl⟩ : ∃ q, m = q + 1 := ⟨m - 1, by omega⟩
    obtain ⟨m', rfl⟩ : ∃ q, m' = q + 1 := ⟨m' - 1, by omega⟩
    obtain ⟨a1, a2, a3, a4, a5, a6⟩ := h
    have x0 : I 12 0 = nI n := by rw [a1 12 (by decide)]; exact h0.x
    have k0 : K 13 0 = nI n := by rw [a3 13 (by decide) (by decide)]; exact h0.m
    obtain ⟨I', t1, t2, t3⟩ := tk9X (J := J) x0 hn
    have x1 : I' 12 0 = nI n := by rw [t2 12 (by decide)]; exact x0
    have cp : Cp n I' J K L := h0.newbits (fun k hk c hc c4 => by rw [t2 c c4, a1 c (by omega)]) (by rw [t2 9 (by decide), a1 9 (by decide)]) (by rw [x1, h0.x]) (fun k hk c hc => by rw [a2 c (by omega)]) (fun k hk c hc c4 => by rw [a3 c c4 (by omega)]) (a3 9 (by decide) (by decide)) (a3 10 (by decide) (by decide)) (by rw [k0, h0.m]) (fun k hk c hc => by rw [a4 c (by omega)]) (fun k hk => by rw [t3 k hk, a5 k hk]) (fun k hk => by rw [t3 k hk, a5 k hk]; exact a6 k hk)
    rw [eX3_lessenInTurn_16, eX5_trim_55, x0, k0, if_pos (by rw [nle (by omega) (by omega)]; omega), if_pos (by rw [nle (by omega) (by omega)]; omega), t1, bnd_eq, prX x1 hn, bnd_eq, prM cp.okM cp.m, bnd_eq, cp.pr]
    exact Bo.mk cp rfl rfl
  | succ d ih =>
    intro i hi m m' hm hm' I J K L h h16
    have hin : i < n := by omega
    obtain ⟨m, rfl⟩ : ∃ q, m = q + 1 := ⟨m - 1, by omega⟩
    obtain ⟨m', rfl⟩ : ∃ q, m' = q + 1 := ⟨m' - 1, by omega⟩
    have a1 := h.1
    have a3 := h.2.2.1
    have x0 : I 12 0 = nI n := by rw [a1 12 (by decide)]; exact h0.x
    have k0 : K 13 0 = nI n := by rw [a3 13 (by decide) (by decide)]; exact h0.m
    have g0 : gvn I i ↔ gvn I0 i := by unfold gvn; rw [a1 0 (by decide)]
    rw [eX3_lessenInTurn_16, eX5_trim_55, x0, k0, if_neg (by rw [nle (by omega) (by omega)]; omega), if_neg (by rw [nle (by omega) (by omega)]; omega), wkX1 x0 hn hin, bnd_eq, if_pos (nok (by omega)), ncl (by omega), nsc, a3 0 (by decide) (by decide)]
    by_cases g : gvn I0 i
    · rw [if_pos (g0.mpr g), if_pos rfl, if_pos ((h0.okM.kd hin).mpr ((gvn_c h0 hin).mpr g))]
      unfold fX5_trim_80
      obtain ⟨F, hF⟩ : ∃ F, fuel = F + 1 := ⟨99999, rfl⟩
      rw [hF, eX5_trim_82, if_pos rfl, nsc]
      exact ih (i + 1) (by omega) m m' (by omega) (by omega) I J K L h (fun k hk1 hk2 => h16 k (by omega) hk2)
    · rw [if_neg (fun z => g (g0.mp z)), if_neg o10, if_neg (fun z => g ((gvn_c h0 hin).mp ((h0.okM.kd hin).mp z)))]
      unfold fX5_trim_80
      obtain ⟨I', J', K', L', y1, y2, y3, y4⟩ := lessenL h0 hv hin g mm 16 (by omega) fuel fuel (by unfold fuel; omega) (by unfold fuel; omega) I J K L h (h16 i (by omega) hin)
      have e15 : nI 16 + (-1 : Int32) = (15 : Int32) := by decide
      rw [e15] at y1
      have y1' : fX3_lessen (nI i) (nI v) mm I J = some ((), I', J') := y1
      rw [y1', bnd_eq, y2]
      exact ih (i + 1) (by omega) m m' (by omega) (by omega) I' J' K' L' y3 (fun k hk1 hk2 => by rw [y4 k (by omega)]; exact h16 k (by omega) hk2)
theorem op_trim {n : Nat} {I : TI} {J : TJ} {K : TI} {L : TJ} (h : Cp n I J K L) (v : Int32) (mm : Int64) : Bo (fX4_trim v mm I J) (fX5_trim v mm K L) := by
  have hn := h.n16
  unfold fX4_trim fX5_trim
  rcases ix3 v n hn with hv | ⟨k, hk, rfl⟩
  · rw [hasX0 h.x hv, valM0 h.m hn hv, bnd_eq, bnd_eq, if_pos rfl, if_pos rfl]
    exact Bo.mk h rfl rfl
  · rw [hasX1 h.x hn hk, valM1 h.m hn hk, bnd_eq, bnd_eq, if_neg o10, if_neg o10]
    by_cases cm : (0 : Int64) ≤ mm
    · rw [if_pos cm, if_pos cm]
      unfold fX3_lessenInTurn
      obtain ⟨I', J', x1, x2, x3, x4⟩ := atWidestX h.1 h.reach hk
      obtain ⟨K1, s1, s2, s3⟩ := savM (L := L) h.m hn
      have oK1 : Ok n K1 L := h.okM.cong (fun k hk c hc => by rw [s2 c (by omega)]) (fun k hk _ => by rw [s2 7 (by decide)]) (fun _ _ => rfl) (fun _ _ => rfl)
      have m1 : K1 13 0 = nI n := by rw [s2 13 (by decide)]; exact h.m
      obtain ⟨K2, t1, t2, t3⟩ := sallM oK1 m1 16
      have b16 : ∀ j, j < n → K2 4 j = 16 := fun j hj => by rw [t3 j hj]; split <;> rfl
      obtain ⟨L2, u1, u2⟩ := h.bdM2 (K' := K2) (L' := L) (fun c hc c4 => by rw [t2 c c4, s2 c (by omega)]) (fun k hk => by
        split
        · exact b16 k hk
        · exact ⟨16, by decide, b16 k hk⟩) (fun _ _ => rfl) hk
      have m2 : K2 13 0 = nI n := by rw [t2 13 (by decide)]; exact m1
      rw [x1, s1, bnd_eq, bnd_eq, t1, bnd_eq, u1, bnd_eq, bd_cong h.1 (fun _ _ => ⟨rfl, rfl, rfl, rfl⟩) (fun _ _ => ⟨rfl, rfl⟩) (fun k hk _ => b16 k hk) hk]
      by_cases c : bd I J (fun _ => 16) k ≤ mm
      · rw [if_pos c, if_pos c]
        have tr : Tr n I J K L I' J' K2 L2 := ⟨x2, x4, fun c c4 c11 => by rw [t2 c c4, s2 c c11], fun c hc => u2 c hc, fun j hj => by rw [x3 j (by omega), b16 j hj], fun j hj => by
          split
          · exact b16 j hj
          · exact ⟨16, by decide, b16 j hj⟩⟩
        have := trimL h hk mm n 0 (by omega) fuel fuel (by unfold fuel; omega) (by unfold fuel; omega) I' J' K2 L2 tr (fun j _ hj => b16 j hj)
        obtain ⟨r, Ia, Ja, Ka, La, na, z1, z2, z3⟩ := this
        have z1' : fX3_lessenInTurn_16 fuel (nI k) mm 0 I' J' = some (r, Ia, Ja) := z1
        have z2' : fX5_trim_55 fuel (nI k) mm 0 K2 L2 = some (r, Ka, La) := z2
        rw [z1', z2', bnd_eq]
        exact Bo.mk z3 rfl rfl
      · rw [if_neg c, if_neg c, bnd_eq]
        obtain ⟨K3, w1, w2, w3⟩ := tkM (L := L2) m2 hn
        rw [w1, bnd_eq]
        refine Bo.mk (h.frameN (fun k hk c hc => by rw [x2 c (by omega)]) (x2 9 (by decide)) (by rw [x2 12 (by decide)]) (fun k hk c hc => by rw [x4 c (by omega)]) (fun k hk c hc => ?_) ?_ ?_ ?_ (fun k hk c hc => by rw [u2 c (by omega)])) rfl rfl
        · by_cases c4 : c = 4
          · subst c4; rw [w3 k hk, t2 11 (by decide), s3 k hk]
          · rw [w2 c c4, t2 c c4, s2 c (by omega)]
        · rw [w2 9 (by decide), t2 9 (by decide), s2 9 (by decide)]
        · rw [w2 10 (by decide), t2 10 (by decide), s2 10 (by decide)]
        · rw [w2 13 (by decide), m2, h.m]
    · rw [if_neg cm, if_neg cm]
      exact Bo.mk h rfl rfl
