/-! input, fixed, work: both answer alike -/
theorem Cp.frameN {n : Nat} {I I' : TI} {J J' : TJ} {K K' : TI} {L L' : TJ} (h : Cp n I J K L) (hI : ∀ k, k < n → ∀ c, c < 8 → I' c k = I c k) (hI9 : I' 9 = I 9) (hI2 : I' 12 0 = I 12 0) (hJ : ∀ k, k < n → ∀ c, c < 3 → J' c k = J c k) (hK : ∀ k, k < n → ∀ c, c < 8 → K' c k = K c k) (hK9 : K' 9 = K 9) (hK10 : K' 10 = K 10) (hK2 : K' 13 0 = K 13 0) (hL : ∀ k, k < n → ∀ c, c < 2 → L' c k = L c k) : Cp n I' J' K' L' := by
  obtain ⟨h1, h2, h3, h4, h5⟩ := h
  refine ⟨h1.cong (fun k hk c hc => hI k hk c (by omega)) (fun k hk _ => hI k hk 7 (by decide)) (fun k hk => hJ k hk 0 (by decide)) (fun k hk => hJ k hk 1 (by decide)), by rw [hI2]; exact h2, by rw [hK2]; exact h3, fun k hk => ?_, fun k hk => ?_⟩
  · obtain ⟨a1, a2, a3, a4, a5, a6⟩ := h4 k hk
    refine ⟨fun c hc => by rw [hK k hk c (by omega), hI k hk c (by omega)]; exact a1 c hc, by rw [hL k hk 0 (by decide), hJ k hk 0 (by decide)]; exact a2, by rw [hL k hk 1 (by decide), hJ k hk 1 (by decide)]; exact a3, ?_, ?_, by rw [hJ k hk 2 (by decide), hJ k hk 0 (by decide), hJ k hk 1 (by decide)]; exact a6⟩
    · rw [hI k hk 0 (by decide), hI k hk 7 (by decide), hK k hk 7 (by decide)]; exact a4
    · rw [hI k hk 0 (by decide), hI k hk 7 (by decide), hI k hk 1 (by decide)]; exact a5
  · rw [hK9, hK10, hI9]; exact h5 k hk
theorem Cp.add {n : Nat} {I I' : TI} {J J' : TJ} {K K' : TI} {L L' : TJ} (h : Cp n I J K L) (hn : n < 16) (hI : ∀ k, k < n → ∀ c, c < 8 → I' c k = I c k) (hI9 : I' 9 = I 9) (hI2 : I' 12 0 = nI (n + 1)) (hJ : ∀ k, k < n → ∀ c, c < 3 → J' c k = J c k) (hK : ∀ k, k < n → ∀ c, c < 8 → K' c k = K c k) (hK9 : K' 9 = K 9) (hK10 : K' 10 = K 10) (hK2 : K' 13 0 = nI (n + 1)) (hL : ∀ k, k < n → ∀ c, c < 2 → L' c k = L c k)
    (hv : OkV I' J' n) (h7 : ∀ c, c < 7 → K' c n = I' c n) (l0 : L' 0 n = J' 0 n) (l1 : L' 1 n = J' 1 n) (hi : I' 0 n = 0 → K' 7 n = I' 7 n) (hf : I' 0 n = 1 → I' 7 n = I' 1 n) (j2 : J' 2 n = rch (J' 0 n) (J' 1 n)) : Cp (n + 1) I' J' K' L' := by
  have g : Cp n (uI I' 12 0 (nI n)) J' (uI K' 13 0 (nI n)) L' := by
    refine h.frameN (fun k hk c hc => ?_) ?_ ?_ hJ (fun k hk c hc => ?_) ?_ ?_ ?_ hL
    · show sI I' 12 _ c k = _; rw [sI_ne (by omega)]; exact hI k hk c hc
    · show sI I' 12 _ 9 = _; rw [sI_ne (by decide)]; exact hI9
    · rw [h.x]; rfl
    · show sI K' 13 _ c k = _; rw [sI_ne (by omega)]; exact hK k hk c hc
    · show sI K' 13 _ 9 = _; rw [sI_ne (by decide)]; exact hK9
    · show sI K' 13 _ 10 = _; rw [sI_ne (by decide)]; exact hK10
    · rw [h.m]; rfl
  obtain ⟨g1, -, -, g4, g5⟩ := g
  have ne : ∀ c k, c < 12 → (uI I' 12 0 (nI n)) c k = I' c k := fun c k hc => by show sI I' 12 _ c k = _; rw [sI_ne (by omega)]
  have neK : ∀ c k, c < 13 → (uI K' 13 0 (nI n)) c k = K' c k := fun c k hc => by show sI K' 13 _ c k = _; rw [sI_ne (by omega)]
  have g1' : Ok n I' J' := g1.cong (fun k hk c hc => (ne c k (by omega)).symm) (fun k hk _ => (ne 7 k (by omega)).symm) (fun _ _ => rfl) (fun _ _ => rfl)
  refine ⟨g1'.succ hn hv, hI2, hK2, fun k hk => ?_, fun k hk => ?_⟩
  · by_cases e : k = n
    · subst e; exact ⟨h7, l0, l1, hi, hf, j2⟩
    · obtain ⟨a1, a2, a3, a4, a5, a6⟩ := g4 k (by omega)
      exact ⟨fun c hc => by have := a1 c hc; rwa [ne c k (by omega), neK c k (by omega)] at this, a2, a3, by rwa [ne 0 k (by decide), ne 7 k (by decide), neK 7 k (by decide)] at a4, by rwa [ne 0 k (by decide), ne 7 k (by decide), ne 1 k (by decide)] at a5, a6⟩
  · have := g5 k hk
    rwa [ne 9 k (by decide), neK 9 k (by decide), neK 10 k (by decide)] at this
theorem n16I {n : Nat} (hn : n ≤ 16) : nI n < 16 ↔ n < 16 := by
  have : (16 : Int32) = nI 16 := rfl
  rw [this, nlt (by omega) (by omega)]
theorem n16E {n : Nat} (hn : n ≤ 16) : nI n = 16 ↔ n = 16 := by
  have : (16 : Int32) = nI 16 := rfl
  rw [this, nI_eq (by omega) (by omega)]
theorem spG {n : Nat} {w : Int64} {I : TI} {J : TJ} : fX2_spanGiven_30 n w n I J = some ((), uI I 7 n (I 1 n), uJ (uJ J 1 n w) 2 n (rch (J 0 n) w)) := by
  unfold fX2_spanGiven_30
  have e : (uJ J 1 n w) 1 n = w := by simp [uJ, sJ, vp_updL]
  simp only [e]
  rfl
/-- what a given VALUE's place holds -/
theorem addGX {n : Nat} {I : TI} {J : TJ} (h : I 12 0 = nI n) (hn : n < 16) (kd a b : Int32) : ∃ I' J', fX0_addGiven kd a b I J = some (nI n, I', J') ∧ I' 12 0 = nI (n + 1) ∧ (∀ c j, j ≠ n → c < 8 → I' c j = I c j) ∧ I' 9 = I 9 ∧ I' 0 n = kd ∧ I' 1 n = a ∧ I' 2 n = b ∧ I' 3 n = 1 ∧ I' 4 n = 16 ∧ I' 5 n = 0 ∧ I' 6 n = 1 ∧ I' 7 n = a ∧ (∀ c j, j ≠ n → J' c j = J c j) ∧ J' 0 n = a.toInt64 ∧ J' 1 n = (if kd = 0 then b else a).toInt64 ∧ J' 2 n = rch (J' 0 n) (J' 1 n) := by
  unfold fX0_addGiven
  rw [h, if_pos ((n16I (by omega)).mpr hn), if_pos (nok hn), ncl (by omega)]
  unfold fX2_begin
  rw [bnd_eq]
  unfold fX2_spanGiven
  have k0 : (uI (uI (uI (uI (uI (uI (uI (uI I 0 n kd) 1 n a) 2 n b) 3 n (1 : Int32)) 4 n (16 : Int32)) 5 n (0 : Int32)) 6 n (1 : Int32)) 7 n (0 : Int32)) 0 n = kd := by simp [uI, sI, upd]
  have m0 : (uI (uI (uI (uI (uI (uI (uI (uI (uI I 0 n kd) 1 n a) 2 n b) 3 n (1 : Int32)) 4 n (16 : Int32)) 5 n (0 : Int32)) 6 n (1 : Int32)) 7 n (0 : Int32)) 7 n a) 12 0 = nI n := by rw [← h]; rfl
  have fin : ∀ b' : Int32, ∃ I' J', (some ((uI (uI (uI (uI (uI (uI (uI (uI (uI I 0 n kd) 1 n a) 2 n b) 3 n (1 : Int32)) 4 n (16 : Int32)) 5 n (0 : Int32)) 6 n (1 : Int32)) 7 n (0 : Int32)) 7 n a) 12 0, uI (uI (uI (uI (uI (uI (uI (uI (uI (uI I 0 n kd) 1 n a) 2 n b) 3 n (1 : Int32)) 4 n (16 : Int32)) 5 n (0 : Int32)) 6 n (1 : Int32)) 7 n (0 : Int32)) 7 n a) 12 0 (nI n + 1), uJ (uJ (uJ J 0 n a.toInt64) 1 n b'.toInt64) 2 n (rch a.toInt64 b'.toInt64)) : Option (Int32 × SS)) = some (nI n, I', J') ∧ I' 12 0 = nI (n + 1) ∧ (∀ c j, j ≠ n → c < 8 → I' c j = I c j) ∧ I' 9 = I 9 ∧ I' 0 n = kd ∧ I' 1 n = a ∧ I' 2 n = b ∧ I' 3 n = 1 ∧ I' 4 n = 16 ∧ I' 5 n = 0 ∧ I' 6 n = 1 ∧ I' 7 n = a ∧ (∀ c j, j ≠ n → J' c j = J c j) ∧ J' 0 n = a.toInt64 ∧ J' 1 n = b'.toInt64 ∧ J' 2 n = rch (J' 0 n) (J' 1 n) := by
    intro b'
    rw [m0, nsc]
    refine ⟨_, _, rfl, rfl, ?_, rfl, ?_, ?_, ?_, ?_, ?_, ?_, ?_, ?_, ?_, ?_, ?_, ?_⟩
    · intro c j hj hc
      rcases (show c = 0 ∨ c = 1 ∨ c = 2 ∨ c = 3 ∨ c = 4 ∨ c = 5 ∨ c = 6 ∨ c = 7 by omega) with rfl | rfl | rfl | rfl | rfl | rfl | rfl | rfl <;> simp [uI, sI, upd, hj]
    all_goals first | (simp [uI, sI, upd, uJ, sJ, vp_updL]; done) | skip
    intro c j hj
    simp only [uJ, sJ, vp_updL]
    by_cases c2 : c = 2
    · subst c2; simp [vp_updL, hj]
    · by_cases c1 : c = 1
      · subst c1; simp [vp_updL, hj]
      · by_cases c0 : c = 0
        · subst c0; simp [vp_updL, hj]
        · simp [c0, c1, c2]
  have e1 : (uI (uI (uI (uI (uI (uI (uI (uI I 0 n kd) 1 n a) 2 n b) 3 n (1 : Int32)) 4 n (16 : Int32)) 5 n (0 : Int32)) 6 n (1 : Int32)) 7 n (0 : Int32)) 1 n = a := by simp [uI, sI, upd]
  have e2 : (uI (uI (uI (uI (uI (uI (uI (uI I 0 n kd) 1 n a) 2 n b) 3 n (1 : Int32)) 4 n (16 : Int32)) 5 n (0 : Int32)) 6 n (1 : Int32)) 7 n (0 : Int32)) 2 n = b := by simp [uI, sI, upd]
  have q0 : (uJ J 0 n a.toInt64) 0 n = a.toInt64 := by simp [uJ, sJ, vp_updL]
  by_cases c : kd = 0
  · rw [if_pos (k0.trans c), if_pos c, spG, e1, e2, q0, bnd_eq, m0]
    have fb_ := fin b
    rw [m0] at fb_; exact fb_
  · rw [if_neg (fun z => c (k0.symm.trans z)), if_neg c, spG, e1, q0, bnd_eq, m0]
    have fb_ := fin a
    rw [m0] at fb_; exact fb_
theorem laysM {n : Nat} {K : TI} {L : TJ} (h : K 13 0 = nI n) (hn : n < 16) (kd a b d : Int32) (lo hi : Int64) : ∃ K' L', fX5_lays kd a b d lo hi K L = some (nI n, K', L') ∧ K' 13 0 = nI (n + 1) ∧ (∀ c j, j ≠ n → c < 7 → K' c j = K c j) ∧ K' 7 = K 7 ∧ K' 9 = K 9 ∧ K' 10 = K 10 ∧ K' 0 n = kd ∧ K' 1 n = a ∧ K' 2 n = b ∧ K' 3 n = d ∧ K' 4 n = 16 ∧ K' 5 n = 0 ∧ K' 6 n = 1 ∧ (∀ c j, j ≠ n → L' c j = L c j) ∧ L' 0 n = lo ∧ L' 1 n = hi := by
  unfold fX5_lays
  rw [h, if_pos (nok hn), ncl (by omega), nsc]
  have e : nI (n + 1) - 1 = nI n := nI_pred n
  rw [e]
  refine ⟨_, _, rfl, rfl, ?_, rfl, rfl, rfl, ?_, ?_, ?_, ?_, ?_, ?_, ?_, ?_, ?_, ?_⟩
  · intro c j hj hc
    rcases (show c = 0 ∨ c = 1 ∨ c = 2 ∨ c = 3 ∨ c = 4 ∨ c = 5 ∨ c = 6 by omega) with rfl | rfl | rfl | rfl | rfl | rfl | rfl <;> simp [uI, sI, upd, hj]
  all_goals first | (simp [uI, sI, upd, uJ, sJ, vp_updL]; done) | skip
  intro c j hj
  simp only [uJ, sJ, vp_updL]
  by_cases c1 : c = 1
  · subst c1; simp [vp_updL, hj]
  · by_cases c0 : c = 0
    · subst c0; simp [vp_updL, hj]
    · simp [c0, c1]
theorem dv1 {x : Int32} (h : Num x) : dv 1 x.toInt64.toInt := by rw [w64]; exact dv_of4 h.2.2
theorem numJ {x : Int32} (h : Num x) : -67108864 ≤ x.toInt64.toInt ∧ x.toInt64.toInt ≤ 67108864 := by
  rw [w64]; obtain ⟨h1, h2, _⟩ := h; omega
theorem op_input {n : Nat} {I : TI} {J : TJ} {K : TI} {L : TJ} (h : Cp n I J K L) (a b : Int32) : Bo (fX4_input a b I J) (fX5_input a b K L) := by
  have hn := h.n16
  unfold fX4_input fX5_input
  rw [givbX, numM, bnd_eq, bnd_eq]
  by_cases c1 : NumD a
  · rw [if_pos c1, if_neg o10, if_neg o10, givbX, numM, bnd_eq, bnd_eq]
    by_cases c2 : NumD b
    · rw [if_pos c2, if_neg o10, if_neg o10]
      by_cases c3 : a ≤ b
      · rw [if_pos c3, if_pos c3, h.m]
        by_cases c4 : n = 16
        · rw [if_pos ((n16E hn).mpr c4)]
          unfold fX0_addGiven
          rw [h.x, if_neg (fun z => by have := (n16I hn).mp z; omega), bnd_eq]
          exact Bo.mk h rfl rfl
        · have hn2 : n < 16 := by omega
          rw [if_neg (fun z => c4 ((n16E hn).mp z)), if_pos (nok hn2), ncl (by omega)]
          obtain ⟨I', J', x1, x2, x3, x4, y0, y1, y2, y3, y4, y5, y6, y7, z1, z2, z3, z4⟩ := addGX h.x hn2 (0 : Int32) a b (J := J)
          have hk7 : (uI K 7 n a) 13 0 = nI n := h.m
          obtain ⟨K', L', w1, w2, w3, w4, w5, w6, u0, u1, u2, u3, u4, u5, u6, t1, t2, t3⟩ := laysM (K := uI K 7 n a) (L := L) hk7 hn2 (0 : Int32) a b 1 a.toInt64 b.toInt64
          rw [x1, w1, bnd_eq, bnd_eq]
          have k7n : K' 7 n = a := by rw [w4]; simp [uI, sI, upd]
          rw [if_pos rfl] at z3
          have d1 : dn I' n = 1 := by unfold dn; rw [y3]; rfl
          refine Bo.mk (h.add hn2 (fun k hk c hc => x3 c k (by omega) hc) x4 x2 (fun k hk c _ => z1 c k (by omega)) (fun k hk c hc => ?_) ?_ ?_ w2 (fun k hk c _ => t1 c k (by omega)) ?_ ?_ ?_ ?_ (fun _ => by rw [k7n, y7]) (fun z => absurd (y0.symm.trans z) (by decide)) z4) rfl rfl
          · by_cases e7 : c = 7
            · subst e7
              rw [w4]
              show (if k = n then a else K 7 k) = _
              rw [if_neg (by omega)]
            · rw [w3 c k (by omega) (by omega)]
              show sI K 7 _ c k = _
              rw [sI_ne e7]
          · rw [w5]; rfl
          · rw [w6]; rfl
          · refine ⟨Or.inl ⟨Or.inl ⟨y0, ?_, ?_, ?_, ?_, ?_, ?_⟩, ?_, ?_, y3, y4, y5, y6⟩, ?_⟩
            · rw [y2]; exact c2.num
            · rw [y1, y2]; exact le32.mp c3
            · rw [z3, y2]
            · rw [y7]; exact c1.num
            · rw [y1, y7]; exact Int.le_refl _
            · rw [y7, y2]; exact le32.mp c3
            · rw [y1]; exact c1.num
            · rw [z2, y1]
            · rw [d1, z2, z3]
              exact ⟨by decide, by decide, numJ c1.num, numJ c2.num, dv1 c1.num, dv1 c2.num⟩
          · intro c hc
            rcases (show c = 0 ∨ c = 1 ∨ c = 2 ∨ c = 3 ∨ c = 4 ∨ c = 5 ∨ c = 6 by omega) with rfl | rfl | rfl | rfl | rfl | rfl | rfl
            · rw [u0, y0]
            · rw [u1, y1]
            · rw [u2, y2]
            · rw [u3, y3]
            · rw [u4, y4]
            · rw [u5, y5]
            · rw [u6, y6]
          · rw [t2, z2]
          · rw [t3, z3]
      · rw [if_neg c3, if_neg c3]
        exact Bo.mk h rfl rfl
    · rw [if_neg c2, if_pos rfl, if_pos rfl]
      exact Bo.mk h rfl rfl
  · rw [if_neg c1, if_pos rfl, if_pos rfl]
    exact Bo.mk h rfl rfl
theorem op_fixed {n : Nat} {I : TI} {J : TJ} {K : TI} {L : TJ} (h : Cp n I J K L) (a : Int32) : Bo (fX4_fixed a I J) (fX5_fixed a K L) := by
  have hn := h.n16
  unfold fX4_fixed fX5_fixed
  rw [givbX, numM, bnd_eq, bnd_eq]
  by_cases c1 : NumD a
  · rw [if_pos c1, if_neg o10, if_neg o10, h.m]
    by_cases c4 : n = 16
    · rw [if_pos ((n16E hn).mpr c4)]
      unfold fX0_addGiven
      rw [h.x, if_neg (fun z => by have := (n16I hn).mp z; omega), bnd_eq]
      exact Bo.mk h rfl rfl
    · have hn2 : n < 16 := by omega
      rw [if_neg (fun z => c4 ((n16E hn).mp z))]
      obtain ⟨I', J', x1, x2, x3, x4, y0, y1, y2, y3, y4, y5, y6, y7, z1, z2, z3, z4⟩ := addGX h.x hn2 (1 : Int32) a 0 (J := J)
      obtain ⟨K', L', w1, w2, w3, w4, w5, w6, u0, u1, u2, u3, u4, u5, u6, t1, t2, t3⟩ := laysM (L := L) h.m hn2 (1 : Int32) a 0 1 a.toInt64 a.toInt64
      rw [x1, w1, bnd_eq, bnd_eq]
      rw [if_neg o10] at z3
      have d1 : dn I' n = 1 := by unfold dn; rw [y3]; rfl
      refine Bo.mk (h.add hn2 (fun k hk c hc => x3 c k (by omega) hc) x4 x2 (fun k hk c _ => z1 c k (by omega)) (fun k hk c hc => ?_) w5 w6 w2 (fun k hk c _ => t1 c k (by omega)) ?_ ?_ ?_ ?_ (fun z => absurd (y0.symm.trans z) (by decide)) (fun _ => by rw [y7, y1]) z4) rfl rfl
      · by_cases e7 : c = 7
        · subst e7; rw [w4]
        · exact w3 c k (by omega) (by omega)
      · refine ⟨Or.inl ⟨Or.inr ⟨y0, y2, ?_⟩, ?_, ?_, y3, y4, y5, y6⟩, ?_⟩
        · rw [z3, y1]
        · rw [y1]; exact c1.num
        · rw [z2, y1]
        · rw [d1, z2, z3]
          exact ⟨by decide, by decide, numJ c1.num, numJ c1.num, dv1 c1.num, dv1 c1.num⟩
      · intro c hc
        rcases (show c = 0 ∨ c = 1 ∨ c = 2 ∨ c = 3 ∨ c = 4 ∨ c = 5 ∨ c = 6 by omega) with rfl | rfl | rfl | rfl | rfl | rfl | rfl
        · rw [u0, y0]
        · rw [u1, y1]
        · rw [u2, y2]
        · rw [u3, y3]
        · rw [u4, y4]
        · rw [u5, y5]
        · rw [u6, y6]
      · rw [t2, z2]
      · rw [t3, z3]
  · rw [if_neg c1, if_pos rfl, if_pos rfl]
    exact Bo.mk h rfl rfl
