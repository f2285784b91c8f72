/-! worst, above: all ROWS, gone through alike -/
theorem Ok.units {n : Nat} {I K : TI} {J L : TJ} (h : Ok n I J) (hc : ∀ k, k < n → ∀ c, c < 7 → K c k = I c k) (h0 : ∀ k, k < n → L 0 k = J 0 k) (h1 : ∀ k, k < n → L 1 k = J 1 k) (hu : ∀ k, k < n → I 0 k = 0 → (K 7 k).toInt % 4096 = 0 ∧ (I 1 k).toInt ≤ (K 7 k).toInt ∧ (K 7 k).toInt ≤ (I 2 k).toInt) : Ok n K L := by
  have key : Ok n (sI I 7 (K 7)) J := by
    refine ⟨h.1, fun k hk => ?_⟩
    obtain ⟨q, r⟩ := h.2 k hk
    have ne : ∀ c j, c ≠ 7 → (sI I 7 (K 7)) c j = I c j := fun c j e => by rw [sI_ne e]
    have d0 : ∀ i, dn (sI I 7 (K 7)) i = dn I i := fun i => dn_cong (ne 3 i (by decide))
    refine ⟨?_, by rw [d0]; exact r⟩
    rcases q with q | q
    · refine Or.inl ⟨?_, ?_⟩
      · rcases q.1 with ⟨b0, b1, b2, b3, b4, b5, b6⟩ | ⟨b0, b1, b2⟩
        · obtain ⟨u1, u2, u3⟩ := hu k hk b0
          refine Or.inl ⟨by rw [ne 0 k (by decide)]; exact b0, by rw [ne 2 k (by decide)]; exact b1, by rw [ne 1 k (by decide), ne 2 k (by decide)]; exact b2, by rw [ne 2 k (by decide)]; exact b3, ?_, ?_, ?_⟩
          · rw [sI_eq]
            obtain ⟨n1, n2, n3⟩ := q.2.1
            obtain ⟨m1, m2, m3⟩ := b1
            exact ⟨by omega, by omega, u1⟩
          · rw [sI_eq, ne 1 k (by decide)]; exact u2
          · rw [sI_eq, ne 2 k (by decide)]; exact u3
        · exact Or.inr ⟨by rw [ne 0 k (by decide)]; exact b0, by rw [ne 2 k (by decide)]; exact b1, by rw [ne 1 k (by decide)]; exact b2⟩
      · rw [ne 1 k (by decide), ne 3 k (by decide), ne 4 k (by decide), ne 5 k (by decide), ne 6 k (by decide)]; exact q.2
    · refine Or.inr ?_
      obtain ⟨a, b, f, w, b1, b2, b3, b4, b5, b6, b7, b8, b9, b10, b11, b12, b13⟩ := q
      refine ⟨a, b, f, w, b1, b2, by rw [ne 1 k (by decide)]; exact b3, by rw [ne 2 k (by decide)]; exact b4, ?_⟩
      rw [ne 0 k (by decide), ne 4 k (by decide), ne 5 k (by decide), ne 6 k (by decide), d0, d0, d0]
      exact ⟨b5, b6, b7, b8, b9, b10, b11, b12, b13⟩
  exact key.cong (fun k hk c hc' => by rw [sI_ne (by omega)]; exact hc k hk c hc') (fun k hk _ => by rw [sI_eq]) h0 h1
/-- a ROW as it should be -/
def rv (n : Nat) (I : TI) (r : Nat → Int32) : Prop := ∀ k, k < n → (I 0 k = 0 → (r k).toInt % 4096 = 0 ∧ (I 1 k).toInt ≤ (r k).toInt ∧ (r k).toInt ≤ (I 2 k).toInt) ∧ (I 0 k = 1 → r k = I 1 k)
def Rw (n : Nat) (I0 : TI) (J0 : TJ) (K0 : TI) (L0 : TJ) (r : Nat → Int32) (I : TI) (J : TJ) (K : TI) (L : TJ) : Prop :=
  (∀ c, c ≠ 8 → c ≠ 9 → I c = I0 c) ∧ (∀ c, c ≠ 3 → c ≠ 4 → J c = J0 c) ∧ (∀ c, c ≠ 7 → c ≠ 9 → c ≠ 10 → K c = K0 c) ∧ (∀ c, c ≠ 3 → c ≠ 4 → L c = L0 c) ∧ (∀ k, k < n → gvn I0 k → I 8 k = r k) ∧ (∀ k, k < n → I0 0 k = 0 → K 7 k = r k) ∧ rv n I0 r ∧ ∀ k, k < 16 → (K 9 k = 0 ∧ I 9 k = -2) ∨ (K 9 k = 1 ∧ I 9 k = K 10 k)
theorem Rw.okX {n : Nat} {I0 : TI} {J0 : TJ} {K0 : TI} {L0 : TJ} (h0 : Cp n I0 J0 K0 L0) {r : Nat → Int32} {I : TI} {J : TJ} {K : TI} {L : TJ} (h : Rw n I0 J0 K0 L0 r I J K L) : Ok n I J :=
  h0.1.cong (fun k hk c hc => by rw [h.1 c (by omega) (by omega)]) (fun k hk _ => by rw [h.1 7 (by decide) (by decide)]) (fun k hk => by rw [h.2.1 0 (by decide) (by decide)]) (fun k hk => by rw [h.2.1 1 (by decide) (by decide)])
theorem Rw.okM {n : Nat} {I0 : TI} {J0 : TJ} {K0 : TI} {L0 : TJ} (h0 : Cp n I0 J0 K0 L0) {r : Nat → Int32} {I : TI} {J : TJ} {K : TI} {L : TJ} (h : Rw n I0 J0 K0 L0 r I J K L) : Ok n K L := by
  obtain ⟨a1, a2, a3, a4, a5, a6, a7, a8⟩ := h
  refine h0.1.units (fun k hk c hc => by rw [a3 c (by omega) (by omega) (by omega)]; exact h0.c hk hc) (fun k hk => by rw [a4 0 (by decide) (by decide)]; exact (h0.2.2.2.1 k hk).2.1) (fun k hk => by rw [a4 1 (by decide) (by decide)]; exact (h0.2.2.2.1 k hk).2.2.1) (fun k hk e => ?_)
  rw [a6 k hk e]; exact (a7 k hk).1 e
theorem iterL {n : Nat} {I0 : TI} {J0 : TJ} {K0 : TI} {L0 : TJ} (h0 : Cp n I0 J0 K0 L0) {v : Nat} (hv : v < n) {r : Nat → Int32} {I : TI} {J : TJ} {K : TI} {L : TJ} (h : Rw n I0 J0 K0 L0 r I J K L) : ∃ q J' L', fX1_workOut (nI v) I J = some ((), I, J') ∧ fX1_missOf (nI v) I J' = some (q, I, J') ∧ fX5_missNow (nI v) K L = some (q, K, L') ∧ Rw n I0 J0 K0 L0 r I J' K L' := by
  have hn := h0.n16
  have oX := h.okX h0
  have oM := h.okM h0
  obtain ⟨a1, a2, a3, a4, a5, a6, a7, a8⟩ := h
  have gk : ∀ k, k < n → (gvn K k ↔ gvn I0 k) := fun k hk => by
    rw [← gvn_c h0 hk]; unfold gvn; rw [a3 0 (by decide) (by decide) (by decide)]
  have rk : ∀ k, k < n → gvn I0 k → rwM K k = r k := by
    intro k hk hg
    unfold rwM
    rw [a3 0 (by decide) (by decide) (by decide), h0.c hk (c := 0) (by decide), a3 1 (by decide) (by decide) (by decide), h0.c hk (c := 1) (by decide)]
    rcases hg with e | e
    · rw [if_pos e]; exact a6 k hk e
    · rw [if_neg (by rw [e]; decide)]; exact ((a7 k hk).2 e).symm
  have hrow : ∀ k, k < n → gvn K k → (rwM K k).toInt % 4096 = 0 := by
    intro k hk hg
    have hg0 := (gk k hk).mp hg
    rw [rk k hk hg0]
    rcases hg0 with e | e
    · exact ((a7 k hk).1 e).1
    · rw [(a7 k hk).2 e]
      rcases (h0.1.2 k hk).1 with q | q
      · exact q.2.1.2.2
      · exact absurd (Or.inr e) q.ngv
  obtain ⟨J', x1, x2, x3⟩ := workX oX hv (v + 1) 0 (by omega) fuel (by unfold fuel; omega) J (fun j hj => by omega)
  obtain ⟨L', y1, y2, y3, y4⟩ := runSetM oM hv hrow
  have ee : exv K (rwM K) v = exv I (I 8) v := by
    refine valA_cong' (n := n) (fun k hk E => ?_) hv
    unfold stE pa pb
    have g1 := gk k hk
    have g2 : gvn I k ↔ gvn I0 k := by unfold gvn; rw [a1 0 (by decide) (by decide)]
    by_cases c : gvn I0 k
    · rw [if_pos (g1.mpr c), if_pos (g2.mpr c), rk k hk c, a5 k hk c]
    · rw [if_neg (fun z => c (g1.mp z)), if_neg (fun z => c (g2.mp z)), a3 0 (by decide) (by decide) (by decide), a3 1 (by decide) (by decide) (by decide), a3 2 (by decide) (by decide) (by decide), a1 0 (by decide) (by decide), a1 1 (by decide) (by decide), a1 2 (by decide) (by decide), h0.c hk (c := 0) (by decide), h0.c hk (c := 1) (by decide), h0.c hk (c := 2) (by decide)]
  have et : tuv K (rwM K) v = tuv I (I 8) v := by
    refine valA_cong' (n := n) (fun k hk E => ?_) hv
    unfold stT pa pb fb
    have g1 := gk k hk
    have g2 : gvn I k ↔ gvn I0 k := by unfold gvn; rw [a1 0 (by decide) (by decide)]
    by_cases c : gvn I0 k
    · rw [if_pos (g1.mpr c), if_pos (g2.mpr c), rk k hk c, a5 k hk c]
    · rw [if_neg (fun z => c (g1.mp z)), if_neg (fun z => c (g2.mp z)), a3 0 (by decide) (by decide) (by decide), a3 1 (by decide) (by decide) (by decide), a3 2 (by decide) (by decide) (by decide), a3 4 (by decide) (by decide) (by decide), a3 5 (by decide) (by decide) (by decide), a1 0 (by decide) (by decide), a1 1 (by decide) (by decide), a1 2 (by decide) (by decide), a1 4 (by decide) (by decide), a1 5 (by decide) (by decide), h0.c hk (c := 0) (by decide), h0.c hk (c := 1) (by decide), h0.c hk (c := 2) (by decide), h0.c hk (c := 4) (by decide), h0.c hk (c := 5) (by decide)]
  have z := x3 v (Nat.le_refl v)
  refine ⟨ab (tuv I (I 8) v - exv I (I 8) v), J', L', x1, ?_, ?_, a1, fun c c3 c4 => by rw [x2 c c3 c4]; exact a2 c c3 c4, a3, fun c c3 c4 => by rw [y2 c c3 c4]; exact a4 c c3 c4, a5, a6, a7, a8⟩
  · unfold fX1_missOf
    rw [if_pos (nok (by omega)), ncl (by omega), z.1, z.2]; rfl
  · unfold fX5_missNow
    rw [y1, bnd_eq, if_pos (nok (by omega)), ncl (by omega), amtM, bnd_eq, y3, y4, ee, et]; rfl
-- how many ROWS are still to come
def rst (I : TI) (r : Nat → Int32) (k : Nat) : Nat := (((I 2 k).toInt - (r k).toInt) / 4096).toNat
def rmn (I : TI) (r : Nat → Int32) : Nat → Nat
  | 0 => 0
  | k + 1 => if I 0 k = 0 then rmn I r k * sz I k + rst I r k else rmn I r k
theorem rmn_cong {I : TI} {r r' : Nat → Int32} : ∀ i, (∀ k, k < i → r' k = r k) → rmn I r' i = rmn I r i := by
  intro i
  induction i with
  | zero => intro _; rfl
  | succ i ih =>
    intro h
    show (if I 0 i = 0 then rmn I r' i * sz I i + rst I r' i else rmn I r' i) = (if I 0 i = 0 then rmn I r i * sz I i + rst I r i else rmn I r i)
    unfold rst
    rw [ih (fun k hk => h k (by omega)), h i (by omega)]
theorem rmn_first {I : TI} {r : Nat → Int32} : ∀ i, (∀ k, k < i → I 0 k = 0 → r k = I 1 k) → rmn I r i + 1 = prd I i := by
  intro i
  induction i with
  | zero => intro _; rfl
  | succ i ih =>
    intro h
    have e := ih (fun k hk => h k (by omega))
    show (if I 0 i = 0 then rmn I r i * sz I i + rst I r i else rmn I r i) + 1 = (if I 0 i = 0 then prd I i * sz I i else prd I i)
    by_cases g : I 0 i = 0
    · rw [if_pos g, if_pos g, ← e, Nat.succ_mul]
      unfold rst sz
      rw [h i (by omega) g]
      omega
    · rw [if_neg g, if_neg g]; exact e
def ixm' (i : Nat) : Int32 := ixm i
theorem nextL {n : Nat} {I0 : TI} {J0 : TJ} {K0 : TI} {L0 : TJ} (h0 : Cp n I0 J0 K0 L0) : ∀ i, i ≤ n → ∀ m m', i < m → i < m' → ∀ (r : Nat → Int32) (I : TI) (J : TJ) (K : TI) (L : TJ), Rw n I0 J0 K0 L0 r I J K L → ∃ q r' I' K', fX1_toNextRow_10 m (ixm i) I J = some ((), I', J) ∧ fX5_goesOn_7 m' (ixm i) K L = some (q, K', L) ∧ Rw n I0 J0 K0 L0 r' I' J K' L ∧ (∀ k, i ≤ k → r' k = r k) ∧ ((rmn I0 r i = 0 ∧ q = 0) ∨ (q = 1 ∧ rmn I0 r' i + 1 = rmn I0 r i)) := by
  have hn := h0.n16
  intro i
  induction i with
  | zero =>
    intro _ m m' hm hm' r I J K L h
    obtain ⟨m, rfl⟩ : ∃ q, m = q + 1 := ⟨m - 1, by omega⟩
    obtain ⟨m', rfl⟩ : ∃ q, m' = q + 1 := ⟨m' - 1, by omega⟩
    have e : ixm 0 < 0 := by decide
    refine ⟨0, r, I, K, ?_, ?_, h, fun _ _ => rfl, Or.inl ⟨rfl, rfl⟩⟩
    · rw [eX1_toNextRow_10, if_pos e]
    · rw [eX5_goesOn_7, if_pos e]
      unfold fX5_goesOn_71
      rw [if_neg (by decide)]
  | succ i ih =>
    intro hi m m' hm hm' r I J K L h
    obtain ⟨m, rfl⟩ : ∃ q, m = q + 1 := ⟨m - 1, by omega⟩
    obtain ⟨m', rfl⟩ : ∃ q, m' = q + 1 := ⟨m' - 1, by omega⟩
    have hin : i < n := by omega
    obtain ⟨a1, a2, a3, a4, a5, a6, a7, a8⟩ := h
    have h' : Rw n I0 J0 K0 L0 r I J K L := ⟨a1, a2, a3, a4, a5, a6, a7, a8⟩
    have e : nI i + (-1 : Int32) = ixm i := rfl
    have k0 : K 0 i = I0 0 i := by rw [a3 0 (by decide) (by decide) (by decide)]; exact h0.c hin (by decide)
    have k1 : K 1 i = I0 1 i := by rw [a3 1 (by decide) (by decide) (by decide)]; exact h0.c hin (by decide)
    have k2 : K 2 i = I0 2 i := by rw [a3 2 (by decide) (by decide) (by decide)]; exact h0.c hin (by decide)
    rw [eX1_toNextRow_10, eX5_goesOn_7, ixm_s, if_neg (nI_pos (by omega)), if_neg (nI_pos (by omega)), if_pos (nok (by omega)), if_pos (nok (by omega)), ncl (by omega), e, a1 0 (by decide) (by decide), a1 1 (by decide) (by decide), k0, k2]
    have ksame : uI K 7 i (K 7 i) = K := by
      funext c
      show sI K 7 _ c = _
      by_cases c7 : c = 7
      · subst c7; rw [sI_eq]; exact upd_self rfl
      · rw [sI_ne c7]
    by_cases g : I0 0 i = 0
    · rw [if_pos g, if_pos g]
      obtain ⟨v1, v2, v3⟩ := (a7 i hin).1 g
      have i8 : I 8 i = r i := a5 i hin (Or.inl g)
      have k7 : K 7 i = r i := a6 i hin g
      have hG : Num (I0 1 i) ∧ Num (I0 2 i) ∧ J0 1 i = (I0 2 i).toInt64 := by
        rcases (h0.1.2 i hin).1 with q | q
        · rcases q.1 with ⟨_, b1, _, b3, _⟩ | ⟨b0, _⟩
          · exact ⟨q.2.1, b1, b3⟩
          · exact absurd (b0.symm.trans g) (by decide)
        · exact absurd (Or.inl g) q.ngv
      obtain ⟨⟨n1, n2, n3⟩, ⟨m1, m2, m3⟩, j1⟩ := hG
      have hJ1 : J 1 i = (I0 2 i).toInt64 := by rw [a2 1 (by decide) (by decide)]; exact j1
      rw [hJ1, i8, k7]
      by_cases c : r i = I0 2 i
      · rw [if_pos (show (I0 2 i).toInt64 ≤ (r i).toInt64 by rw [we64, le32, c]; exact Int.le_refl _), if_pos c]
        unfold fX5_goesOn_35
        rw [if_pos (nok (by omega)), ncl (by omega), k0, if_pos g, e, k1]
        -- this INPUT is back at LOW
        have h2 : Rw n I0 J0 K0 L0 (upd r i (I0 1 i)) (uI I 8 i (I0 1 i)) J (uI K 7 i (I0 1 i)) L := by
          refine ⟨fun c c8 c9 => by show sI I 8 _ c = _; rw [sI_ne c8]; exact a1 c c8 c9, a2, fun c c7 c9 c10 => by show sI K 7 _ c = _; rw [sI_ne c7]; exact a3 c c7 c9 c10, a4, fun k hk hg => ?_, fun k hk hg => ?_, fun k hk => ?_, fun k hk => ?_⟩
          · show (if k = i then I0 1 i else I 8 k) = (if k = i then I0 1 i else r k)
            rw [a5 k hk hg]
          · show (if k = i then I0 1 i else K 7 k) = (if k = i then I0 1 i else r k)
            rw [a6 k hk hg]
          · by_cases ek : k = i
            · subst ek; rw [upd_eq]; exact ⟨fun _ => ⟨n3, Int.le_refl _, by omega⟩, fun z => absurd (g.symm.trans z) (by decide)⟩
            · rw [upd_ne ek]; exact a7 k hk
          · rw [I_nc (by decide), I_nc (by decide), I_nc (by decide)]; exact a8 k hk
        obtain ⟨q, r', I', K', y1, y2, y3, y4, y5⟩ := ih (by omega) m m' (by omega) (by omega) _ _ J _ L h2
        refine ⟨q, upd r' i (I0 1 i), I', K', y1, y2, ?_, ?_, ?_⟩
        · have r1 : r' i = I0 1 i := by rw [y4 i (Nat.le_refl i), upd_eq]
          rw [upd_self r1]; exact y3
        · intro k hk
          rw [upd_ne (by omega), y4 k (by omega), upd_ne (by omega)]
        · have r1 : r' i = I0 1 i := by rw [y4 i (Nat.le_refl i), upd_eq]
          rw [upd_self r1]
          have e1 : rmn I0 (upd r i (I0 1 i)) i = rmn I0 r i := rmn_cong i (fun k hk => upd_ne (by omega))
          rw [e1] at y5
          show (((if I0 0 i = 0 then rmn I0 r i * sz I0 i + rst I0 r i else rmn I0 r i) = 0) ∧ q = 0) ∨ (q = 1 ∧ (if I0 0 i = 0 then rmn I0 r' i * sz I0 i + rst I0 r' i else rmn I0 r' i) + 1 = (if I0 0 i = 0 then rmn I0 r i * sz I0 i + rst I0 r i else rmn I0 r i))
          rw [if_pos g, if_pos g]
          have s1 : rst I0 r i = 0 := by unfold rst; rw [c]; simp
          have s2 : rst I0 r' i + 1 = sz I0 i := by unfold rst sz; rw [r1]
          rcases y5 with ⟨z1, z2⟩ | ⟨z1, z2⟩
          · refine Or.inl ⟨?_, z2⟩
            rw [z1, s1]; omega
          · refine Or.inr ⟨z1, ?_⟩
            rw [← z2, s1, Nat.succ_mul]; omega
      · have lt : (r i).toInt < (I0 2 i).toInt := by
          have : (r i).toInt ≠ (I0 2 i).toInt := fun z => c (q32 z)
          omega
        rw [if_neg (show ¬ (I0 2 i).toInt64 ≤ (r i).toInt64 by rw [we64, le32]; omega), if_neg c]
        unfold fX5_goesOn_71
        rw [if_pos (nI_pos' (by omega)), if_pos (nok (by omega)), ncl (by omega), k7]
        have e4 : (4096 : Int32).toInt = 4096 := rfl
        have radd : (r i + 4096).toInt = (r i).toInt + 4096 := by
          rw [Int32.toInt_add, e4, b31] <;> omega
        refine ⟨1, upd r i (r i + 4096), _, _, rfl, rfl, ?_, fun k hk => upd_ne (by omega), Or.inr ⟨rfl, ?_⟩⟩
        · refine ⟨fun c c8 c9 => by show sI I 8 _ c = _; rw [sI_ne c8]; exact a1 c c8 c9, a2, fun c c7 c9 c10 => by show sI K 7 _ c = _; rw [sI_ne c7]; exact a3 c c7 c9 c10, a4, fun k hk hg => ?_, fun k hk hg => ?_, fun k hk => ?_, fun k hk => ?_⟩
          · show (if k = i then r i + 4096 else I 8 k) = (if k = i then r i + 4096 else r k)
            rw [a5 k hk hg]
          · show (if k = i then r i + 4096 else K 7 k) = (if k = i then r i + 4096 else r k)
            rw [a6 k hk hg]
          · by_cases ek : k = i
            · subst ek; rw [upd_eq, radd]; exact ⟨fun _ => ⟨by omega, by omega, by omega⟩, fun z => absurd (g.symm.trans z) (by decide)⟩
            · rw [upd_ne ek]; exact a7 k hk
          · rw [I_nc (by decide), I_nc (by decide), I_nc (by decide)]; exact a8 k hk
        · have e1 : rmn I0 (upd r i (r i + 4096)) i = rmn I0 r i := rmn_cong i (fun k hk => upd_ne (by omega))
          show (if I0 0 i = 0 then rmn I0 (upd r i (r i + 4096)) i * sz I0 i + rst I0 (upd r i (r i + 4096)) i else _) + 1 = (if I0 0 i = 0 then rmn I0 r i * sz I0 i + rst I0 r i else _)
          rw [if_pos g, if_pos g, e1]
          unfold rst
          rw [upd_eq, radd]
          omega
    · rw [if_neg g, if_neg g]
      unfold fX5_goesOn_35
      rw [if_pos (nok (by omega)), ncl (by omega), k0, if_neg g, e, ksame]
      obtain ⟨q, r', I', K', y1, y2, y3, y4, y5⟩ := ih (by omega) m m' (by omega) (by omega) r I J K L h'
      refine ⟨q, r', I', K', y1, y2, y3, fun k hk => y4 k (by omega), ?_⟩
      show (((if I0 0 i = 0 then _ else rmn I0 r i) = 0) ∧ q = 0) ∨ (q = 1 ∧ (if I0 0 i = 0 then _ else rmn I0 r' i) + 1 = (if I0 0 i = 0 then _ else rmn I0 r i))
      rw [if_neg g, if_neg g]; exact y5
theorem nextB {n : Nat} {I0 : TI} {J0 : TJ} {K0 : TI} {L0 : TJ} (h0 : Cp n I0 J0 K0 L0) {r : Nat → Int32} {I : TI} {J : TJ} {K : TI} {L : TJ} (h : Rw n I0 J0 K0 L0 r I J K L) : ∃ q r' I' K', fX1_toNextRow I J = some ((), I', J) ∧ fX5_goesOn K L = some (q, K', L) ∧ Rw n I0 J0 K0 L0 r' I' J K' L ∧ ((rmn I0 r n = 0 ∧ q = 0) ∨ (q = 1 ∧ rmn I0 r' n + 1 = rmn I0 r n)) := by
  have hn := h0.n16
  obtain ⟨q, r', I', K', y1, y2, y3, y4, y5⟩ := nextL h0 n (Nat.le_refl n) fuel fuel (by unfold fuel; omega) (by unfold fuel; omega) r I J K L h
  refine ⟨q, r', I', K', ?_, ?_, y3, y5⟩
  · unfold fX1_toNextRow
    have e : I 12 0 - 1 = ixm n := by rw [h.1 12 (by decide) (by decide), h0.x]; unfold ixm; exact Int32.sub_eq_add_neg _ _
    rw [e]; exact y1
  · unfold fX5_goesOn
    have e : K 13 0 - 1 = ixm n := by rw [h.2.2.1 13 (by decide) (by decide) (by decide), h0.m]; unfold ixm; exact Int32.sub_eq_add_neg _ _
    rw [e]; exact y2
-- the worst ROW kept
theorem keepXL {n : Nat} {I0 : TI} {J : TJ} (h : I0 12 0 = nI n) (hn : n ≤ 16) : ∀ d i, i + d = 16 → ∀ m, d < m → ∀ I : TI, (∀ c, c ≠ 9 → I c = I0 c) → (∀ k, k < i → I 9 k = if k < n ∧ I0 0 k = 0 then I0 8 k else -2) → ∃ I', fX1_keepRow_2 m (nI i) I J = some ((), I', J) ∧ (∀ c, c ≠ 9 → I' c = I0 c) ∧ ∀ k, k < 16 → I' 9 k = if k < n ∧ I0 0 k = 0 then I0 8 k else -2 := by
  have e16 : (16 : Int32) = nI 16 := rfl
  intro d
  induction d with
  | zero =>
    intro i hi m hm I hI h9
    obtain ⟨m, rfl⟩ : ∃ m', m = m' + 1 := ⟨m - 1, by omega⟩
    refine ⟨I, ?_, hI, fun j hj => h9 j (by omega)⟩
    rw [eX1_keepRow_2, if_pos (by rw [e16, nle (by omega) (by omega)]; omega)]
  | succ d ih =>
    intro i hi m hm I hI h9
    obtain ⟨m, rfl⟩ : ∃ m', m = m' + 1 := ⟨m - 1, by omega⟩
    have x0 : I 12 0 = nI n := by rw [hI 12 (by decide)]; exact h
    have go : ∀ x : Int32, x = (if i < n ∧ I0 0 i = 0 then I0 8 i else -2) → ∃ I', fX1_keepRow_2 m (nI (i + 1)) (uI I 9 i x) J = some ((), I', J) ∧ (∀ c, c ≠ 9 → I' c = I0 c) ∧ ∀ k, k < 16 → I' 9 k = if k < n ∧ I0 0 k = 0 then I0 8 k else -2 := by
      intro x hx
      refine ih (i + 1) (by omega) m (by omega) _ (fun c hc => ?_) (fun j hj => ?_)
      · show sI I 9 _ c = _
        rw [sI_ne hc]; exact hI c hc
      · by_cases e : j = i
        · subst e; rw [I_eq, hx]
        · rw [I_ne e]; exact h9 j (by omega)
    rw [eX1_keepRow_2, if_neg (by rw [e16, nle (by omega) (by omega)]; omega)]
    by_cases c : i < n
    · rw [inpX1 x0 hn c, bnd_eq, hI 0 (by decide)]
      by_cases g : I0 0 i = 0
      · rw [if_pos g, if_neg o10, if_pos (nok (by omega)), ncl (by omega), nsc, hI 8 (by decide)]
        exact go _ (by rw [if_pos ⟨c, g⟩])
      · rw [if_neg g, if_pos rfl, if_pos (nok (by omega)), ncl (by omega), nsc]
        exact go _ (by rw [if_neg (fun z => g z.2)])
    · rw [inpX0 x0 (Or.inr (by rw [nle (by omega) (by omega)]; omega)), bnd_eq, if_pos rfl, if_pos (nok (by omega)), ncl (by omega), nsc]
      exact go _ (by rw [if_neg (fun z => c z.1)])
theorem keepML {n : Nat} {K0 : TI} {L : TJ} (h : K0 13 0 = nI n) (hn : n ≤ 16) (v : Int32) (w : Int64) : ∀ d i, i + d = 16 → ∀ m, d < m → ∀ K : TI, (∀ c, c ≠ 9 → c ≠ 10 → K c = K0 c) → (∀ k, k < i → K 9 k = (if k < n ∧ K0 0 k = 0 then 1 else 0) ∧ K 10 k = K0 7 k) → ∃ K', (∀ kf, fX5_worst_66 kf m v w (nI i) K L = fX5_worst_124 kf v w K' L) ∧ (∀ c, c ≠ 9 → c ≠ 10 → K' c = K0 c) ∧ ∀ k, k < 16 → K' 9 k = (if k < n ∧ K0 0 k = 0 then 1 else 0) ∧ K' 10 k = K0 7 k := by
  have e16 : (16 : Int32) = nI 16 := rfl
  have b1 : vp_nar .boolean 1 = 1 := by decide
  have b0 : vp_nar .boolean 0 = 0 := by decide
  intro d
  induction d with
  | zero =>
    intro i hi m hm K hK h9
    obtain ⟨m, rfl⟩ : ∃ m', m = m' + 1 := ⟨m - 1, by omega⟩
    refine ⟨K, fun kf => ?_, hK, fun j hj => h9 j (by omega)⟩
    rw [eX5_worst_66, if_pos (by rw [e16, nle (by omega) (by omega)]; omega)]
  | succ d ih =>
    intro i hi m hm K hK h9
    obtain ⟨m, rfl⟩ : ∃ m', m = m' + 1 := ⟨m - 1, by omega⟩
    have x0 : K 13 0 = nI n := by rw [hK 13 (by decide) (by decide)]; exact h
    obtain ⟨K', y1, y2, y3⟩ := ih (i + 1) (by omega) m (by omega) (uI (uI K 9 i (if i < n ∧ K0 0 i = 0 then 1 else 0)) 10 i (K0 7 i)) (fun c c9 c10 => by show sI (sI K 9 _) 10 _ c = _; rw [sI_ne c10, sI_ne c9]; exact hK c c9 c10) (fun j hj => by
      by_cases e : j = i
      · subst e; rw [I_nc (by decide), I_eq, I_eq]; exact ⟨rfl, rfl⟩
      · rw [I_ne e, I_ne e, I_ne e, I_ne e]; exact h9 j (by omega))
    refine ⟨K', fun kf => ?_, y2, y3⟩
    rw [← y1 kf]
    rw [eX5_worst_66, if_neg (by rw [e16, nle (by omega) (by omega)]; omega), x0]
    by_cases c : i < n
    · rw [if_neg (by rw [nle (by omega) (by omega)]; omega), if_pos (nok (by omega)), ncl (by omega), hK 0 (by decide) (by decide)]
      by_cases g : K0 0 i = 0
      · rw [if_pos g, if_pos ⟨c, g⟩]
        unfold fX5_worst_103
        rw [if_pos (nok (by omega)), if_pos (nok (by omega)), ncl (by omega), nsc, b1, hK 7 (by decide) (by decide)]
      · rw [if_neg g, if_neg (fun z => g z.2)]
        unfold fX5_worst_102 fX5_worst_103
        rw [if_pos (nok (by omega)), if_pos (nok (by omega)), ncl (by omega), nsc, b0, hK 7 (by decide) (by decide)]
    · rw [if_pos (by rw [nle (by omega) (by omega)]; omega), if_neg (fun z => c z.1)]
      unfold fX5_worst_102 fX5_worst_103
      rw [if_pos (nok (by omega)), if_pos (nok (by omega)), ncl (by omega), nsc, b0, hK 7 (by decide) (by decide)]
theorem keptB {n : Nat} {I0 : TI} {J0 : TJ} {K0 : TI} {L0 : TJ} (h0 : Cp n I0 J0 K0 L0) {r : Nat → Int32} {I : TI} {J : TJ} {K : TI} {L : TJ} (h : Rw n I0 J0 K0 L0 r I J K L) (v : Int32) (w : Int64) : ∃ I' K', fX1_keepRow I J = some ((), I', J) ∧ (∀ kf, fX5_worst_66 kf fuel v w 0 K L = fX5_worst_124 kf v w K' L) ∧ Rw n I0 J0 K0 L0 r I' J K' L := by
  have hn := h0.n16
  obtain ⟨a1, a2, a3, a4, a5, a6, a7, a8⟩ := h
  obtain ⟨I', x1, x2, x3⟩ := keepXL (J := J) (show I 12 0 = nI n by rw [a1 12 (by decide) (by decide)]; exact h0.x) hn 16 0 (by omega) fuel (by unfold fuel; omega) I (fun _ _ => rfl) (fun k hk => by omega)
  obtain ⟨K', y1, y2, y3⟩ := keepML (L := L) (show K 13 0 = nI n by rw [a3 13 (by decide) (by decide) (by decide)]; exact h0.m) hn v w 16 0 (by omega) fuel (by unfold fuel; omega) K (fun _ _ _ => rfl) (fun k hk => by omega)
  refine ⟨I', K', x1, y1, fun c c8 c9 => by rw [x2 c c9]; exact a1 c c8 c9, a2, fun c c7 c9 c10 => by rw [y2 c c9 c10]; exact a3 c c7 c9 c10, a4, fun k hk hg => by rw [x2 8 (by decide)]; exact a5 k hk hg, fun k hk hg => by rw [y2 7 (by decide) (by decide)]; exact a6 k hk hg, a7, fun k hk => ?_⟩
  obtain ⟨z1, z2⟩ := y3 k hk
  rw [x3 k hk, z1, z2, a1 0 (by decide) (by decide), a3 0 (by decide) (by decide) (by decide)]
  by_cases c : k < n
  · rw [h0.c c (c := 0) (by decide)]
    by_cases g : I0 0 k = 0
    · rw [if_pos ⟨c, g⟩, if_pos ⟨c, g⟩]
      exact Or.inr ⟨rfl, by rw [a5 k c (Or.inl g), a6 k c g]⟩
    · rw [if_neg (fun z => g z.2), if_neg (fun z => g z.2)]
      exact Or.inl ⟨rfl, rfl⟩
  · rw [if_neg (fun z => c z.1), if_neg (fun z => c z.1)]
    exact Or.inl ⟨rfl, rfl⟩
