/-! least: both answer alike -/
def cw (I : TI) : Nat → Nat
  | 0 => 0
  | k + 1 => cw I k + (if gvn I k then 0 else 1)
theorem cw_le (I : TI) : ∀ n, cw I n ≤ n := by
  intro n
  induction n with
  | zero => exact Nat.le_refl _
  | succ n ih => show cw I n + _ ≤ _; split <;> omega
theorem wo_cw (I : TI) : ∀ n, woF I n = nI (cw I n) := by
  intro n
  induction n with
  | zero => rfl
  | succ n ih =>
    show woF I n + (if gvn I n then 0 else 1) = nI (cw I n + _)
    rw [ih]
    by_cases g : gvn I n
    · rw [if_pos g, if_pos g, a0]; rfl
    · rw [if_neg g, if_neg g, nsc]
theorem lvs_cw (I : TI) : ∀ d i, lvs I d i * 5 ^ cw I i = 5 ^ cw I (i + d) := by
  intro d
  induction d with
  | zero => intro i; show 1 * _ = _; rw [Nat.one_mul]; rfl
  | succ d ih =>
    intro i
    show (if gvn I i then lvs I d (i + 1) else 5 * lvs I d (i + 1)) * 5 ^ cw I i = _
    have h := ih (i + 1)
    rw [show i + (d + 1) = i + 1 + d by omega, ← h]
    show _ = lvs I d (i + 1) * 5 ^ (cw I i + _)
    by_cases g : gvn I i
    · rw [if_pos g, if_pos g]; rfl
    · rw [if_neg g, if_neg g, Nat.pow_succ, Nat.mul_comm 5, Nat.mul_assoc, Nat.mul_comm 5]
theorem lvs_le {I : TI} {n : Nat} (h : cw I n ≤ 6) : lvs I n 0 ≤ 15625 := by
  have := lvs_cw I n 0
  rw [Nat.zero_add] at this
  have e : cw I 0 = 0 := rfl
  rw [e, Nat.pow_zero, Nat.mul_one] at this
  rw [this]
  exact Nat.pow_le_pow_right (by decide) h
def aV (n : Nat) (I : TI) (acc : Acc) : Prop := ∀ p c, acc = some (p, c) → p = pn I c n ∧ okt n I c
theorem leaf_v {n : Nat} {I : TI} {J : TJ} {v : Nat} {mm : Int64} {acc : Acc} {t : Nat → Int32} (ht : okt n I t) (ha : aV n I acc) : aV n I (leafU n I J v mm acc t) := by
  intro p c e
  unfold leafU at e
  split at e
  · rcases acc with _ | ⟨p1, c1⟩
    · cases e; exact ⟨rfl, ht⟩
    · have e' : (if pn I t n < p1 then some (pn I t n, t) else some (p1, c1)) = some (p, c) := e
      by_cases z : pn I t n < p1
      · rw [if_pos z] at e'; cases e'; exact ⟨rfl, ht⟩
      · rw [if_neg z] at e'; exact ha p c e'
  · exact ha p c e
theorem srch_v {n : Nat} {I : TI} {J : TJ} {v : Nat} {mm : Int64} : ∀ d i, i + d = n → ∀ t acc, okt n I t → aV n I acc → aV n I (srch n I J v mm d i t acc) := by
  intro d
  induction d with
  | zero => intro i hi t acc ht ha; exact leaf_v ht ha
  | succ d ih =>
    intro i hi t acc ht ha
    show aV n I (if gvn I i then _ else _)
    have e : ∀ f : Nat, f ≤ 16 → (gvn I i → f = 16) → okt n I (upd t i (nI f)) := by
      intro f hf hg k hk
      by_cases c : k = i
      · subst c
        rw [upd_eq]
        split
        · rename_i z; rw [hg z]; rfl
        · exact ⟨f, hf, rfl⟩
      · rw [upd_ne c]; exact ht k hk
    split
    · exact ih (i + 1) (by omega) _ _ (e 16 (by omega) (fun _ => rfl)) ha
    · rename_i g
      exact ih (i + 1) (by omega) _ _ (e 16 (by omega) (fun z => absurd z g)) (ih (i + 1) (by omega) _ _ (e 12 (by omega) (fun z => absurd z g)) (ih (i + 1) (by omega) _ _ (e 8 (by omega) (fun z => absurd z g)) (ih (i + 1) (by omega) _ _ (e 4 (by omega) (fun z => absurd z g)) (ih (i + 1) (by omega) _ _ (e 0 (by omega) (fun z => absurd z g)) ha))))
theorem fst_ok (n : Nat) (I : TI) : okt n I (fst I) := by
  intro k hk
  unfold fst
  by_cases g : gvn I k
  · rw [if_pos g, if_pos g]
  · rw [if_neg g, if_neg g]; exact ⟨0, by omega, rfl⟩
theorem op_least {n : Nat} {I : TI} {J : TJ} {K : TI} {L : TJ} (h : Cp n I J K L) (v : Int32) (mm : Int64) : Bo (fX4_least v mm I J) (fX5_least v mm K L) := by
  have hn := h.n16
  unfold fX4_least fX5_least
  rcases ix3 v n hn with hv | ⟨k, hk, rfl⟩
  · rw [hasX0 h.x hv, valM0 h.m hn hv, bnd_eq, bnd_eq, if_pos rfl, if_pos rfl]
    exact Bo.mk h rfl rfl
  rw [hasX1 h.x hn hk, valM1 h.m hn hk, bnd_eq, bnd_eq, if_neg o10, if_neg o10]
  by_cases cm : (0 : Int64) ≤ mm
  case neg =>
    rw [if_neg cm, if_neg cm]
    exact Bo.mk h rfl rfl
  rw [if_pos cm, if_pos cm]
  unfold fX3_chooseCheapest
  have e2 : woF K n = woF I n := woF_cong n (fun k hk => h.c hk (by decide))
  rw [woX h.x hn, woM h.okM h.m, bnd_eq, bnd_eq, e2, wo_cw]
  have e6 : (6 : Int32) = nI 6 := rfl
  have hcw := cw_le I n
  by_cases c6 : cw I n ≤ 6
  case neg =>
    rw [if_neg (by rw [e6, nle (by omega) (by omega)]; exact c6), if_neg (by rw [e6, nle (by omega) (by omega)]; exact c6), bnd_eq]
    exact Bo.mk h rfl rfl
  rw [if_pos (by rw [e6, nle (by omega) (by omega)]; exact c6), if_pos (by rw [e6, nle (by omega) (by omega)]; exact c6)]
  -- the class
  have rx : RX n I J 0 (fst I) none (uI I 12 1 2147483647) J := by
    refine ⟨fun c c10 c11 c12 => by show sI I 12 _ c = _; rw [sI_ne c12], ?_, fun _ _ => rfl, fun k hk => by omega, fun k hk => by omega, ?_⟩
    · rw [I_ne (by decide)]; exact h.x
    · show (uI I 12 1 2147483647) 12 1 = _
      rw [I_eq]
  obtain ⟨I2, J2, y1, y2⟩ := chooseX h.1 h.reach hk mm n 0 (by omega) 20 (by omega) (fst I) none _ _ rx (fun j hj => by omega) (fun z => by omega)
  have y1' : fX3_choose 20 (0 : Int32) (0 : Int32) (nI k) mm (uI I 12 1 2147483647) J = some ((), I2, J2) := y1
  -- the model
  obtain ⟨K1, s1, s2, s3⟩ := savM (L := L) h.m hn
  have cp1 : Cp n I J K1 L := h.frameN (fun _ _ _ _ => rfl) rfl rfl (fun _ _ _ _ => rfl) (fun k hk c hc => by rw [s2 c (by omega)]) (s2 9 (by decide)) (s2 10 (by decide)) (by rw [s2 13 (by decide)]) (fun _ _ _ _ => rfl)
  obtain ⟨K2, t1, t2, t3⟩ := sallM cp1.okM cp1.m 0
  have rm : RM n K1 L (fst I) none K2 L := by
    refine ⟨fun c c4 _ => t2 c c4, fun _ _ => rfl, fun j hj => ?_, fun p c e => by cases e⟩
    rw [t3 j hj]
    unfold fst
    by_cases g : gvn I j
    · rw [if_pos g, if_pos ((gvn_c cp1 hj).mpr g)]
    · rw [if_neg g, if_neg (fun z => g ((gvn_c cp1 hj).mp z))]
  have lv := lvs_le (I := I) (n := n) c6
  obtain ⟨F, hF⟩ : ∃ F, fuel = F + 1 + lvs I n 0 := ⟨fuel - lvs I n 0 - 1, by unfold fuel; omega⟩
  obtain ⟨K3, L3, z1, z2⟩ := countM' cp1 hk mm n 0 (by omega) (fst I) none K2 L (F + 1) rm (fun p c e => by cases e) (fst_ok n I) (fun k _ _ => rfl)
  rw [← hF] at z1
  have z1' : fX5_least_48 fuel (nI k) mm (-1 : Int32) (1 : Int32) K2 L = bnd (Sc K3 L3 0) (fun q K L => fX5_least_48 (F + 1) (nI k) mm (enc (srch n I J k mm n 0 (fst I) none)) q K L) := z1
  rw [y1', bnd_eq, s1, bnd_eq, t1, bnd_eq, z1', Sc_0, bnd_eq, eX5_least_48, if_pos rfl]
  have va := srch_v (I := I) (J := J) (v := k) (mm := mm) n 0 (by omega) (fst I) none (fst_ok n I) (fun p c e => by cases e)
  have vo := srch_ok h.1 (v := k) (mm := mm) n 0 (by omega) (fst I) none (fst_ok n I) (fun p c e => by cases e)
  generalize srch n I J k mm n 0 (fst I) none = acc at y2 z2 va vo
  obtain ⟨a1, a2, a3, a4, a5, a6⟩ := y2
  obtain ⟨b1, b2, b3, b4⟩ := z2
  have k13 : K3 13 0 = nI n := by rw [b1 13 (by decide) (by decide)]; exact cp1.m
  rcases acc with _ | ⟨p, c⟩
  · have a6' : I2 12 1 = 2147483647 := a6
    obtain ⟨K4, w1, w2, w3⟩ := tkM (L := L3) k13 hn
    rw [if_pos a6', bnd_eq, if_pos (show enc none = -1 from rfl), w1, bnd_eq]
    refine Bo.mk (h.frameN (fun j hj c hc => by rw [a1 c (by omega) (by omega) (by omega)]) (a1 9 (by decide) (by decide) (by decide)) (by rw [a2, h.x]) (fun j hj c hc => by rw [a3 c (by omega)]) (fun j hj c hc => ?_) ?_ ?_ (by rw [w2 13 (by decide), k13, h.m]) (fun j hj c hc => by rw [b2 c (by omega)])) rfl rfl
    · by_cases c4 : c = 4
      · subst c4; rw [w3 j hj, b1 11 (by decide) (by decide), s3 j hj]
      · rw [w2 c c4, b1 c c4 (by omega), s2 c (by omega)]
    · rw [w2 9 (by decide), b1 9 (by decide) (by decide), s2 9 (by decide)]
    · rw [w2 10 (by decide), b1 10 (by decide) (by decide), s2 10 (by decide)]
  · obtain ⟨a7, a8, a9⟩ := a6
    obtain ⟨pv, cv⟩ := va p c rfl
    have ne : ¬ I2 12 1 = 2147483647 := by
      rw [a7]; intro e
      have := congrArg Int32.toInt e
      rw [nI_toInt (by omega)] at this
      have eM : (2147483647 : Int32).toInt = 2147483647 := rfl
      omega
    obtain ⟨I3, u1, u2, u3⟩ := tk11X (J := J2) a2 hn
    obtain ⟨K4, w1, w2, w3⟩ := tkBM (L := L3) k13 hn
    have i4 : ∀ j, j < n → I3 4 j = c j := fun j hj => by rw [u3 j hj, a9 j hj]
    have cp : Cp n I3 J2 K4 L3 := h.newbits (fun j hj c hc c4 => by rw [u2 c c4, a1 c (by omega) (by omega) (by omega)]) (by rw [u2 9 (by decide), a1 9 (by decide) (by decide) (by decide)]) (by rw [u2 12 (by decide), a2, h.x]) (fun j hj c hc => by rw [a3 c (by omega)]) (fun j hj c hc c4 => by rw [w2 c c4, b1 c c4 (by omega), s2 c (by omega)]) (by rw [w2 9 (by decide), b1 9 (by decide) (by decide), s2 9 (by decide)]) (by rw [w2 10 (by decide), b1 10 (by decide) (by decide), s2 10 (by decide)]) (by rw [w2 13 (by decide), k13, h.m]) (fun j hj c hc => by rw [b2 c (by omega)]) (fun j hj => by rw [w3 j hj, b4 p c rfl j hj, i4 j hj]) (fun j hj => by rw [i4 j hj]; exact cv j hj)
    have pr : prF I3 (I3 4) n = nI p := by
      have e1 : prF I3 (I3 4) n = prF I c n := prF_cong n (fun j hj => ⟨by rw [u2 0 (by decide), a1 0 (by decide) (by decide) (by decide)], by rw [u2 6 (by decide), a1 6 (by decide) (by decide) (by decide)], i4 j hj⟩)
      rw [e1, (pr_pn h.1 n (Nat.le_refl n) cv.tv).1, ← pv]
    have ee : enc (some (p, c)) = nI p := rfl
    rw [if_neg ne, u1, bnd_eq, prX cp.x hn, bnd_eq, bnd_eq, ee, if_neg (enc_ne a8), w1, bnd_eq, pr]
    exact Bo.mk cp rfl rfl
