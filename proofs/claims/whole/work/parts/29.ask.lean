/-! price, count, exact, tuned, miss, rows -/
def prF (I : TI) (bs : Nat → Int32) : Nat → Int32
  | 0 => 0
  | k + 1 => prF I bs k + (if gvn I k then 0 else I 6 k * bs k)
def inF (I : TI) : Nat → Int32
  | 0 => 0
  | k + 1 => inF I k + (if I 0 k = 0 then 1 else 0)
def woF (I : TI) : Nat → Int32
  | 0 => 0
  | k + 1 => woF I k + (if gvn I k then 0 else 1)
theorem prF_cong {I K : TI} {bs bs' : Nat → Int32} : ∀ n, (∀ k, k < n → K 0 k = I 0 k ∧ K 6 k = I 6 k ∧ bs' k = bs k) → prF K bs' n = prF I bs n := by
  intro n
  induction n with
  | zero => intro _; rfl
  | succ n ih =>
    intro h
    obtain ⟨h0, h6, hb⟩ := h n (by omega)
    show prF K bs' n + (if gvn K n then 0 else K 6 n * bs' n) = prF I bs n + (if gvn I n then 0 else I 6 n * bs n)
    rw [ih (fun k hk => h k (by omega)), h6, hb]
    unfold gvn; simp only [h0]
theorem inF_cong {I K : TI} : ∀ n, (∀ k, k < n → K 0 k = I 0 k) → inF K n = inF I n := by
  intro n
  induction n with
  | zero => intro _; rfl
  | succ n ih =>
    intro h
    show inF K n + (if K 0 n = 0 then 1 else 0) = inF I n + (if I 0 n = 0 then 1 else 0)
    rw [ih (fun k hk => h k (by omega)), h n (by omega)]
theorem woF_cong {I K : TI} : ∀ n, (∀ k, k < n → K 0 k = I 0 k) → woF K n = woF I n := by
  intro n
  induction n with
  | zero => intro _; rfl
  | succ n ih =>
    intro h
    show woF K n + (if gvn K n then 0 else 1) = woF I n + (if gvn I n then 0 else 1)
    rw [ih (fun k hk => h k (by omega))]
    unfold gvn; simp only [h n (by omega)]
theorem a0 (x : Int32) : x + 0 = x := Int32.add_zero x
theorem priceX {n : Nat} {I : TI} {J : TJ} (h : I 12 0 = nI n) (hn : n ≤ 16) : ∀ d i, i + d = n → ∀ m, d < m → fX0_priceInAll_4 m (prF I (I 4) i) (nI i) I J = some (prF I (I 4) n, I, J) := by
  intro d
  induction d with
  | zero =>
    intro i hi m hm
    obtain ⟨m, rfl⟩ : ∃ m', m = m' + 1 := ⟨m - 1, by omega⟩
    rw [eX0_priceInAll_4, h, if_pos (by rw [nle (by omega) (by omega)]; omega), show i = n by omega]
  | succ d ih =>
    intro i hi m hm
    obtain ⟨m, rfl⟩ : ∃ m', m = m' + 1 := ⟨m - 1, by omega⟩
    rw [eX0_priceInAll_4, h, if_neg (by rw [nle (by omega) (by omega)]; omega), if_pos (nok (by omega)), ncl (by omega), givX, bnd_eq, nsc, ← ih (i + 1) (by omega) m (by omega)]
    show _ = fX0_priceInAll_4 m (prF I (I 4) i + (if gvn I i then 0 else I 6 i * I 4 i)) (nI (i + 1)) I J
    by_cases g : gvn I i
    · rw [if_pos g, if_neg o10, if_pos g, a0]
    · rw [if_neg g, if_pos rfl, if_neg g]
theorem prX {n : Nat} {I : TI} {J : TJ} (h : I 12 0 = nI n) (hn : n ≤ 16) : fX0_priceInAll I J = some (prF I (I 4) n, I, J) := priceX h hn n 0 (by omega) fuel (by unfold fuel; omega)
theorem priceM {n : Nat} {K : TI} {L : TJ} (ho : Ok n K L) (h : K 13 0 = nI n) : ∀ d i, i + d = n → ∀ m, d < m → fX5_price_4 m (prF K (K 4) i) (nI i) K L = some (prF K (K 4) n, K, L) := by
  have hn := ho.1
  intro d
  induction d with
  | zero =>
    intro i hi m hm
    obtain ⟨m, rfl⟩ : ∃ m', m = m' + 1 := ⟨m - 1, by omega⟩
    rw [eX5_price_4, h, if_pos (by rw [nle (by omega) (by omega)]; omega), show i = n by omega]
  | succ d ih =>
    intro i hi m hm
    obtain ⟨m, rfl⟩ : ∃ m', m = m' + 1 := ⟨m - 1, by omega⟩
    rw [eX5_price_4, h, if_neg (by rw [nle (by omega) (by omega)]; omega), if_pos (nok (by omega)), ncl (by omega), nsc, ← ih (i + 1) (by omega) m (by omega)]
    show _ = fX5_price_4 m (prF K (K 4) i + (if gvn K i then 0 else K 6 i * K 4 i)) (nI (i + 1)) K L
    by_cases g : gvn K i
    · rw [if_pos ((ho.kd (by omega)).mpr g), if_pos g]
    · rw [if_neg (fun z => g ((ho.kd (by omega)).mp z)), if_neg g]
theorem prM {n : Nat} {K : TI} {L : TJ} (ho : Ok n K L) (h : K 13 0 = nI n) : fX5_price K L = some (prF K (K 4) n, K, L) := priceM ho h n 0 (by omega) fuel (by have := ho.1; unfold fuel; omega)
theorem inputsX {n : Nat} {I : TI} {J : TJ} (h : I 12 0 = nI n) (hn : n ≤ 16) : ∀ d i, i + d = n → ∀ m, d < m → fX0_inputs_4 m (inF I i) (nI i) I J = some (inF I n, I, J) := by
  intro d
  induction d with
  | zero =>
    intro i hi m hm
    obtain ⟨m, rfl⟩ : ∃ m', m = m' + 1 := ⟨m - 1, by omega⟩
    rw [eX0_inputs_4, h, if_pos (by rw [nle (by omega) (by omega)]; omega), show i = n by omega]
  | succ d ih =>
    intro i hi m hm
    obtain ⟨m, rfl⟩ : ∃ m', m = m' + 1 := ⟨m - 1, by omega⟩
    rw [eX0_inputs_4, h, if_neg (by rw [nle (by omega) (by omega)]; omega), if_pos (nok (by omega)), ncl (by omega), nsc, ← ih (i + 1) (by omega) m (by omega)]
    show _ = fX0_inputs_4 m (inF I i + (if I 0 i = 0 then 1 else 0)) (nI (i + 1)) I J
    by_cases g : I 0 i = 0
    · rw [if_pos g, if_pos g]
    · rw [if_neg g, if_neg g, a0]
theorem worksX {n : Nat} {I : TI} {J : TJ} (h : I 12 0 = nI n) (hn : n ≤ 16) : ∀ d i, i + d = n → ∀ m, d < m → fX0_workedOnes_4 m (woF I i) (nI i) I J = some (woF I n, I, J) := by
  intro d
  induction d with
  | zero =>
    intro i hi m hm
    obtain ⟨m, rfl⟩ : ∃ m', m = m' + 1 := ⟨m - 1, by omega⟩
    rw [eX0_workedOnes_4, h, if_pos (by rw [nle (by omega) (by omega)]; omega), show i = n by omega]
  | succ d ih =>
    intro i hi m hm
    obtain ⟨m, rfl⟩ : ∃ m', m = m' + 1 := ⟨m - 1, by omega⟩
    rw [eX0_workedOnes_4, h, if_neg (by rw [nle (by omega) (by omega)]; omega), if_pos (nok (by omega)), ncl (by omega), givX, bnd_eq, nsc, ← ih (i + 1) (by omega) m (by omega)]
    show _ = fX0_workedOnes_4 m (woF I i + (if gvn I i then 0 else 1)) (nI (i + 1)) I J
    by_cases g : gvn I i
    · rw [if_pos g, if_neg o10, if_pos g, a0]
    · rw [if_neg g, if_pos rfl, if_neg g]
theorem worksM {n : Nat} {K : TI} {L : TJ} (ho : Ok n K L) (h : K 13 0 = nI n) : ∀ d i, i + d = n → ∀ m, d < m → fX5_works_4 m (woF K i) (nI i) K L = some (woF K n, K, L) := by
  have hn := ho.1
  intro d
  induction d with
  | zero =>
    intro i hi m hm
    obtain ⟨m, rfl⟩ : ∃ m', m = m' + 1 := ⟨m - 1, by omega⟩
    rw [eX5_works_4, h, if_pos (by rw [nle (by omega) (by omega)]; omega), show i = n by omega]
  | succ d ih =>
    intro i hi m hm
    obtain ⟨m, rfl⟩ : ∃ m', m = m' + 1 := ⟨m - 1, by omega⟩
    rw [eX5_works_4, h, if_neg (by rw [nle (by omega) (by omega)]; omega), if_pos (nok (by omega)), ncl (by omega), nsc, ← ih (i + 1) (by omega) m (by omega)]
    show _ = fX5_works_4 m (woF K i + (if gvn K i then 0 else 1)) (nI (i + 1)) K L
    by_cases g : gvn K i
    · rw [if_pos ((ho.kd (by omega)).mpr g), if_pos g]
    · rw [if_neg (fun z => g ((ho.kd (by omega)).mp z)), if_neg g]
theorem woX {n : Nat} {I : TI} {J : TJ} (h : I 12 0 = nI n) (hn : n ≤ 16) : fX0_workedOnes I J = some (woF I n, I, J) := worksX h hn n 0 (by omega) fuel (by unfold fuel; omega)
theorem woM {n : Nat} {K : TI} {L : TJ} (ho : Ok n K L) (h : K 13 0 = nI n) : fX5_works K L = some (woF K n, K, L) := worksM ho h n 0 (by omega) fuel (by have := ho.1; unfold fuel; omega)
theorem cntM {n : Nat} {K : TI} {L : TJ} (ho : Ok n K L) (h : K 13 0 = nI n) (v : Int32) : ∀ d i, i + d = n → ∀ m, d < m → fX5_count_4 m v (inF K i) (nI i) K L = some (if v = 0 then nI n else if v = 1 then inF K n else if v = 2 then prF K (K 4) n else if v = 3 then woF K n else -2, K, L) := by
  have hn := ho.1
  intro d
  induction d with
  | zero =>
    intro i hi m hm
    obtain ⟨m, rfl⟩ : ∃ m', m = m' + 1 := ⟨m - 1, by omega⟩
    rw [eX5_count_4, if_pos (by rw [h, nle (by omega) (by omega)]; omega), show i = n by omega, prM ho h, woM ho h, bnd_eq, bnd_eq, h]
    repeat' split
    all_goals rfl
  | succ d ih =>
    intro i hi m hm
    obtain ⟨m, rfl⟩ : ∃ m', m = m' + 1 := ⟨m - 1, by omega⟩
    rw [eX5_count_4, if_neg (by rw [h, nle (by omega) (by omega)]; omega), if_pos (nok (by omega)), ncl (by omega), nsc, ← ih (i + 1) (by omega) m (by omega)]
    show _ = fX5_count_4 m v (inF K i + (if K 0 i = 0 then 1 else 0)) (nI (i + 1)) K L
    by_cases g : K 0 i = 0
    · rw [if_pos g, if_pos g]
    · rw [if_neg g, if_neg g]
theorem Cp.pr {n : Nat} {I : TI} {J : TJ} {K : TI} {L : TJ} (h : Cp n I J K L) : prF K (K 4) n = prF I (I 4) n := prF_cong n (fun k hk => ⟨h.c hk (by decide), h.c hk (by decide), h.c hk (by decide)⟩)
theorem op_price {n : Nat} {I : TI} {J : TJ} {K : TI} {L : TJ} (h : Cp n I J K L) : Bo (fX4_price I J) (fX5_price K L) := by
  unfold fX4_price
  rw [prX h.x h.n16, bnd_eq, prM h.okM h.m, h.pr]
  exact Bo.mk h rfl rfl
def cnt (I : TI) (n : Nat) (v : Int32) : Int32 := if v = 0 then nI n else if v = 1 then inF I n else if v = 2 then prF I (I 4) n else if v = 3 then woF I n else -2
theorem countX {n : Nat} {I : TI} {J : TJ} (h : I 12 0 = nI n) (hn : n ≤ 16) (v : Int32) : fX4_count v I J = some (cnt I n v, I, J) := by
  have e : fX0_inputs I J = some (inF I n, I, J) := inputsX h hn n 0 (by omega) fuel (by unfold fuel; omega)
  unfold fX4_count cnt
  rw [e, prX h hn, woX h hn, bnd_eq, bnd_eq, bnd_eq, h]
  repeat' split
  all_goals rfl
theorem countM {n : Nat} {I : TI} {J : TJ} {K : TI} {L : TJ} (h : Cp n I J K L) (v : Int32) : fX5_count v K L = some (cnt I n v, K, L) := by
  have e := cntM h.okM h.m v n 0 (by omega) fuel (by have := h.n16; unfold fuel; omega)
  have e1 : inF K n = inF I n := inF_cong n (fun k hk => h.c hk (by decide))
  have e2 : woF K n = woF I n := woF_cong n (fun k hk => h.c hk (by decide))
  rw [e1, h.pr, e2] at e
  exact e
theorem op_count {n : Nat} {I : TI} {J : TJ} {K : TI} {L : TJ} (h : Cp n I J K L) (v : Int32) : Bo (fX4_count v I J) (fX5_count v K L) := Bo.mk h (countX h.x h.n16 v) (countM h v)
-- runs
theorem Cp.row {n : Nat} {I : TI} {J : TJ} {K : TI} {L : TJ} (h : Cp n I J K L) {k : Nat} (hk : k < n) (hg : gvn I k) : rwM K k = I 7 k ∧ (I 7 k).toInt % 4096 = 0 := by
  obtain ⟨a1, a2, a3, a4, a5, a6⟩ := h.2.2.2.1 k hk
  unfold rwM
  rw [a1 0 (by decide), a1 1 (by decide)]
  rcases (h.1.2 k hk).1 with q | q
  · obtain ⟨q1, q2, _⟩ := q
    rcases q1 with ⟨b0, b1, b2, b3, b4, _⟩ | ⟨b0, _⟩
    · rw [if_pos b0, a4 b0]; exact ⟨rfl, b4.2.2⟩
    · rw [if_neg (by rw [b0]; decide), a5 b0]; exact ⟨rfl, q2.2.2⟩
  · exact absurd hg q.ngv
theorem Cp.hrow {n : Nat} {I : TI} {J : TJ} {K : TI} {L : TJ} (h : Cp n I J K L) : ∀ k, k < n → gvn K k → (rwM K k).toInt % 4096 = 0 := fun k hk hg => by
  have := h.row hk ((gvn_c h hk).mp hg)
  rw [this.1]; exact this.2
theorem Cp.ex {n : Nat} {I : TI} {J : TJ} {K : TI} {L : TJ} (h : Cp n I J K L) {v : Nat} (hv : v < n) : exv K (rwM K) v = exv I (I 7) v := by
  refine valA_cong' (n := n) (fun k hk E => ?_) hv
  unfold stE pa pb
  have g := gvn_c h hk
  by_cases c : gvn I k
  · rw [if_pos c, if_pos (g.mpr c), (h.row hk c).1]
  · rw [if_neg c, if_neg (fun z => c (g.mp z)), h.c hk (c := 0) (by decide), h.c hk (c := 1) (by decide), h.c hk (c := 2) (by decide)]
theorem Cp.tu {n : Nat} {I : TI} {J : TJ} {K : TI} {L : TJ} (h : Cp n I J K L) {v : Nat} (hv : v < n) : tuv K (rwM K) v = tuv I (I 7) v := by
  refine valA_cong' (n := n) (fun k hk E => ?_) hv
  unfold stT pa pb fb
  have g := gvn_c h hk
  by_cases c : gvn I k
  · rw [if_pos c, if_pos (g.mpr c), (h.row hk c).1]
  · rw [if_neg c, if_neg (fun z => c (g.mp z)), h.c hk (c := 0) (by decide), h.c hk (c := 1) (by decide), h.c hk (c := 2) (by decide), h.c hk (c := 4) (by decide), h.c hk (c := 5) (by decide)]
/-- one run by each, and what they leave -/
theorem runB {n : Nat} {I : TI} {J : TJ} {K : TI} {L : TJ} (h : Cp n I J K L) {v : Nat} (hv : v < n) : ∃ I' J' L', fX1_workOutAsSet (nI v) I J = some ((), I', J') ∧ fX5_runs (nI v) K L = some ((), K, L') ∧ Cp n I' J' K L' ∧ J' 3 v = exv I (I 7) v ∧ J' 4 v = tuv I (I 7) v ∧ L' 3 v = exv I (I 7) v ∧ L' 4 v = tuv I (I 7) v := by
  obtain ⟨I', J', a1, a2, a3, a4, a5⟩ := runSetX h.1 hv
  obtain ⟨L', b1, b2, b3, b4⟩ := runSetM h.okM hv h.hrow
  exact ⟨I', J', L', a1, b1, h.frame (fun c hc => a2 c (by omega)) (by rw [a2 12 (by decide)]) (fun c hc => a3 c (by omega) (by omega)) (fun _ _ => rfl) (fun _ _ => rfl) rfl (fun c hc => b2 c (by omega) (by omega)), a4, a5, by rw [b3, h.ex hv], by rw [b4, h.tu hv]⟩
theorem op_exact {n : Nat} {I : TI} {J : TJ} {K : TI} {L : TJ} (h : Cp n I J K L) (v : Int32) : Bo (fX4_exact v I J) (fX5_exact v K L) := by
  have hn := h.n16
  unfold fX4_exact fX5_exact
  rcases ix3 v n hn with hv | ⟨k, hk, rfl⟩
  · rw [hasX0 h.x hv, valM0 h.m hn hv, bnd_eq, bnd_eq, if_pos rfl, if_pos rfl]
    exact Bo.mk h rfl rfl
  · obtain ⟨I', J', L', a1, a2, a3, a4, a5, a6, a7⟩ := runB h hk
    rw [hasX1 h.x hn hk, valM1 h.m hn hk, bnd_eq, bnd_eq, if_neg o10, if_neg o10, a1, a2, bnd_eq, bnd_eq, if_pos (nok (by omega)), if_pos (nok (by omega)), ncl (by omega), a4, a6]
    exact Bo.mk a3 rfl rfl
theorem op_tuned {n : Nat} {I : TI} {J : TJ} {K : TI} {L : TJ} (h : Cp n I J K L) (v : Int32) : Bo (fX4_tuned v I J) (fX5_tuned v K L) := by
  have hn := h.n16
  unfold fX4_tuned fX5_tuned
  rcases ix3 v n hn with hv | ⟨k, hk, rfl⟩
  · rw [hasX0 h.x hv, valM0 h.m hn hv, bnd_eq, bnd_eq, if_pos rfl, if_pos rfl]
    exact Bo.mk h rfl rfl
  · obtain ⟨I', J', L', a1, a2, a3, a4, a5, a6, a7⟩ := runB h hk
    rw [hasX1 h.x hn hk, valM1 h.m hn hk, bnd_eq, bnd_eq, if_neg o10, if_neg o10, a1, a2, bnd_eq, bnd_eq, if_pos (nok (by omega)), if_pos (nok (by omega)), ncl (by omega), a5, a7]
    exact Bo.mk a3 rfl rfl
theorem op_miss {n : Nat} {I : TI} {J : TJ} {K : TI} {L : TJ} (h : Cp n I J K L) (v : Int32) : Bo (fX4_miss v I J) (fX5_miss v K L) := by
  have hn := h.n16
  unfold fX4_miss fX5_miss
  rcases ix3 v n hn with hv | ⟨k, hk, rfl⟩
  · rw [hasX0 h.x hv, valM0 h.m hn hv, bnd_eq, bnd_eq, if_pos rfl, if_pos rfl]
    exact Bo.mk h rfl rfl
  · obtain ⟨I', J', L', a1, a2, a3, a4, a5, a6, a7⟩ := runB h hk
    rw [hasX1 h.x hn hk, valM1 h.m hn hk, bnd_eq, bnd_eq, if_neg o10, if_neg o10, a1, bnd_eq]
    unfold fX5_missNow fX1_missOf
    rw [a2, bnd_eq, if_pos (nok (by omega)), if_pos (nok (by omega)), ncl (by omega), amtM, bnd_eq, bnd_eq, bnd_eq, a4, a5, a6, a7]
    exact Bo.mk a3 rfl rfl
-- rows
def sz (I : TI) (k : Nat) : Nat := (((I 2 k).toInt - (I 1 k).toInt) / 4096).toNat + 1
def prd (I : TI) : Nat → Nat
  | 0 => 1
  | k + 1 => if I 0 k = 0 then prd I k * sz I k else prd I k
theorem prd_mono (I : TI) : ∀ d i, prd I i ≤ prd I (i + d) := by
  intro d
  induction d with
  | zero => intro i; exact Nat.le_refl _
  | succ d ih =>
    intro i
    refine Nat.le_trans (ih i) ?_
    show _ ≤ (if I 0 (i + d) = 0 then prd I (i + d) * sz I (i + d) else prd I (i + d))
    split
    · exact Nat.le_mul_of_pos_right _ (by unfold sz; omega)
    · exact Nat.le_refl _
theorem prd_pos (I : TI) (i : Nat) : 1 ≤ prd I i := by have := prd_mono I i 0; rw [Nat.zero_add] at this; exact this
theorem prd_cong {I K : TI} : ∀ n, (∀ k, k < n → K 0 k = I 0 k ∧ K 1 k = I 1 k ∧ K 2 k = I 2 k) → prd K n = prd I n := by
  intro n
  induction n with
  | zero => intro _; rfl
  | succ n ih =>
    intro h
    obtain ⟨h0, h1, h2⟩ := h n (by omega)
    show (if K 0 n = 0 then prd K n * sz K n else prd K n) = (if I 0 n = 0 then prd I n * sz I n else prd I n)
    rw [ih (fun k hk => h k (by omega)), h0]
    unfold sz
    rw [h1, h2]
theorem lN_lit (n : Nat) : (lN n).toInt = (Int64.ofNat n).toInt := rfl
theorem sizeJ {n : Nat} {I : TI} {J : TJ} (h : Ok n I J) {k : Nat} (hk : k < n) (h0 : I 0 k = 0) : (J 1 k - J 0 k) / 4096 + 1 = lN (sz I k) ∧ sz I k ≤ 2049 := by
  rcases (h.2 k hk).1 with q | q
  · obtain ⟨q1, q2, q3, _⟩ := q
    rcases q1 with ⟨_, b1, b2, b3, _⟩ | ⟨b0, _⟩
    · obtain ⟨n1, n2, n3⟩ := q2
      obtain ⟨m1, m2, m3⟩ := b1
      have s1 : (J 1 k - J 0 k).toInt = (I 2 k).toInt - (I 1 k).toInt := by
        rw [b3, q3, s64, w64, w64] <;> rw [w64, w64] <;> omega
      have s2 : ((J 1 k - J 0 k) / 4096).toInt = ((I 2 k).toInt - (I 1 k).toInt) / 4096 := by
        rw [div64 (p := 4096) rfl (by decide), s1, Int.tdiv_eq_ediv_of_nonneg (by omega)]
      have o1 : (1 : Int64).toInt = 1 := rfl
      have s3 : sz I k ≤ 2049 := by unfold sz; omega
      refine ⟨q64 ?_, s3⟩
      rw [a64 (by rw [s2, o1]; omega) (by rw [s2, o1]; omega), s2, o1, pk_lT (by omega)]
      unfold sz; omega
    · exact absurd (b0.symm.trans h0) (by decide)
  · exact absurd (Or.inl h0) q.ngv
theorem rowsX {n : Nat} {I : TI} {J : TJ} (ho : Ok n I J) (h : I 12 0 = nI n) : ∀ d i, i + d = n → ∀ m, d < m → prd I i < 1000000000000 → fX1_rowsInAll_4 m (lN (prd I i)) (nI i) I J = some (nI (min 1000000 (prd I n)), I, J) := by
  have hn := ho.1
  have e6 : (1000000 : Int64) = lN 1000000 := rfl
  have fin : ∀ p, p < 1000000000000 → fX1_rowsInAll_68 (lN p) I J = some (nI (min 1000000 p), I, J) := by
    intro p hp
    unfold fX1_rowsInAll_68
    by_cases c : (1000000 : Int64) < lN p
    · rw [if_pos c]
      rw [e6, pk_lLT (by omega) (by omega)] at c
      rw [Nat.min_eq_left (by omega)]; rfl
    · rw [if_neg c, lN_i]
      rw [e6, pk_lLT (by omega) (by omega)] at c
      rw [Nat.min_eq_right (by omega)]
  intro d
  induction d with
  | zero =>
    intro i hi m hm hp
    obtain ⟨m, rfl⟩ : ∃ m', m = m' + 1 := ⟨m - 1, by omega⟩
    rw [eX1_rowsInAll_4, h, if_pos (by rw [nle (by omega) (by omega)]; omega), fin _ hp, show i = n by omega]
  | succ d ih =>
    intro i hi m hm hp
    obtain ⟨m, rfl⟩ : ∃ m', m = m' + 1 := ⟨m - 1, by omega⟩
    rw [eX1_rowsInAll_4, h, if_neg (by rw [nle (by omega) (by omega)]; omega)]
    by_cases c : (1000000 : Int64) ≤ lN (prd I i)
    · rw [if_pos c, fin _ hp]
      rw [e6, pk_lLE (by omega) (by omega)] at c
      have := prd_mono I (d + 1) i
      rw [show i + (d + 1) = n by omega] at this
      rw [Nat.min_eq_left (by omega), Nat.min_eq_left (by omega)]
    · rw [if_neg c, if_pos (nok (by omega)), ncl (by omega), nsc]
      rw [e6, pk_lLE (by omega) (by omega)] at c
      by_cases g : I 0 i = 0
      · obtain ⟨s1, s2⟩ := sizeJ ho (show i < n by omega) g
        have e : prd I (i + 1) = prd I i * sz I i := by show (if I 0 i = 0 then _ else _) = _; rw [if_pos g]
        rw [if_pos g, s1, lN_mul, ← e]
        refine ih (i + 1) (by omega) m (by omega) ?_
        rw [e]
        have := Nat.mul_le_mul (show prd I i ≤ 1000000 by omega) s2
        omega
      · have e : prd I (i + 1) = prd I i := by show (if I 0 i = 0 then _ else _) = _; rw [if_neg g]
        rw [if_neg g, ← e]
        exact ih (i + 1) (by omega) m (by omega) (by rw [e]; exact hp)
theorem rwX {n : Nat} {I : TI} {J : TJ} (ho : Ok n I J) (h : I 12 0 = nI n) : fX1_rowsInAll I J = some (nI (min 1000000 (prd I n)), I, J) := rowsX ho h n 0 (by omega) fuel (by have := ho.1; unfold fuel; omega) (by show 1 < _; omega)
theorem rowsM {n : Nat} {K : TI} {L : TJ} (ho : Ok n K L) (h : K 13 0 = nI n) : ∀ d i, i + d = n → ∀ m, d < m → fX5_rows_4 m (lN (min 1000000 (prd K i))) (nI i) K L = some (nI (min 1000000 (prd K n)), K, L) := by
  have hn := ho.1
  have e6 : (1000000 : Int64) = lN 1000000 := rfl
  intro d
  induction d with
  | zero =>
    intro i hi m hm
    obtain ⟨m, rfl⟩ : ∃ m', m = m' + 1 := ⟨m - 1, by omega⟩
    rw [eX5_rows_4, h, if_pos (by rw [nle (by omega) (by omega)]; omega), show i = n by omega, lN_i]
  | succ d ih =>
    intro i hi m hm
    obtain ⟨m, rfl⟩ : ∃ m', m = m' + 1 := ⟨m - 1, by omega⟩
    rw [eX5_rows_4, h, if_neg (by rw [nle (by omega) (by omega)]; omega), if_pos (nok (by omega)), ncl (by omega), nsc]
    by_cases g : K 0 i = 0
    · obtain ⟨s1, s2⟩ := sizeJ ho (show i < n by omega) g
      have e : prd K (i + 1) = prd K i * sz K i := by show (if K 0 i = 0 then _ else _) = _; rw [if_pos g]
      have z1 : 1 ≤ sz K i := by unfold sz; omega
      rw [if_pos g, s1, lN_mul, minM, bnd_eq]
      have bd := Nat.mul_le_mul (Nat.min_le_left 1000000 (prd K i)) s2
      have key : (if lN (min 1000000 (prd K i) * sz K i) < (1000000 : Int64) then lN (min 1000000 (prd K i) * sz K i) else 1000000) = lN (min 1000000 (prd K (i + 1))) := by
        rw [e]
        by_cases c : lN (min 1000000 (prd K i) * sz K i) < (1000000 : Int64)
        · rw [if_pos c]
          rw [e6, pk_lLT (by omega) (by omega)] at c
          by_cases c2 : prd K i < 1000000
          · rw [Nat.min_eq_right (show prd K i ≤ 1000000 by omega)] at c ⊢
            rw [Nat.min_eq_right (show prd K i * sz K i ≤ 1000000 by omega)]
          · rw [Nat.min_eq_left (show 1000000 ≤ prd K i by omega)] at c
            have := Nat.mul_le_mul (Nat.le_refl 1000000) z1
            omega
        · rw [if_neg c]
          rw [e6, pk_lLT (by omega) (by omega)] at c
          have := Nat.mul_le_mul (Nat.min_le_right 1000000 (prd K i)) (Nat.le_refl (sz K i))
          rw [Nat.min_eq_left (show 1000000 ≤ prd K i * sz K i by omega)]; rfl
      rw [key]
      exact ih (i + 1) (by omega) m (by omega)
    · have e : prd K (i + 1) = prd K i := by show (if K 0 i = 0 then _ else _) = _; rw [if_neg g]
      rw [if_neg g, ← e]
      exact ih (i + 1) (by omega) m (by omega)
theorem rwsM {n : Nat} {K : TI} {L : TJ} (ho : Ok n K L) (h : K 13 0 = nI n) : fX5_rows K L = some (nI (min 1000000 (prd K n)), K, L) := rowsM ho h n 0 (by omega) fuel (by have := ho.1; unfold fuel; omega)
theorem Cp.prd {n : Nat} {I : TI} {J : TJ} {K : TI} {L : TJ} (h : Cp n I J K L) : prd K n = prd I n := prd_cong n (fun k hk => ⟨h.c hk (by decide), h.c hk (by decide), h.c hk (by decide)⟩)
theorem op_rows {n : Nat} {I : TI} {J : TJ} {K : TI} {L : TJ} (h : Cp n I J K L) : Bo (fX4_rows I J) (fX5_rows K L) := by
  unfold fX4_rows
  rw [rwX h.1 h.x, bnd_eq, rwsM h.okM h.m, h.prd]
  exact Bo.mk h rfl rfl
