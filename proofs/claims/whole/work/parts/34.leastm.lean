/-! least: the model's counting on -/
def enc (acc : Acc) : Int32 := match acc with
  | none => -1
  | some (p, _) => nI p
def RM (n : Nat) (K0 : TI) (L0 : TJ) (t : Nat → Int32) (acc : Acc) (K : TI) (L : TJ) : Prop :=
  (∀ c, c ≠ 4 → c ≠ 12 → K c = K0 c) ∧ (∀ c, c ≠ 2 → L c = L0 c) ∧ (∀ k, k < n → K 4 k = t k) ∧ ∀ p c, acc = some (p, c) → ∀ k, k < n → K 12 k = c k
/-- of a program with bits t: all given ones have 16, the others at most 16 -/
def okt (n : Nat) (I : TI) (t : Nat → Int32) : Prop := ∀ k, k < n → if gvn I k then t k = 16 else ∃ f, f ≤ 16 ∧ t k = nI f
theorem okt.tv {n : Nat} {I : TI} {t : Nat → Int32} (h : okt n I t) : tv I t n := fun k hk hg => by have := h k hk; rw [if_neg hg] at this; exact this
theorem enc_ne {p : Nat} (hp : p ≤ 25600) : ¬ nI p = -1 := by
  intro e
  have := congrArg Int32.toInt e
  rw [nI_toInt (by omega)] at this
  have e1 : (-1 : Int32).toInt = -1 := rfl
  omega
theorem leafM {n : Nat} {I : TI} {J : TJ} {K0 : TI} {L0 : TJ} (h0 : Cp n I J K0 L0) {v : Nat} (hv : v < n) {mm : Int64} {t : Nat → Int32} {acc : Acc} {K : TI} {L : TJ} (h : RM n K0 L0 t acc K L) (ht : okt n I t) (ha : aOK acc) (F : Nat) : ∃ K' L', fX5_least_48 (F + 1) (nI v) mm (enc acc) 1 K L = bnd (fX5_choosesOn K' L') (fun q K L => fX5_least_48 F (nI v) mm (enc (leafU n I J v mm acc t)) q K L) ∧ RM n K0 L0 t (leafU n I J v mm acc t) K' L' := by
  have hn := h0.n16
  obtain ⟨a1, a2, a3, a4⟩ := h
  obtain ⟨L1, b1, b2⟩ := h0.bdM2 (K' := K) (L' := L) (fun c hc c4 => a1 c c4 (by omega)) (fun k hk => by rw [a3 k hk]; exact ht k hk) (fun c hc => a2 c (by omega)) hv
  have be : bd I J (K 4) v = bd I J t v := bd_cong h0.1 (fun _ _ => ⟨rfl, rfl, rfl, rfl⟩) (fun _ _ => ⟨rfl, rfl⟩) (fun k hk _ => a3 k hk) hv
  rw [be] at b1
  have l1 : ∀ c, c ≠ 2 → L1 c = L0 c := fun c hc => by rw [b2 c hc]; exact a2 c hc
  have k13 : K 13 0 = nI n := by rw [a1 13 (by decide) (by decide)]; exact h0.m
  have okK : Ok n K L1 := by
    have oM := h0.okM
    obtain ⟨v1, v2⟩ := oM.valid
    refine oM.set (fun k hk c hc => by rw [a1 c (by omega) (by omega)]) (fun k hk _ => by rw [a1 7 (by decide) (by decide)]) (fun k hk => by rw [l1 0 (by decide)]) (fun k hk => by rw [l1 1 (by decide)]) (fun k hk hg => ?_) (fun k hk hg => ?_)
    · obtain ⟨_, b, c⟩ := v1 k hk hg
      have := ht k hk
      rw [if_pos ((gvn_c h0 hk).mp hg)] at this
      exact ⟨by rw [a3 k hk]; exact this, by rw [a1 5 (by decide) (by decide)]; exact b, by rw [a1 6 (by decide) (by decide)]; exact c⟩
    · obtain ⟨_, b, c⟩ := v2 k hk hg
      have := ht k hk
      rw [if_neg (fun z => hg ((gvn_c h0 hk).mpr z))] at this
      exact ⟨by rw [a3 k hk]; exact this, by rw [a1 5 (by decide) (by decide)]; exact b, by rw [a1 6 (by decide) (by decide)]; exact c⟩
  have pr : fX5_price K L1 = some (nI (pn I t n), K, L1) := by
    rw [prM okK k13]
    have e1 : prF K (K 4) n = prF I t n := prF_cong n (fun k hk => ⟨by rw [a1 0 (by decide) (by decide)]; exact h0.c hk (by decide), by rw [a1 6 (by decide) (by decide)]; exact h0.c hk (by decide), a3 k hk⟩)
    rw [e1, (pr_pn h0.1 n (Nat.le_refl n) ht.tv).1]
  have hp := (pr_pn h0.1 n (Nat.le_refl n) ht.tv).2
  obtain ⟨K2, s1, s2, s3⟩ := savBM (L := L1) k13 hn
  have rm2 : ∀ p, RM n K0 L0 t (some (p, t)) K2 L1 := fun p => ⟨fun c c4 c12 => by rw [s2 c c12]; exact a1 c c4 c12, l1, fun k hk => by rw [s2 4 (by decide)]; exact a3 k hk, fun q c e k hk => by
    have e2 : t = c := by injection e with e; injection e
    rw [s3 k hk, a3 k hk, e2]⟩
  have rm1 : RM n K0 L0 t acc K L1 := ⟨a1, l1, a3, a4⟩
  rw [eX5_least_48, if_neg o10, b1, bnd_eq]
  unfold leafU
  by_cases cb : bd I J t v ≤ mm
  · rw [if_neg (show ¬ mm < bd I J t v by rw [lt64]; rw [le64] at cb; omega), if_pos cb]
    rcases acc with _ | ⟨p, c⟩
    · refine ⟨K2, L1, ?_, rm2 _⟩
      rw [if_pos (show enc none = -1 from rfl)]
      unfold fX5_least_78 fX5_least_92
      rw [pr, bnd_eq, s1, bnd_eq]
      rfl
    · have hpp := ha p c rfl
      have ee : enc (some (p, c)) = nI p := rfl
      rw [ee, if_neg (enc_ne hpp), pr, bnd_eq]
      by_cases cp : pn I t n < p
      · refine ⟨K2, L1, ?_, ?_⟩
        · rw [if_neg (show ¬ nI p ≤ nI (pn I t n) by rw [nI_leI (by omega) (by omega)]; omega)]
          show fX5_least_78 _ _ _ _ _ = bnd _ (fun q K L => fX5_least_48 F (nI v) mm (enc (if pn I t n < p then some (pn I t n, t) else some (p, c))) q K L)
          rw [if_pos cp]
          unfold fX5_least_78 fX5_least_92
          rw [pr, bnd_eq, s1, bnd_eq]
          rfl
        · show RM n K0 L0 t (if pn I t n < p then some (pn I t n, t) else some (p, c)) K2 L1
          rw [if_pos cp]; exact rm2 _
      · refine ⟨K, L1, ?_, ?_⟩
        · rw [if_pos (show nI p ≤ nI (pn I t n) by rw [nI_leI (by omega) (by omega)]; omega)]
          show fX5_least_92 _ _ _ _ _ _ = bnd _ (fun q K L => fX5_least_48 F (nI v) mm (enc (if pn I t n < p then some (pn I t n, t) else some (p, c))) q K L)
          rw [if_neg cp]
          rfl
        · show RM n K0 L0 t (if pn I t n < p then some (pn I t n, t) else some (p, c)) K L1
          rw [if_neg cp]; exact rm1
  · rw [if_pos (show mm < bd I J t v by rw [lt64]; rw [le64] at cb; omega), if_neg cb]
    exact ⟨K, L1, rfl, rm1⟩
-- counting on
def ixm (i : Nat) : Int32 := nI i + (-1 : Int32)
theorem ixm_s (i : Nat) : ixm (i + 1) = nI i := pk_m1 i
theorem chF (L : TJ) : ∀ i, i ≤ 16 → ∀ m m' K, i < m → i < m' → fX5_choosesOn_7 m (ixm i) K L = fX5_choosesOn_7 m' (ixm i) K L := by
  intro i
  induction i with
  | zero =>
    intro _ m m' K hm hm'
    obtain ⟨m, rfl⟩ : ∃ q, m = q + 1 := ⟨m - 1, by omega⟩
    obtain ⟨m', rfl⟩ : ∃ q, m' = q + 1 := ⟨m' - 1, by omega⟩
    have e : ixm 0 < 0 := by decide
    rw [eX5_choosesOn_7, eX5_choosesOn_7, if_pos e, if_pos e]
  | succ i ih =>
    intro hi m m' K hm hm'
    obtain ⟨m, rfl⟩ : ∃ q, m = q + 1 := ⟨m - 1, by omega⟩
    obtain ⟨m', rfl⟩ : ∃ q, m' = q + 1 := ⟨m' - 1, by omega⟩
    have r : ∀ K, fX5_choosesOn_32 (fX5_choosesOn_7 m) (nI i) K L = fX5_choosesOn_32 (fX5_choosesOn_7 m') (nI i) K L := by
      intro K
      unfold fX5_choosesOn_32
      have e : nI i + (-1 : Int32) = ixm i := rfl
      rw [e, ih (by omega) m m' _ (by omega) (by omega), ih (by omega) m m' _ (by omega) (by omega)]
    rw [ixm_s, eX5_choosesOn_7, eX5_choosesOn_7, r]
def Sc (K : TI) (L : TJ) (i : Nat) : Option (Int32 × SS) := fX5_choosesOn_7 (i + 1) (ixm i) K L
theorem Sc_0 (K : TI) (L : TJ) : Sc K L 0 = some (0, K, L) := by
  unfold Sc
  rw [eX5_choosesOn_7, if_pos (by decide)]
  unfold fX5_choosesOn_60
  rw [if_neg (by decide)]
theorem Sc_s {n : Nat} {K : TI} {L : TJ} (kd : K 0 = K 0) {i : Nat} (hi : i < 16) (hk : K 0 i ≤ 1 ↔ gvn K i) : Sc K L (i + 1) = if gvn K i then Sc (uI K 4 i 16) L i else if K 4 i = 16 then Sc (uI K 4 i 0) L i else some (1, uI K 4 i (K 4 i + 4), L) := by
  unfold Sc
  rw [eX5_choosesOn_7, ixm_s, if_neg (nI_pos (by omega)), if_pos (nok hi), ncl (by omega)]
  have e : nI i + (-1 : Int32) = ixm i := rfl
  have r : fX5_choosesOn_32 (fX5_choosesOn_7 (i + 1)) (nI i) K L = if gvn K i then fX5_choosesOn_7 (i + 1) (ixm i) (uI K 4 i 16) L else fX5_choosesOn_7 (i + 1) (ixm i) (uI K 4 i 0) L := by
    unfold fX5_choosesOn_32
    rw [if_pos (nok hi), ncl (by omega), e]
    by_cases g : gvn K i
    · rw [if_pos (hk.mpr g), if_pos g]
    · rw [if_neg (fun z => g (hk.mp z)), if_neg g]
  by_cases g : gvn K i
  · rw [if_pos (hk.mpr g), if_pos g, r, if_pos g]
  · rw [if_neg (fun z => g (hk.mp z)), if_neg g]
    by_cases c : K 4 i = 16
    · rw [if_pos c, if_pos c, r, if_neg g]
    · rw [if_neg c, if_neg c]
      unfold fX5_choosesOn_60
      rw [if_pos (nI_pos' (by omega)), if_pos (nok hi), ncl (by omega)]
theorem chOn {n : Nat} {K : TI} {L : TJ} (h : K 13 0 = nI n) (hn : n ≤ 16) : fX5_choosesOn K L = Sc K L n := by
  unfold fX5_choosesOn Sc
  have e : K 13 0 - 1 = ixm n := by rw [h]; unfold ixm; exact Int32.sub_eq_add_neg _ _
  rw [e]
  exact chF L n hn _ _ K (by unfold fuel; omega) (by omega)
theorem srch_ok {n : Nat} {I : TI} {J : TJ} (h : Ok n I J) {v : Nat} {mm : Int64} : ∀ d i, i + d = n → ∀ t acc, okt n I t → aOK acc → aOK (srch n I J v mm d i t acc) := by
  intro d
  induction d with
  | zero => intro i hi t acc ht ha; exact leaf_ok h ht.tv ha
  | succ d ih =>
    intro i hi t acc ht ha
    show aOK (if gvn I i then _ else _)
    have e : ∀ f : Nat, f ≤ 16 → (gvn I i → f = 16) → okt n I (upd t i (nI f)) := by
      intro f hf hg k hk
      by_cases c : k = i
      · subst c
        rw [upd_eq]
        split
        · rename_i z; rw [hg z]; rfl
        · exact ⟨f, hf, rfl⟩
      · rw [upd_ne c]; exact ht k hk
    split
    · exact ih (i + 1) (by omega) _ _ (e 16 (by omega) (fun _ => rfl)) ha
    · rename_i g
      exact ih (i + 1) (by omega) _ _ (e 16 (by omega) (fun z => absurd z g)) (ih (i + 1) (by omega) _ _ (e 12 (by omega) (fun z => absurd z g)) (ih (i + 1) (by omega) _ _ (e 8 (by omega) (fun z => absurd z g)) (ih (i + 1) (by omega) _ _ (e 4 (by omega) (fun z => absurd z g)) (ih (i + 1) (by omega) _ _ (e 0 (by omega) (fun z => absurd z g)) ha))))
theorem upd_self {t : Nat → Int32} {i : Nat} {x : Int32} (h : t i = x) : upd t i x = t := by
  funext j
  show (if j = i then x else t j) = t j
  by_cases e : j = i
  · rw [if_pos e, e, h]
  · rw [if_neg e]
theorem upd_upd {t : Nat → Int32} {i : Nat} {x y : Int32} : upd (upd t i x) i y = upd t i y := by
  funext j
  show (if j = i then y else (if j = i then x else t j)) = (if j = i then y else t j)
  by_cases e : j = i
  · rw [if_pos e, if_pos e]
  · rw [if_neg e, if_neg e, if_neg e]
def fst (I : TI) (k : Nat) : Int32 := if gvn I k then 16 else 0
theorem RM.put {n : Nat} {K0 : TI} {L0 : TJ} {t : Nat → Int32} {acc : Acc} {K : TI} {L : TJ} (h : RM n K0 L0 t acc K L) (i : Nat) (x : Int32) : RM n K0 L0 (upd t i x) acc (uI K 4 i x) L := by
  obtain ⟨a1, a2, a3, a4⟩ := h
  refine ⟨fun c c4 c12 => by show sI K 4 _ c = _; rw [sI_ne c4]; exact a1 c c4 c12, a2, fun k hk => ?_, fun p c e k hk => by show sI K 4 _ 12 k = _; rw [sI_ne (by decide)]; exact a4 p c e k hk⟩
  show (if k = i then x else K 4 k) = (if k = i then x else t k)
  rw [a3 k hk]
theorem countM' {n : Nat} {I : TI} {J : TJ} {K0 : TI} {L0 : TJ} (h0 : Cp n I J K0 L0) {v : Nat} (hv : v < n) (mm : Int64) : ∀ d i, i + d = n → ∀ (t : Nat → Int32) (acc : Acc) (K : TI) (L : TJ) (F : Nat), RM n K0 L0 t acc K L → aOK acc → okt n I t → (∀ k, i ≤ k → k < n → t k = fst I k) → ∃ K' L', fX5_least_48 (F + lvs I d i) (nI v) mm (enc acc) 1 K L = bnd (Sc K' L' i) (fun q K L => fX5_least_48 F (nI v) mm (enc (srch n I J v mm d i t acc)) q K L) ∧ RM n K0 L0 t (srch n I J v mm d i t acc) K' L' := by
  have hn := h0.n16
  intro d
  induction d with
  | zero =>
    intro i hi t acc K L F h ha ht hf
    obtain ⟨K', L', e, r⟩ := leafM h0 hv (mm := mm) h ht ha F
    have hin : i = n := by omega
    subst hin
    have k13 : K' 13 0 = nI i := by rw [r.1 13 (by decide) (by decide)]; exact h0.m
    rw [chOn k13 hn] at e
    exact ⟨K', L', e, r⟩
  | succ d ih =>
    intro i hi t acc K L F h ha ht hf
    have hin : i < n := by omega
    have scs : ∀ (K : TI) (L : TJ), (∀ c, c ≠ 4 → c ≠ 12 → K c = K0 c) → Sc K L (i + 1) = if gvn I i then Sc (uI K 4 i 16) L i else if K 4 i = 16 then Sc (uI K 4 i 0) L i else some (1, uI K 4 i (K 4 i + 4), L) := by
      intro K L a1
      have g1 : gvn K i ↔ gvn I i := by
        rw [← gvn_c h0 hin]; unfold gvn; rw [a1 0 (by decide) (by decide)]
      have kd : K 0 i ≤ 1 ↔ gvn K i := by
        have := h0.okM.kd hin
        rw [a1 0 (by decide) (by decide)]
        unfold gvn
        rw [a1 0 (by decide) (by decide)]
        exact this
      rw [Sc_s (n := n) rfl (by omega) kd]
      by_cases g : gvn I i
      · rw [if_pos g, if_pos (g1.mpr g)]
      · rw [if_neg g, if_neg (fun z => g (g1.mp z))]
    by_cases g : gvn I i
    · have t16 : t i = 16 := by rw [hf i (Nat.le_refl i) hin]; unfold fst; rw [if_pos g]
      have es : srch n I J v mm (d + 1) i t acc = srch n I J v mm d (i + 1) t acc := by
        show (if gvn I i then _ else _) = _
        rw [if_pos g, upd_self t16]
      have el : lvs I (d + 1) i = lvs I d (i + 1) := by
        show (if gvn I i then _ else _) = _
        rw [if_pos g]
      obtain ⟨K', L', e, r⟩ := ih (i + 1) (by omega) t acc K L F h ha ht (fun k hk1 hk2 => hf k (by omega) hk2)
      rw [es, el, e, scs K' L' r.1, if_pos g]
      refine ⟨uI K' 4 i 16, L', rfl, ?_⟩
      have := r.put i 16
      rw [upd_self t16] at this
      exact this
    · have t0 : t i = 0 := by rw [hf i (Nat.le_refl i) hin]; unfold fst; rw [if_neg g]
      have el : lvs I (d + 1) i = 5 * lvs I d (i + 1) := by
        show (if gvn I i then _ else _) = _
        rw [if_neg g]
      have okx_ : ∀ f : Nat, f ≤ 16 → okt n I (upd t i (nI f)) := by
        intro f hf16 k hk
        by_cases c : k = i
        · subst c; rw [upd_eq, if_neg g]; exact ⟨f, hf16, rfl⟩
        · rw [upd_ne c]; exact ht k hk
      have ff : ∀ x k, i + 1 ≤ k → k < n → upd t i x k = fst I k := fun x k hk1 hk2 => by rw [upd_ne (by omega)]; exact hf k (by omega) hk2
      -- one width, and on to the next
      have one : ∀ (f : Nat) (acc : Acc) (K : TI) (L : TJ) (F : Nat), f < 16 → f + 4 ≤ 16 → RM n K0 L0 (upd t i (nI f)) acc K L → aOK acc → ∃ K' L', fX5_least_48 (F + lvs I d (i + 1)) (nI v) mm (enc acc) 1 K L = fX5_least_48 F (nI v) mm (enc (srch n I J v mm d (i + 1) (upd t i (nI f)) acc)) 1 K' L' ∧ RM n K0 L0 (upd t i (nI (f + 4))) (srch n I J v mm d (i + 1) (upd t i (nI f)) acc) K' L' := by
        intro f acc K L F f1 f2 h ha
        obtain ⟨K', L', e, r⟩ := ih (i + 1) (by omega) (upd t i (nI f)) acc K L F h ha (okx_ f (by omega)) (ff _)
        have k4 : K' 4 i = nI f := by rw [r.2.2.1 i hin, upd_eq]
        have e4 : nI f + (4 : Int32) = nI (f + 4) := nI_add f 4
        rw [e, scs K' L' r.1, if_neg g, if_neg (by rw [k4, n16E (by omega)]; omega), bnd_eq, k4, e4]
        refine ⟨_, L', rfl, ?_⟩
        have := r.put i (nI (f + 4))
        rw [upd_upd] at this
        exact this
      have h' : RM n K0 L0 (upd t i (nI 0)) acc K L := by rw [upd_self (show t i = nI 0 from t0)]; exact h
      obtain ⟨K1, L1, e1, r1⟩ := one 0 acc K L (F + 4 * lvs I d (i + 1)) (by omega) (by omega) h' ha
      have o1 := srch_ok h0.1 (v := v) (mm := mm) d (i + 1) (by omega) _ _ (okx_ 0 (by omega)) ha
      obtain ⟨K2, L2, e2, r2⟩ := one 4 _ K1 L1 (F + 3 * lvs I d (i + 1)) (by omega) (by omega) r1 o1
      have o2 := srch_ok h0.1 (v := v) (mm := mm) d (i + 1) (by omega) _ _ (okx_ 4 (by omega)) o1
      obtain ⟨K3, L3, e3, r3⟩ := one 8 _ K2 L2 (F + 2 * lvs I d (i + 1)) (by omega) (by omega) r2 o2
      have o3 := srch_ok h0.1 (v := v) (mm := mm) d (i + 1) (by omega) _ _ (okx_ 8 (by omega)) o2
      obtain ⟨K4, L4, e4, r4⟩ := one 12 _ K3 L3 (F + 1 * lvs I d (i + 1)) (by omega) (by omega) r3 o3
      have o4 := srch_ok h0.1 (v := v) (mm := mm) d (i + 1) (by omega) _ _ (okx_ 12 (by omega)) o3
      obtain ⟨K5, L5, e5, r5⟩ := ih (i + 1) (by omega) (upd t i (nI 16)) _ K4 L4 F r4 o4 (okx_ 16 (by omega)) (ff _)
      have es : srch n I J v mm (d + 1) i t acc = srch n I J v mm d (i + 1) (upd t i (nI 16)) (srch n I J v mm d (i + 1) (upd t i (nI 12)) (srch n I J v mm d (i + 1) (upd t i (nI 8)) (srch n I J v mm d (i + 1) (upd t i (nI 4)) (srch n I J v mm d (i + 1) (upd t i (nI 0)) acc)))) := by
        show (if gvn I i then _ else _) = _
        rw [if_neg g]; rfl
      have f1 : F + lvs I (d + 1) i = F + 4 * lvs I d (i + 1) + lvs I d (i + 1) := by rw [el]; omega
      have f2 : F + 4 * lvs I d (i + 1) = F + 3 * lvs I d (i + 1) + lvs I d (i + 1) := by omega
      have f3 : F + 3 * lvs I d (i + 1) = F + 2 * lvs I d (i + 1) + lvs I d (i + 1) := by omega
      have f4 : F + 2 * lvs I d (i + 1) = F + 1 * lvs I d (i + 1) + lvs I d (i + 1) := by omega
      have f5 : F + 1 * lvs I d (i + 1) = F + lvs I d (i + 1) := by omega
      have k5 : K5 4 i = 16 := by rw [r5.2.2.1 i hin, upd_eq]; rfl
      rw [es, f1, e1, f2, e2, f3, e3, f4, e4, f5, e5, scs K5 L5 r5.1, if_neg g, if_pos k5]
      refine ⟨uI K5 4 i 0, L5, rfl, ?_⟩
      have := r5.put i 0
      rw [upd_upd, upd_self t0] at this
      exact this
