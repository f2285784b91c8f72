/-! least: the class's search and the model's counting on, both tied to one search -/
def pn (I : TI) (t : Nat → Int32) : Nat → Nat
  | 0 => 0
  | k + 1 => pn I t k + (if gvn I k then 0 else (I 6 k).toNatClampNeg * (t k).toNatClampNeg)
abbrev Acc : Type := Option (Nat × (Nat → Int32))
def leafU (n : Nat) (I : TI) (J : TJ) (v : Nat) (mm : Int64) (acc : Acc) (t : Nat → Int32) : Acc :=
  if bd I J t v ≤ mm then (match acc with
    | none => some (pn I t n, t)
    | some (p, c) => if pn I t n < p then some (pn I t n, t) else some (p, c)) else acc
def srch (n : Nat) (I : TI) (J : TJ) (v : Nat) (mm : Int64) : Nat → Nat → (Nat → Int32) → Acc → Acc
  | 0, _, t, acc => leafU n I J v mm acc t
  | d + 1, i, t, acc => if gvn I i then srch n I J v mm d (i + 1) (upd t i 16) acc else srch n I J v mm d (i + 1) (upd t i 16) (srch n I J v mm d (i + 1) (upd t i 12) (srch n I J v mm d (i + 1) (upd t i 8) (srch n I J v mm d (i + 1) (upd t i 4) (srch n I J v mm d (i + 1) (upd t i 0) acc))))
def lvs (I : TI) : Nat → Nat → Nat
  | 0, _ => 1
  | d + 1, i => if gvn I i then lvs I d (i + 1) else 5 * lvs I d (i + 1)
theorem pn_cong {I : TI} {t t' : Nat → Int32} : ∀ i, (∀ k, k < i → t' k = t k) → pn I t' i = pn I t i := by
  intro i
  induction i with
  | zero => intro _; rfl
  | succ i ih =>
    intro h
    show pn I t' i + _ = pn I t i + _
    rw [ih (fun k hk => h k (by omega)), h i (by omega)]
theorem pn_upd {I : TI} {t : Nat → Int32} {i : Nat} {x : Int32} : pn I (upd t i x) i = pn I t i := pn_cong i (fun k hk => upd_ne (by omega))
theorem pn_up1 {I : TI} {t : Nat → Int32} {i : Nat} {x : Int32} : pn I t i ≤ pn I (upd t i x) (i + 1) := by
  show _ ≤ pn I (upd t i x) i + _
  rw [pn_upd]; omega
abbrev tv (I : TI) (t : Nat → Int32) (i : Nat) : Prop := ∀ k, k < i → ¬ gvn I k → ∃ f, f ≤ 16 ∧ t k = nI f
theorem pr_pn {n : Nat} {I : TI} {J : TJ} (h : Ok n I J) {t : Nat → Int32} : ∀ i, i ≤ n → tv I t i → prF I t i = nI (pn I t i) ∧ pn I t i ≤ 1600 * i := by
  intro i
  induction i with
  | zero => intro _ _; exact ⟨rfl, by show 0 ≤ _; omega⟩
  | succ i ih =>
    intro hi ht
    obtain ⟨a, b⟩ := ih (by omega) (fun k hk => ht k (by omega))
    show prF I t i + (if gvn I i then 0 else I 6 i * t i) = nI (pn I t i + _) ∧ pn I t i + (if gvn I i then 0 else (I 6 i).toNatClampNeg * (t i).toNatClampNeg) ≤ _
    by_cases g : gvn I i
    · rw [if_pos g, if_pos g, a, a0]; exact ⟨rfl, by omega⟩
    · obtain ⟨f, hf, ef⟩ := ht i (by omega) g
      obtain ⟨_, _, w, hw, ew⟩ := h.valid.2 i (by omega) g
      have hm : w * f ≤ 100 * 16 := Nat.mul_le_mul hw hf
      rw [if_neg g, if_neg g, a, ef, ew, nI_clamp (by omega), nI_clamp (by omega), pk_mul, nI_add]
      exact ⟨rfl, by omega⟩
theorem bd_loc {n : Nat} {I : TI} {J : TJ} (h : Ok n I J) {t t' : Nat → Int32} {v : Nat} (hv : v < n) (e : ∀ k, k ≤ v → t' k = t k) : bd I J t' v = bd I J t v := by
  have o2 : Ok (v + 1) I J := ⟨by have := h.1; omega, fun k hk => h.2 k (by omega)⟩
  exact bd_cong o2 (fun _ _ => ⟨rfl, rfl, rfl, rfl⟩) (fun _ _ => ⟨rfl, rfl⟩) (fun k hk _ => e k (by omega)) (by omega)
theorem srch_no {n : Nat} {I : TI} {J : TJ} (h : Ok n I J) {v : Nat} (hv : v < n) {mm : Int64} : ∀ d i, i + d = n → v < i → ∀ t acc, ¬ bd I J t v ≤ mm → srch n I J v mm d i t acc = acc := by
  intro d
  induction d with
  | zero =>
    intro i hi hvi t acc hb
    show (if bd I J t v ≤ mm then _ else acc) = acc
    rw [if_neg hb]
  | succ d ih =>
    intro i hi hvi t acc hb
    have e : ∀ x acc, srch n I J v mm d (i + 1) (upd t i x) acc = acc := fun x acc => ih (i + 1) (by omega) (by omega) _ _ (by rw [bd_loc h hv (fun k hk => upd_ne (by omega))]; exact hb)
    show (if gvn I i then _ else _) = acc
    simp only [e, ite_self]
theorem srch_dear {n : Nat} {I : TI} {J : TJ} {v : Nat} {mm : Int64} {p : Nat} {c : Nat → Int32} : ∀ d i, i + d = n → ∀ t, p ≤ pn I t i → srch n I J v mm d i t (some (p, c)) = some (p, c) := by
  intro d
  induction d with
  | zero =>
    intro i hi t hp
    show (if bd I J t v ≤ mm then (if pn I t n < p then _ else _) else _) = _
    rw [show i = n by omega] at hp
    rw [if_neg (show ¬ pn I t n < p by omega)]
    split <;> rfl
  | succ d ih =>
    intro i hi t hp
    have e : ∀ x, srch n I J v mm d (i + 1) (upd t i x) (some (p, c)) = some (p, c) := fun x => ih (i + 1) (by omega) _ (Nat.le_trans hp pn_up1)
    show (if gvn I i then _ else _) = _
    simp only [e, ite_self]
def aOK (acc : Acc) : Prop := ∀ p c, acc = some (p, c) → p ≤ 25600
theorem leaf_ok {n : Nat} {I : TI} {J : TJ} (h : Ok n I J) {v : Nat} {mm : Int64} {acc : Acc} {t : Nat → Int32} (ht : tv I t n) (ha : aOK acc) : aOK (leafU n I J v mm acc t) := by
  have hp := (pr_pn h n (Nat.le_refl n) ht).2
  have hn := h.1
  intro p c e
  unfold leafU at e
  split at e
  · rcases acc with _ | ⟨p1, c1⟩
    · cases e; omega
    · have e' : (if pn I t n < p1 then some (pn I t n, t) else some (p1, c1)) = some (p, c) := e
      by_cases z : pn I t n < p1
      · rw [if_pos z] at e'; cases e'; omega
      · rw [if_neg z] at e'; exact ha p c e'
  · exact ha p c e
-- the class
def RX (n : Nat) (I0 : TI) (J0 : TJ) (i : Nat) (t : Nat → Int32) (acc : Acc) (I : TI) (J : TJ) : Prop :=
  (∀ c, c ≠ 10 → c ≠ 11 → c ≠ 12 → I c = I0 c) ∧ I 12 0 = nI n ∧ (∀ c, c ≠ 5 → J c = J0 c) ∧ (∀ k, k < i → I 10 k = t k) ∧ (∀ k, k < i → J 5 k = bd I0 J0 t k) ∧ (match acc with
    | none => I 12 1 = 2147483647
    | some (p, c) => I 12 1 = nI p ∧ p ≤ 25600 ∧ ∀ k, k < n → I 11 k = c k)
theorem chooseX {n : Nat} {I0 : TI} {J0 : TJ} (ho : Ok n I0 J0) (hR : ∀ k, k < n → J0 2 k = rch (J0 0 k) (J0 1 k)) {v : Nat} (hv : v < n) (mm : Int64) : ∀ d i, i + d = n → ∀ dep, d < dep → ∀ (t : Nat → Int32) (acc : Acc) (I : TI) (J : TJ), RX n I0 J0 i t acc I J → tv I0 t i → (v < i → bd I0 J0 t v ≤ mm) → ∃ I' J', fX3_choose dep (nI i) (nI (pn I0 t i)) (nI v) mm I J = some ((), I', J') ∧ RX n I0 J0 i t (srch n I0 J0 v mm d i t acc) I' J' := by
  have hn := ho.1
  have eM : (2147483647 : Int32).toInt = 2147483647 := rfl
  intro d
  induction d with
  | zero =>
    intro i hi dep hd t acc I J h ht hf
    obtain ⟨dep, rfl⟩ : ∃ q, dep = q + 1 := ⟨dep - 1, by omega⟩
    obtain ⟨a1, a2, a3, a4, a5, a6⟩ := h
    have hp := (pr_pn ho i (by omega) ht).2
    have hin : i = n := by omega
    subst hin
    show ∃ I' J', fX3_choose_0 (fX3_choose dep) (nI i) (nI (pn I0 t i)) (nI v) mm I J = _ ∧ _
    unfold fX3_choose_0
    -- the leaf itself
    have lay : ∃ I' J', (if nI i < I 12 0 then (if okx (nI i) then bnd (fX2_isGiven (nI i).toNatClampNeg I J) (fun q_4 I_4 J_4 => if q_4 = 0 then fX3_choose_69 (fX3_choose dep) (nI i) (nI (pn I0 t i)) (nI v) mm (nI i).toNatClampNeg (I_4 6 (nI i).toNatClampNeg) I_4 J_4 else fX3_choose_69 (fX3_choose dep) (nI i) (nI (pn I0 t i)) (nI v) mm (nI i).toNatClampNeg (0 : Int32) I_4 J_4) else none) else some ((), (sI (uI I 12 1 (nI (pn I0 t i))) 11 (va_cpy (I 10) (I 11) 0 0 16)), J)) = some ((), I', J') ∧ RX i I0 J0 i t (some (pn I0 t i, t)) I' J' := by
      rw [a2, if_neg (by rw [nlt (by omega) (by omega)]; omega)]
      refine ⟨_, _, rfl, fun c c10 c11 c12 => ?_, ?_, a3, fun k hk => ?_, a5, ?_, by omega, fun k hk => ?_⟩
      · rw [sI_ne c11]
        show sI I 12 _ c = _
        rw [sI_ne c12]; exact a1 c c10 c11 c12
      · rw [sI_ne (by decide), I_ne (by decide)]; exact a2
      · rw [sI_ne (by decide)]
        show sI I 12 _ 10 k = _
        rw [sI_ne (by decide)]; exact a4 k hk
      · rw [sI_ne (by decide)]; rfl
      · rw [sI_eq, pk_cpy_in (by omega) (by omega)]
        rw [show 0 + (k - 0) = k by omega]; exact a4 k hk
    have hfe := hf hv
    match acc, a6 with
    | none, a6 =>
      rw [if_pos (by rw [lt32, a6, eM, nI_toInt (by omega)]; omega)]
      have e : srch i I0 J0 v mm 0 i t none = some (pn I0 t i, t) := by
        show (if bd I0 J0 t v ≤ mm then _ else _) = _
        rw [if_pos hfe]
      rw [e]; exact lay
    | some (p, c), a6 =>
      obtain ⟨b1, b2, b3⟩ := a6
      by_cases cp : pn I0 t i < p
      · rw [if_pos (by rw [b1, nI_ltI (by omega) (by omega)]; exact cp)]
        have e : srch i I0 J0 v mm 0 i t (some (p, c)) = some (pn I0 t i, t) := by
          show (if bd I0 J0 t v ≤ mm then (if pn I0 t i < p then _ else _) else _) = _
          rw [if_pos hfe, if_pos cp]
        rw [e]; exact lay
      · rw [if_neg (by rw [b1, nI_ltI (by omega) (by omega)]; exact cp), srch_dear (n := i) 0 i (by omega) t (by omega)]
        exact ⟨I, J, rfl, a1, a2, a3, a4, a5, b1, b2, b3⟩
  | succ d ih =>
    intro i hi dep hd t acc I J h ht hf
    obtain ⟨dep, rfl⟩ : ∃ q, dep = q + 1 := ⟨dep - 1, by omega⟩
    have hin : i < n := by omega
    have hp := (pr_pn ho i (by omega) ht).2
    -- one width tried
    have step : ∀ (w : Int32) (f : Nat), f ≤ 16 → (gvn I0 i → w = 0) → (¬ gvn I0 i → w = I0 6 i) → ∀ m acc I J, RX n I0 J0 i t acc I J → ∃ I' J', fX3_choose_91 (fX3_choose dep) (m + 1) (nI i) (nI (pn I0 t i)) (nI v) mm w (nI f) I J = fX3_choose_91 (fX3_choose dep) m (nI i) (nI (pn I0 t i)) (nI v) mm w (nI (f + 4)) I' J' ∧ RX n I0 J0 i t (srch n I0 J0 v mm d (i + 1) (upd t i (nI f)) acc) I' J' := by
      intro w f hf16 hw0 hw1 m acc I J h
      obtain ⟨a1, a2, a3, a4, a5, a6⟩ := h
      have e16 : (16 : Int32) = nI 16 := rfl
      have e4 : nI f + (4 : Int32) = nI (f + 4) := nI_add f 4
      have oI : Ok n (uI I 10 i (nI f)) J := ho.cong (fun k hk c hc => by show sI I 10 _ c k = _; rw [sI_ne (by omega), a1 c (by omega) (by omega) (by omega)]) (fun k hk _ => by show sI I 10 _ 7 k = _; rw [sI_ne (by decide), a1 7 (by decide) (by decide) (by decide)]) (fun k hk => by rw [a3 0 (by decide)]) (fun k hk => by rw [a3 1 (by decide)])
      have rJ : ∀ k, k < n → J 2 k = (fun k => rch (J0 0 k) (J0 1 k)) k := fun k hk => by rw [a3 2 (by decide)]; exact hR k hk
      have bp := bfpX oI rJ hin
      -- it is THE BOUND with the new width
      have tl : ∀ k, k < i → bd I0 J0 (upd t i (nI f)) k = bd I0 J0 t k := fun k hk => bd_loc ho (by omega) (fun j hj => upd_ne (by omega))
      have q0 : stB (uI I 10 i (nI f)) (fun k => rch (J0 0 k) (J0 1 k)) ((uI I 10 i (nI f)) 10) i (J 5) = bd I0 J0 (upd t i (nI f)) i := by
        have s1 : stB (uI I 10 i (nI f)) (fun k => rch (J0 0 k) (J0 1 k)) ((uI I 10 i (nI f)) 10) i (J 5) = stB I0 (fun k => rch (J0 0 k) (J0 1 k)) (upd t i (nI f)) i (J 5) := by
          have r : ∀ c, c < 8 → (uI I 10 i (nI f)) c i = I0 c i := fun c hc => by show sI I 10 _ c i = _; rw [sI_ne (by omega), a1 c (by omega) (by omega) (by omega)]
          have r10 : (uI I 10 i (nI f)) 10 i = upd t i (nI f) i := by rw [I_eq, upd_eq]
          unfold stB pa pb gvn
          rw [r10]
          simp only [r 0 (by decide), r 1 (by decide), r 2 (by decide), r 5 (by decide)]
        rw [s1]
        exact valA_eq (locB ho (fun k => rch (J0 0 k) (J0 1 k)) (upd t i (nI f))) hin (fun j hj => (a5 j hj).trans (tl j hj).symm)
      have b5 : (uJ J 5 i (bd I0 J0 (upd t i (nI f)) i)) 5 i = bd I0 J0 (upd t i (nI f)) i := J_eq
      rw [eX3_choose_91, if_neg (by rw [e16, nlt (by omega) (by omega)]; omega), if_pos (nok (by omega)), ncl (by omega), bp, bnd_eq, q0]
      have rx1 : ∀ acc, (match acc with | none => I 12 1 = 2147483647 | some (p, c) => I 12 1 = nI p ∧ p ≤ 25600 ∧ ∀ k, k < n → I 11 k = c k) → RX n I0 J0 (i + 1) (upd t i (nI f)) acc (uI I 10 i (nI f)) (uJ J 5 i (bd I0 J0 (upd t i (nI f)) i)) := by
        intro acc ha
        refine ⟨fun c c10 c11 c12 => by show sI I 10 _ c = _; rw [sI_ne c10]; exact a1 c c10 c11 c12, a2, fun c hc => by show sJ J 5 _ c = _; rw [sJ_ne hc]; exact a3 c hc, fun k hk => ?_, fun k hk => ?_, ha⟩
        · show (if k = i then nI f else I 10 k) = (if k = i then nI f else t k)
          by_cases e : k = i
          · rw [if_pos e, if_pos e]
          · rw [if_neg e, if_neg e]; exact a4 k (by omega)
        · by_cases e : k = i
          · subst e; exact b5
          · rw [J_ne e, tl k (by omega)]; exact a5 k (by omega)
      have weak : ∀ acc I' J', RX n I0 J0 (i + 1) (upd t i (nI f)) acc I' J' → RX n I0 J0 i t acc I' J' := by
        intro acc I' J' q
        obtain ⟨c1, c2, c3, c4, c5, c6⟩ := q
        exact ⟨c1, c2, c3, fun k hk => by rw [c4 k (by omega), upd_ne (by omega)], fun k hk => by rw [c5 k (by omega), tl k hk], c6⟩
      -- going deeper
      have deep : (v < i + 1 → bd I0 J0 (upd t i (nI f)) v ≤ mm) → ∃ I' J', fX3_choose_134 (fX3_choose dep) (fX3_choose_91 (fX3_choose dep) m) (nI i) (nI (pn I0 t i)) (nI v) mm w (nI f) (uI I 10 i (nI f)) (uJ J 5 i (bd I0 J0 (upd t i (nI f)) i)) = fX3_choose_91 (fX3_choose dep) m (nI i) (nI (pn I0 t i)) (nI v) mm w (nI (f + 4)) I' J' ∧ RX n I0 J0 i t (srch n I0 J0 v mm d (i + 1) (upd t i (nI f)) acc) I' J' := by
        intro hfe
        have tv1 : tv I0 (upd t i (nI f)) (i + 1) := by
          intro k hk hg
          by_cases e : k = i
          · subst e; exact ⟨f, hf16, upd_eq⟩
          · obtain ⟨g, hg1, hg2⟩ := ht k (by omega) hg
            exact ⟨g, hg1, by rw [upd_ne e]; exact hg2⟩
        obtain ⟨I', J', y1, y2⟩ := ih (i + 1) (by omega) dep (by omega) (upd t i (nI f)) acc _ _ (rx1 acc a6) tv1 hfe
        have pe : nI (pn I0 t i) + w * nI f = nI (pn I0 (upd t i (nI f)) (i + 1)) := by
          show _ = nI (pn I0 (upd t i (nI f)) i + _)
          rw [pn_upd, ← nI_add]
          by_cases g : gvn I0 i
          · rw [if_pos g, hw0 g, Int32.zero_mul]; rfl
          · obtain ⟨_, _, ww, hww, ew⟩ := ho.valid.2 i hin g
            rw [if_neg g, hw1 g, ew, upd_eq, nI_clamp (by omega), nI_clamp (by omega), pk_mul]
        unfold fX3_choose_134
        rw [nsc, pe, y1, bnd_eq, e4]
        exact ⟨I', J', rfl, weak _ _ _ y2⟩
      by_cases cv : nI i = nI v
      · rw [if_pos cv]
        have iv : i = v := (nI_eq (by omega) (by omega)).mp cv
        rw [b5]
        by_cases cb : mm < bd I0 J0 (upd t i (nI f)) i
        · rw [if_pos cb, e4]
          have nb : ¬ bd I0 J0 (upd t i (nI f)) v ≤ mm := by rw [← iv, le64]; rw [lt64] at cb; omega
          rw [srch_no ho hv d (i + 1) (by omega) (by omega) _ _ nb]
          exact ⟨_, _, rfl, weak _ _ _ (rx1 acc a6)⟩
        · rw [if_neg cb]
          exact deep (fun _ => by rw [← iv, le64]; rw [lt64] at cb; omega)
      · rw [if_neg cv]
        refine deep (fun hvi => ?_)
        have : v ≠ i := fun e => cv (by rw [e])
        rw [bd_loc ho hv (fun j hj => upd_ne (by omega))]
        exact hf (by omega)
    have stop : ∀ (w : Int32) (m : Nat) I J, fX3_choose_91 (fX3_choose dep) (m + 1) (nI i) (nI (pn I0 t i)) (nI v) mm w (nI 20) I J = some ((), I, J) := by
      intro w m I J
      rw [eX3_choose_91, if_pos (by decide)]
    obtain ⟨a1, a2, a3, a4, a5, a6⟩ := h
    have h' : RX n I0 J0 i t acc I J := ⟨a1, a2, a3, a4, a5, a6⟩
    show ∃ I' J', fX3_choose_0 (fX3_choose dep) (nI i) (nI (pn I0 t i)) (nI v) mm I J = _ ∧ _
    have body : ∃ I' J', (if nI i < I 12 0 then (if okx (nI i) then bnd (fX2_isGiven (nI i).toNatClampNeg I J) (fun q_4 I_4 J_4 => if q_4 = 0 then fX3_choose_69 (fX3_choose dep) (nI i) (nI (pn I0 t i)) (nI v) mm (nI i).toNatClampNeg (I_4 6 (nI i).toNatClampNeg) I_4 J_4 else fX3_choose_69 (fX3_choose dep) (nI i) (nI (pn I0 t i)) (nI v) mm (nI i).toNatClampNeg (0 : Int32) I_4 J_4) else none) else some ((), (sI (uI I 12 1 (nI (pn I0 t i))) 11 (va_cpy (I 10) (I 11) 0 0 16)), J)) = some ((), I', J') ∧ RX n I0 J0 i t (srch n I0 J0 v mm (d + 1) i t acc) I' J' := by
      rw [a2, if_pos (by rw [nlt (by omega) (by omega)]; omega), if_pos (nok (by omega)), ncl (by omega), givX, bnd_eq]
      have g0 : gvn I i ↔ gvn I0 i := by unfold gvn; rw [a1 0 (by decide) (by decide) (by decide)]
      have i6 : I 6 i = I0 6 i := by rw [a1 6 (by decide) (by decide) (by decide)]
      obtain ⟨F, hF⟩ : ∃ F, fuel = F + 6 := ⟨99994, rfl⟩
      by_cases g : gvn I0 i
      · rw [if_pos (g0.mpr g), if_neg o10]
        unfold fX3_choose_69 fX3_choose_85
        rw [givX, bnd_eq, if_pos (g0.mpr g), if_neg o10, hF]
        obtain ⟨I1, J1, s1, r1⟩ := step 0 16 (by omega) (fun _ => rfl) (fun z => absurd g z) (F + 5) acc I J h'
        have e1 : fX3_choose_91 (fX3_choose dep) (F + 6) (nI i) (nI (pn I0 t i)) (nI v) mm 0 16 I J = fX3_choose_91 (fX3_choose dep) (F + 5) (nI i) (nI (pn I0 t i)) (nI v) mm 0 (nI 20) I1 J1 := s1
        rw [e1, stop 0 (F + 4)]
        refine ⟨I1, J1, rfl, ?_⟩
        show RX n I0 J0 i t (if gvn I0 i then _ else _) I1 J1
        rw [if_pos g]; exact r1
      · rw [if_neg (fun z => g (g0.mp z)), if_pos rfl, i6]
        unfold fX3_choose_69 fX3_choose_85
        rw [givX, bnd_eq, if_neg (fun z => g (g0.mp z)), if_pos rfl, hF]
        obtain ⟨I1, J1, s1, r1⟩ := step (I0 6 i) 0 (by omega) (fun z => absurd z g) (fun _ => rfl) (F + 5) acc I J h'
        obtain ⟨I2, J2, s2, r2⟩ := step (I0 6 i) 4 (by omega) (fun z => absurd z g) (fun _ => rfl) (F + 4) _ I1 J1 r1
        obtain ⟨I3, J3, s3, r3⟩ := step (I0 6 i) 8 (by omega) (fun z => absurd z g) (fun _ => rfl) (F + 3) _ I2 J2 r2
        obtain ⟨I4, J4, s4, r4⟩ := step (I0 6 i) 12 (by omega) (fun z => absurd z g) (fun _ => rfl) (F + 2) _ I3 J3 r3
        obtain ⟨I5, J5, s5, r5⟩ := step (I0 6 i) 16 (by omega) (fun z => absurd z g) (fun _ => rfl) (F + 1) _ I4 J4 r4
        have e1 : fX3_choose_91 (fX3_choose dep) (F + 6) (nI i) (nI (pn I0 t i)) (nI v) mm (I0 6 i) 0 I J = fX3_choose_91 (fX3_choose dep) (F + 5) (nI i) (nI (pn I0 t i)) (nI v) mm (I0 6 i) (nI (0 + 4)) I1 J1 := s1
        rw [e1, s2, s3, s4, s5, stop (I0 6 i) F]
        refine ⟨I5, J5, rfl, ?_⟩
        show RX n I0 J0 i t (if gvn I0 i then _ else _) I5 J5
        rw [if_neg g]; exact r5
    unfold fX3_choose_0
    match acc, a6, body with
    | none, a6, body =>
      rw [if_pos (by rw [lt32, a6, eM, nI_toInt (by omega)]; omega)]
      exact body
    | some (p, c), a6, body =>
      obtain ⟨b1, b2, b3⟩ := a6
      by_cases cp : pn I0 t i < p
      · rw [if_pos (by rw [b1, nI_ltI (by omega) (by omega)]; exact cp)]
        exact body
      · rw [if_neg (by rw [b1, nI_ltI (by omega) (by omega)]; exact cp), srch_dear (d + 1) i hi t (by omega)]
        exact ⟨I, J, rfl, a1, a2, a3, a4, a5, b1, b2, b3⟩
