/-! BitTuner(): all the cells of the class -/
section NZ
variable {p : Program} {l : Launch} {e : Env} {R : Room} {s : State} {m : MethodId} {args : Array Value} {below : List Frame} {meth : Method} {c : Code} {H : Heap} {locs : List Loc} {Q : State → Prop} {cells slots : Nat}
variable {own : String} {cc : ByteArray} {nL : Nat} {ret : Option FieldType} {D : va_G} {tys : List (ClassId × FieldType)} {A : Nat → Prop} {ws : va_W}
variable {pc : Nat} {ls : Array Slot} {rest st0 : List Value}
theorem n_ctor (C : KX p s m args meth c own cc nL ret) {b : Nat} {e0 : va_E} (hB : NB D tys A s H locs (ws ++ [(b, e0)])) {y : MethodName} {cy : ByteArray} {ny : Nat} {rm : Room} {wf : (Nat → Nat) → va_W} {mc ms index : Nat} (As : List Value) (hM : Met l y (wsm y cy ny none) rm (va_Pc (.ref b :: As) (nPre D tys H.size [(b, e0)])) (nQ D wf (nA b H.size)) mc ms (nA b H.size))
    (h1 : Cond.methodLink own index y ∈ lw_gd) (h2 : Cond.instanceMethod y ∈ lw_gd) (h4 : Cond.initialized y.cls ∈ lw_gd) (h : Cond.code y cy ny none ∈ lw_gd) (hyn : y.name = "<init>") (hrm : rm.cells = mc ∧ rm.slots = ms) (hd : y.cls ≠ "java/lang/invoke/MethodHandle" ∧ y.cls ≠ "java/lang/invoke/VarHandle" ∧ (parseMethodDescriptor y.desc).map (fun d => d.parameters.length) = some As.length) (hR : rm.frames + 1 ≤ R.frames ∧ 8 + (ny + 11) + rm.locals ≤ R.locals) (hcs : cells + mc ≤ R.cells ∧ slots + ms ≤ R.slots) (hsz : ls.size = nL) (hst : st0 = As.reverse ++ .ref b :: rest) (hW : (rest.map fun v => v.category).sum ≤ 8) (hdg : decode cc pc = .ok (.invokespecial index, 3))
    (kk : ∀ (u : Nat → Nat) (H1 : Heap) (locs1 : List Loc), NB D tys A s H1 locs1 (ws ++ wf u) → W p l e R s m args below meth c H1 locs1 (cells + mc) (slots + ms) Q (F0 m (pc + 3) ls rest)) : W p l e R s m args below meth c H locs cells slots Q (F0 m pc ls st0) := by
  subst hst
  obtain ⟨hP, hD, hK, hS, hA, hE⟩ := hB
  have hl : (ws ++ [(b, e0)])[ws.length]? = some (b, e0) := by simp
  have hin : ∀ (k : Nat) (q : Nat × va_E), ws[k]? = some q → (ws ++ [(b, e0)])[k]? = some q := fun k q hk => by
    rw [List.getElem?_append_left (List.getElem?_eq_some_iff.mp hk).1]; exact hk
  have hAb : A b := hD.2 _ _ hl
  have hfree : ∀ q, nA b H.size q → A q := fun q h => by
    rcases h with h | h
    · rw [h]; exact hAb
    · exact hA q (Nat.le_trans hS.1 h)
  have hPb : va_P D classes [(b, e0)] H := fun k q hk => by
    match k, hk with
    | 0, hk => cases hk; exact hP _ _ hl
  have hDb : va_D (fun _ => True) [(b, e0)] := ⟨fun i j p q hi hj _ => by
    match i, j, hi, hj with
    | 0, 0, _, _ => rfl, fun _ _ _ => trivial⟩
  refine va_callv (va_runI (As := As) (rest := rest) C.fix hM (cwI As.length C.hts (good_wsm h) rfl hrm.1 hrm.2 (C.hts _ h4) (C.hts _ h1) (C.hts _ h2) hyn hd hR) ⟨npre_blind, fun U hU hW => ⟨rfl, congrArg Array.size hU, by rw [hU]; exact hPb, va_K.moved hW.alike hK, hDb, xE.moved hW hE⟩⟩ rfl rfl hsz rfl (lv_room hW) hdg hcs) hS (fun q _ h => hfree q h) hfree (fun u t H1 locs1 ht hvm hw hBt hz hk hS1 => ?_)
  obtain ⟨hP1, hD1⟩ := hBt
  rw [ht] at hP1
  have apart : ∀ (k : Nat) (q : Nat × va_E), ws[k]? = some q → ¬ nA b H.size q.1 := fun k q hq z => by
    rcases z with z | z
    · have := hD.1 k ws.length q (b, e0) (hin k q hq) hl z
      have := (List.getElem?_eq_some_iff.mp hq).1
      omega
    · have := (hP k q (hin k q hq)).lt
      omega
  refine kk u H1 locs1 ⟨va_P.app (fun k q hq => (hP k q (hin k q hq)).kept (hk q.1 ((hP k q (hin k q hq)).lt) (apart k q hq))) hP1, ⟨fun i j x y hi hj hxy => ?_, fun k q hq => ?_⟩, hK, hS1, hA, hE⟩
  · by_cases ci : i < ws.length
    · rw [List.getElem?_append_left ci] at hi
      by_cases cj : j < ws.length
      · rw [List.getElem?_append_left cj] at hj
        exact hD.1 i j x y (hin i x hi) (hin j y hj) hxy
      · rw [List.getElem?_append_right (by omega)] at hj
        exact absurd (by rw [hxy]; exact hD1.2 _ y hj) (apart i x hi)
    · rw [List.getElem?_append_right (by omega)] at hi
      by_cases cj : j < ws.length
      · rw [List.getElem?_append_left cj] at hj
        exact absurd (by rw [← hxy]; exact hD1.2 _ x hi) (apart j y hj)
      · rw [List.getElem?_append_right (by omega)] at hj
        have := hD1.1 _ _ x y hi hj hxy
        omega
  · by_cases ck : k < ws.length
    · rw [List.getElem?_append_left ck] at hq
      exact hD.2 k q (hin k q hq)
    · rw [List.getElem?_append_right (by omega)] at hq
      exact hfree _ (hD1.2 _ q hq)
end NZ
theorem hdX1_init : yX1_init.cls ≠ "java/lang/invoke/MethodHandle" ∧ yX1_init.cls ≠ "java/lang/invoke/VarHandle" ∧ (parseMethodDescriptor yX1_init.desc).map (fun d => d.parameters.length) = some 1 := by decide +kernel
theorem hdX3_init : yX3_init.cls ≠ "java/lang/invoke/MethodHandle" ∧ yX3_init.cls ≠ "java/lang/invoke/VarHandle" ∧ (parseMethodDescriptor yX3_init.desc).map (fun d => d.parameters.length) = some 1 := by decide +kernel
def zI : TI := fun c => if c = 9 then (fun k => if k < 16 then -2 else 0) else fun _ => 0
def zK : TI := fun _ _ => 0
def zJ : TJ := fun _ _ => 0
def adj (h0 : Nat) (u : Nat → Nat) : Nat → Nat := fun n => if n = 0 then h0 else u n
def wnX4 (cI cJ cV : ClassId) (h0 : Nat) (u : Nat → Nat) : va_W := xw cI cJ cV (adj h0 u) zI zJ
def adx (p r w : Nat) (u u2 u3 : Nat → Nat) : Nat → Nat := fun n => if 12 ≤ n then u (n - 12) else [0, p, u 16, r, w, u2 0, u2 1, u2 2, u2 3, u3 0, u3 1, u3 2].getD n 0
def wall (cI cJ cV cZ : ClassId) (h0 p r w : Nat) (u u2 u3 : Nat → Nat) : va_W := ((h0, .inr (4, [.ref p, .ref r, .ref w])) :: wnX0 cV p u) ++ wnX1 cI cJ cV cZ r p u2 ++ wnX3 cI cJ cV cZ w p u3
set_option maxHeartbeats 4000000 in
set_option maxRecDepth 100000 in
theorem cnX4_init (l : Launch) (D : va_G) (cI cJ cV cZ : ClassId) (sz h0 : Nat) : Met l yX4_init (wsm yX4_init cX4_init 1 none) { frames := 3, cells := 27, slots := 316, locals := 80 } (va_Pc [.ref h0] (nPre D (nt cI cJ cV cZ) sz [(h0, .inr (4, [.null, .null, .null]))])) (nQ D (wnX4 cI cJ cV h0) (nA h0 sz)) 27 316 (nA h0 sz) := by
  refine n_met (by decide) rfl (fun k q hk => Or.inl (by match k, hk with | 0, hk => (cases hk; rfl))) (fun q h => Or.inr h) (fun p e s m below meth c hsz C hin hB ls hl => ?_) (Nat.le_of_ble_eq_true rfl)
  revert hB
  generalize hH : s.heap = H
  generalize hlo : ([] : List Loc) = locs
  intro hB
  have hl : lv_has ls 1 [(0, .ref h0)] := hl
  refine lv_aload_n C.hx C.hb dX4_init_0 rfl (lv_at hl 0 rfl) ?_
  refine n_obj C tw_46 hl.1 dX4_init_1 (Nat.le_of_ble_eq_true rfl) (Nat.le_of_ble_eq_true rfl) ?_
  refine lv_aload_n C.hx C.hb dX4_init_4 rfl (lv_at hl 0 rfl) ?_
  refine n_new (ci := 0) (fs := [.null, .int 0]) C hB inX0 tyX0 tyX0_ok tw_49 tw_50 tw_34 rfl (by decide +kernel) (Nat.le_of_ble_eq_true rfl) (Nat.le_of_ble_eq_true rfl) dX4_init_5 (fun pr H hB => ?_)
  refine lv_dup C.hx C.hb dX4_init_8 rfl ?_
  refine n_ctor (rest := [.ref pr, .ref h0]) C hB [] (cnX0_init l D cI cJ cV cZ H.size pr) tw_51 tw_52 tw_34 tw_53 rfl ⟨rfl, rfl⟩ (by decide +kernel) ⟨Nat.le_of_ble_eq_true rfl, Nat.le_of_ble_eq_true rfl⟩ ⟨Nat.le_of_ble_eq_true rfl, Nat.le_of_ble_eq_true rfl⟩ hl.1 rfl (Nat.le_of_ble_eq_true rfl) dX4_init_9 (fun u H locs hB => ?_)
  refine n_putF (ws' := (h0, .inr (4, [.ref pr, .null, .null])) :: wnX0 cV pr u) C hin hB 0 rfl rfl inX4 tyX4 tyX4_ok nmX4 0 (by decide) tw_186 rfl rfl rfl rfl (Nat.le_of_ble_eq_true rfl) rfl dX4_init_12 (fun H locs hB => ?_)
  refine lv_aload_n C.hx C.hb dX4_init_15 rfl (lv_at hl 0 rfl) ?_
  refine n_new (ci := 1) (fs := [.null, .null, .null, .null, .null]) C hB inX1 tyX1 tyX1_ok tw_137 tw_138 tw_36 rfl (by decide +kernel) (Nat.le_of_ble_eq_true rfl) (Nat.le_of_ble_eq_true rfl) dX4_init_16 (fun rn H hB => ?_)
  refine lv_dup C.hx C.hb dX4_init_19 rfl ?_
  refine lv_aload_n C.hx C.hb dX4_init_20 rfl (lv_at hl 0 rfl) ?_
  refine n_get C hB 0 rfl rfl inX4 0 (by decide) tw_186 rfl dX4_init_21 ?_
  refine n_ctor (rest := [.ref rn, .ref h0]) C hB [.ref pr] (cnX1_init l D cI cJ cV cZ H.size rn pr) tw_139 tw_140 tw_36 tw_141 rfl ⟨rfl, rfl⟩ hdX1_init ⟨Nat.le_of_ble_eq_true rfl, Nat.le_of_ble_eq_true rfl⟩ ⟨Nat.le_of_ble_eq_true rfl, Nat.le_of_ble_eq_true rfl⟩ hl.1 rfl (Nat.le_of_ble_eq_true rfl) dX4_init_24 (fun u2 H locs hB => ?_)
  refine n_putF (ws' := ((h0, .inr (4, [.ref pr, .ref rn, .null])) :: wnX0 cV pr u) ++ wnX1 cI cJ cV cZ rn pr u2) C hin hB 0 rfl rfl inX4 tyX4 tyX4_ok nmX4 1 (by decide) tw_187 rfl rfl rfl rfl (Nat.le_of_ble_eq_true rfl) rfl dX4_init_27 (fun H locs hB => ?_)
  refine lv_aload_n C.hx C.hb dX4_init_30 rfl (lv_at hl 0 rfl) ?_
  refine n_new (ci := 3) (fs := [.null, .null, .null, .null, .int 0]) C hB inX3 tyX3 tyX3_ok tw_164 tw_165 tw_37 rfl (by decide +kernel) (Nat.le_of_ble_eq_true rfl) (Nat.le_of_ble_eq_true rfl) dX4_init_31 (fun wd H hB => ?_)
  refine lv_dup C.hx C.hb dX4_init_34 rfl ?_
  refine lv_aload_n C.hx C.hb dX4_init_35 rfl (lv_at hl 0 rfl) ?_
  refine n_get C hB 0 rfl rfl inX4 0 (by decide) tw_186 rfl dX4_init_36 ?_
  refine n_ctor (rest := [.ref wd, .ref h0]) C hB [.ref pr] (cnX3_init l D cI cJ cV cZ H.size wd pr) tw_166 tw_167 tw_37 tw_168 rfl ⟨rfl, rfl⟩ hdX3_init ⟨Nat.le_of_ble_eq_true rfl, Nat.le_of_ble_eq_true rfl⟩ ⟨Nat.le_of_ble_eq_true rfl, Nat.le_of_ble_eq_true rfl⟩ hl.1 rfl (Nat.le_of_ble_eq_true rfl) dX4_init_39 (fun u3 H locs hB => ?_)
  refine n_putF (ws' := wall cI cJ cV cZ h0 pr rn wd u u2 u3) C hin hB 0 rfl rfl inX4 tyX4 tyX4_ok nmX4 2 (by decide) tw_188 rfl rfl rfl rfl (Nat.le_of_ble_eq_true rfl) rfl dX4_init_42 (fun H locs hB => ?_)
  refine W.widen (k := 27) (n := 316) (Nat.le_of_ble_eq_true rfl) (Nat.le_of_ble_eq_true rfl) ?_
  refine n_ret (wf := wnX4 cI cJ cV h0) (tys := nt cI cJ cV cZ) C (adx pr rn wd u u2 u3) ?_ dX4_init_45
  obtain ⟨hP, hD, hK, hS, hA, hE⟩ := hB
  refine ⟨?_, ?_, hK, hS, hA, hE⟩
  · have hP1 := hP.sub (ws' := (pr, .inr (0, [.ref (u 16), .int 0])) :: (u 16, .inl (cV, 16, .inr (.inr (.inr (.inr (fun k => some (u k))))))) :: (h0, .inr (4, [.ref pr, .ref rn, .ref wd])) :: (wnX1 cI cJ cV cZ rn pr u2 ++ wnX3 cI cJ cV cZ wd pr u3 ++ (List.range 16).map (fun k => (u k, nv)))) [1, 2, 0, 19, 20, 21, 22, 23, 24, 25, 26, 27, 3, 4, 5, 6, 7, 8, 9, 10, 11, 12, 13, 14, 15, 16, 17, 18] rfl
    have hP2 := va_P.arr (g := fun k => some (adj h0 (adx pr rn wd u u2 u3) (12 + k))) (fun k _ => by
      show some (u k) = some (if 12 + k = 0 then h0 else if 12 ≤ 12 + k then u (12 + k - 12) else _)
      rw [if_neg (by omega), if_pos (by omega), Nat.add_sub_cancel_left]) hP1
    exact hP2.sub [2, 0, 1, 3, 8, 4, 5, 6, 7, 9, 10, 11, 12, 13, 14, 15, 16, 17, 18, 19, 20, 21, 22, 23, 24, 25, 26, 27] rfl
  · have hD1 := hD.sub (ws' := (h0, .inr (4, [.ref pr, .ref rn, .ref wd])) :: (pr, .inr (0, [.ref (u 16), .int 0])) :: (u 16, .inl (cV, 16, .inr (.inr (.inr (.inr (fun k => some (u k))))))) :: ((rn, .inr (1, [.ref pr, .ref (u2 0), .ref (u2 1), .ref (u2 2), .ref (u2 3)])) :: (wd, .inr (3, [.ref pr, .ref (u3 0), .ref (u3 1), .ref (u3 2), .int 0])) :: (((wnX1 cI cJ cV cZ rn pr u2).drop 1) ++ ((wnX3 cI cJ cV cZ wd pr u3).drop 1) ++ (List.range 16).map (fun k => (u k, nv))))) [0, 1, 2, 19, 24, 20, 21, 22, 23, 25, 26, 27, 3, 4, 5, 6, 7, 8, 9, 10, 11, 12, 13, 14, 15, 16, 17, 18] (by decide) rfl
    refine va_D.same ?_ hD1
    rfl
