/-! Program() and BitTuner() -/
theorem va_D.same {A : Nat → Prop} {ws ws' : va_W} (h : ws'.map Prod.fst = ws.map Prod.fst) (hD : va_D A ws) : va_D A ws' := by
  have key : ∀ (k : Nat) (q : Nat × va_E), ws'[k]? = some q → ∃ q', ws[k]? = some q' ∧ q'.1 = q.1 := by
    intro k q hk
    have e : (ws'.map Prod.fst)[k]? = some q.1 := by rw [List.getElem?_map, hk]; rfl
    rw [h, List.getElem?_map] at e
    match hw : ws[k]?, e with
    | some q', e => exact ⟨q', rfl, Option.some.inj e⟩
  refine ⟨fun i j p q hi hj hpq => ?_, fun k q hk => ?_⟩
  · obtain ⟨p', e1, e2⟩ := key i p hi
    obtain ⟨q', f1, f2⟩ := key j q hj
    exact hD.1 i j p' q' e1 f1 (by rw [e2, f2]; exact hpq)
  · obtain ⟨q', e1, e2⟩ := key k q hk
    rw [← e2]; exact hD.2 k q' e1
theorem arrV_cong (cA : ClassId) (N : Nat) {f g : Nat → Value} (h : ∀ k, k < N → f k = g k) : arrV cA N f = arrV cA N g := by
  unfold arrV
  congr 2
  funext j
  exact h j.val j.isLt
theorem va_P.arr {D : va_G} {cl : List vw_C} {x : Nat × va_E} {qa : Nat} {cA : ClassId} {f g : Nat → Option Nat} {ws : va_W} {H : Heap} (h : ∀ k, k < 16 → f k = g k) (hP : va_P D cl (x :: (qa, .inl (cA, 16, .inr (.inr (.inr (.inr f))))) :: ws) H) : va_P D cl (x :: (qa, .inl (cA, 16, .inr (.inr (.inr (.inr g))))) :: ws) H := by
  intro k q hk
  match k, hk with
  | 0, hk => exact hP 0 q hk
  | 1, hk =>
    cases hk
    have := hP 1 _ rfl
    show H[qa]? = some (arrV cA 16 (fun j => va_rf (g j)))
    rw [← arrV_cong cA 16 (f := fun j => va_rf (f j)) (fun j hj => by rw [h j hj])]
    exact this
  | k + 2, hk => exact hP (k + 2) q hk
section NY
variable {p : Program} {l : Launch} {e : Env} {R : Room} {s : State} {m : MethodId} {args : Array Value} {below : List Frame} {meth : Method} {c : Code} {H : Heap} {locs : List Loc} {Q : State → Prop} {cells slots : Nat}
variable {own : String} {cc : ByteArray} {nL : Nat} {ret : Option FieldType} {D : va_G} {tys : List (ClassId × FieldType)} {A : Nat → Prop} {ws ws' : va_W}
variable {pc : Nat} {ls : Array Slot} {rest st0 : List Value}
theorem n_newq (C : KX p s m args meth c own cc nL ret) (hB : NB D tys A s H locs ws) {index : Nat} (hcl : Cond.classLink own index RX2 ∈ lw_gd) (t0 : Nat) {cV : ClassId} (ht : tys[t0]? = some (cV, .object RX2)) (hcells : cells + 1 ≤ R.cells) (hslots : slots + 16 ≤ R.slots) (hdg : decode cc pc = .ok (.anewarray index, 3))
    (kk : ∀ (q : Nat) (H1 : Heap), NB D tys A s H1 locs (ws ++ [(q, .inl (cV, 16, .inr (.inr (.inr (.inr (fun _ => none))))))]) → W p l e R s m args below meth c H1 locs (cells + 1) (slots + 16) Q (F0 m (pc + 3) ls (.ref q :: rest))) : W p l e R s m args below meth c H locs cells slots Q (F0 m pc ls (.int 16 :: rest)) := by
  obtain ⟨hP, hD, hK, hS, hA, hE⟩ := hB
  refine va_newq C.hx C.hb C.hown (C.hts _ hcl) hE.1 hK hP hD hS hA (by decide) (N' := 16) (by decide) (by decide) hcells hslots hdg (fun q cB H1 hK1 hP1 hD1 hS1 => ?_)
  have e : cB = cV := by
    obtain ⟨_, _, _, _, _, r1⟩ := (hK.2 t0 _ ht).2
    obtain ⟨_, _, _, _, _, r2⟩ := (hK1.2 tys.length (cB, .object RX2) (by simp)).2
    exact Option.some.inj (r2.symm.trans r1)
  subst e
  exact kk q H1 ⟨hP1, hD1, hK, hS1, hA, hE⟩
theorem n_new (C : KX p s m args meth c own cc nL ret) (hB : NB D tys A s H locs ws) {Cn : String} {T : u_T} {N ci index : Nat} (hin : ∀ w ∈ u_ws Cn T N, w ∈ lw_gd) (ty : Nat → FieldType) (hty : ∀ k, k < N → parseFieldDescriptor (T k).2.2.1 = some (ty k)) (hcl : Cond.classLink own index Cn ∈ lw_gd) (hinst : Cond.instantiable Cn N ∈ lw_gd) (hini : Cond.initialized Cn ∈ lw_gd) (hc : classes[ci]? = some (Cn, T, N)) {fs : List Value} (hfs : ∀ j, j < N → defaultValue (ty j) = vp_V fs j) (hcells : cells + 1 ≤ R.cells) (hslots : slots + N ≤ R.slots) (hdg : decode cc pc = .ok (.new index, 3))
    (kk : ∀ (q : Nat) (H1 : Heap), NB D tys A s H1 locs (ws ++ [(q, .inr (ci, fs))]) → W p l e R s m args below meth c H1 locs (cells + 1) (slots + N) Q (F0 m (pc + 3) ls (.ref q :: rest))) : W p l e R s m args below meth c H locs cells slots Q (F0 m pc ls rest) := by
  obtain ⟨hP, hD, hK, hS, hA, hE⟩ := hB
  exact va_new C.hx C.hb C.hts hin ty hty C.hown (C.hts _ hcl) (C.hts _ hinst) (C.hts _ hini) hK hP hD hS hA hc hfs hcells hslots hdg (fun q H1 hP1 hD1 hS1 => kk q H1 ⟨hP1, hD1, hK, hS1, hA, hE⟩)
/-- Value()'s call: nothing is written -/
theorem n_value (C : KX p s m args meth c RX0 cc nL ret) (hB : NB D tys A s H locs ws) {b : Nat} (hR : 2 ≤ R.frames ∧ 32 ≤ R.locals) (hcs : cells ≤ R.cells ∧ slots ≤ R.slots) (hsz : ls.size = nL) (hst : st0 = .ref b :: rest) (hW : (rest.map fun v => v.category).sum ≤ 8) (hdg : decode cc pc = .ok (.invokespecial 17, 3)) (kk : ∀ (H1 : Heap) (locs1 : List Loc), NB D tys A s H1 locs1 ws → W p l e R s m args below meth c H1 locs1 cells slots Q (F0 m (pc + 3) ls rest)) : W p l e R s m args below meth c H locs cells slots Q (F0 m pc ls st0) := by
  subst hst
  obtain ⟨hP, hD, hK, hS, hA, hE⟩ := hB
  refine va_callv (A1 := fun _ => False) (va_runIN (As := []) (rest := rest) C.fix (cnX2_init l H.size b) ⟨va_cnB 0 C.hts (good_wsm tw_60) rfl rfl rfl hE.2 (C.hts _ tw_35) (by decide +kernel) hR, rfl, C.hts _ tw_59⟩ ⟨fun a U g mk q => q, fun U hU hW => ⟨rfl, congrArg Array.size hU⟩⟩ rfl rfl hsz rfl (lv_room hW) hdg hcs) hS (fun q _ h => h.elim) (fun q h => h.elim) (fun u t H1 locs1 ht hvm hw hBt hz hk hS1 => ?_)
  exact kk H1 locs1 ⟨hP.kept (fun k q hq => hk q.1 ((hP k q hq).lt) (fun z => z)), hD, hK, hS1, hA, hE⟩
theorem n_astq (C : KX p s m args meth c own cc nL ret) (hB : NB D tys A s H locs ws) (q0 t0 qk ci : Nat) {a : Nat} {cA : ClassId} {r : vw_C} {v : Nat} {vs : List Value} {f : Nat → Option Nat} (ha : ws[q0]? = some (a, .inl (cA, 16, .inr (.inr (.inr (.inr f)))))) (ht : tys[t0]? = some (cA, .object r.1)) (hv : ws[qk]? = some (v, .inr (ci, vs))) (hc : classes[ci]? = some r) {i : Int32} (hin : okx i) (heq : ws.set q0 (a, .inl (cA, 16, .inr (.inr (.inr (.inr (va_up f i.toNatClampNeg (some v))))))) = ws') (hdg : decode cc pc = .ok (.aastore, 1))
    (kk : ∀ (H1 : Heap) (locs1 : List Loc), NB D tys A s H1 locs1 ws' → W p l e R s m args below meth c H1 locs1 cells slots Q (F0 m (pc + 1) ls rest)) : W p l e R s m args below meth c H locs cells slots Q (F0 m pc ls (.ref v :: .int i :: .ref a :: rest)) := by
  obtain ⟨hP, hD, hK, hS, hA, hE⟩ := hB
  refine va_astq C.hx C.hb hK hP hD hS q0 t0 qk ci ha ht hv hc (okx_in hin) hdg (fun H1 locs1 hP hD hS => ?_)
  rw [heq] at hP hD
  exact kk H1 locs1 ⟨hP, hD, hK, hS, hA, hE⟩
end NY
def pF (i : Nat) (a : Nat → Nat) : Nat → Option Nat := fun k => if k < i then some (a k) else none
def pw (cV : ClassId) (h0 qa i : Nat) (a : Nat → Nat) : va_W := (h0, .inr (0, [.ref qa, .int 0])) :: (qa, .inl (cV, 16, .inr (.inr (.inr (.inr (pF i a)))))) :: (List.range i).map (fun k => (a k, nv))
def wnX0 (cV : ClassId) (h0 : Nat) (u : Nat → Nat) : va_W := (h0, .inr (0, [.ref (u 16), .int 0])) :: (u 16, .inl (cV, 16, .inr (.inr (.inr (.inr (fun k => some (u k))))))) :: (List.range 16).map (fun k => (u k, nv))
theorem pw_last (cV : ClassId) (h0 qa i : Nat) (a : Nat → Nat) (x : Nat × va_E) : (pw cV h0 qa i a ++ [x])[i + 2]? = some x := by
  rw [List.getElem?_append_right (by simp [pw])]
  simp [pw]
theorem pw_next (cV : ClassId) (h0 qa i : Nat) (a : Nat → Nat) (q : Nat) : (pw cV h0 qa i a ++ [(q, nv)]).set 1 (qa, .inl (cV, 16, .inr (.inr (.inr (.inr (va_up (pF i a) i (some q))))))) = pw cV h0 qa (i + 1) (fun k => if k = i then q else a k) := by
  have e : va_up (pF i a) i (some q) = pF (i + 1) (fun k => if k = i then q else a k) := by
    funext k
    show (if k = i then some q else if k < i then some (a k) else none) = (if k < i + 1 then some (if k = i then q else a k) else none)
    by_cases h : k = i
    · rw [if_pos h, if_pos (by omega), if_pos h]
    · rw [if_neg h, if_neg h]
      by_cases h2 : k < i
      · rw [if_pos h2, if_pos (by omega)]
      · rw [if_neg h2, if_neg (by omega)]
  rw [e]
  unfold pw
  show _ :: _ :: ((List.range i).map (fun k => (a k, nv)) ++ [(q, nv)]) = _ :: _ :: _
  congr 2
  rw [List.range_succ, List.map_append]
  congr 1
  · refine List.map_congr_left (fun k hk => ?_)
    have hk' := List.mem_range.mp hk
    show (a k, nv) = ((if k = i then q else a k), nv)
    rw [if_neg (show ¬ k = i by omega)]
  · show [(q, nv)] = [(if i = i then q else a i, nv)]
    rw [if_pos rfl]
theorem loopX0 {p : Program} {l : Launch} {e : Env} {s : State} {m : MethodId} {args : Array Value} {below : List Frame} {meth : Method} {c : Code} {D : va_G} {cI cJ cV cZ : ClassId} {h0 qa : Nat} {A : Nat → Prop} {R : Room} (C : KX p s m args meth c RX0 cX0_init 2 none) (hR : 2 ≤ R.frames ∧ 32 ≤ R.locals) (hcs : 17 ≤ R.cells ∧ 192 ≤ R.slots) : ∀ d i, i + d = 16 → ∀ (H : Heap) (locs : List Loc) (ls : Array Slot) (a : Nat → Nat), NB D (nt cI cJ cV cZ) A s H locs (pw cV h0 qa i a) → lv_has ls 2 [(1, .int (nI i)), (0, .ref h0)] → W p l e R s m args below meth c H locs (1 + i) (16 + 11 * i) (MQ below (nQ D (wnX0 cV h0) A) args s 17 192 A) (F0 m 15 ls []) := by
  have e16 : (16 : Int32) = nI 16 := rfl
  intro d
  induction d with
  | zero =>
    intro i hi H locs ls a hB hl
    obtain rfl : i = 16 := by omega
    refine lv_iload_n C.hx C.hb dX0_init_15 rfl (lv_at hl 0 rfl) ?_
    refine lv_bipush (v := (16 : Int32)) C.hx C.hb dX0_init_16 (by decide) ?_
    refine lv_icmp_ge (tgt := 40) C.hx C.hb dX0_init_18 (by decide) (fun c => ?_) (fun c => absurd (show (16 : Int32) ≤ nI 16 by decide) c)
    refine lv_aload_n C.hx C.hb dX0_init_40 rfl (lv_at hl 1 rfl) ?_
    refine lv_iconst (v := (0 : Int32)) C.hx C.hb dX0_init_41 (by decide) ?_
    refine n_put (ws' := pw cV h0 qa 16 a) C hB 0 rfl rfl inX0 tyX0 tyX0_ok nmX0 1 (by decide) tw_128 rfl rfl rfl (Nat.le_of_ble_eq_true rfl) rfl dX0_init_42 (fun H locs hB => ?_)
    refine W.widen (k := 17) (n := 192) (Nat.le_of_ble_eq_true rfl) (Nat.le_of_ble_eq_true rfl) ?_
    refine n_ret (wf := wnX0 cV h0) (tys := nt cI cJ cV cZ) C (fun k => if k = 16 then qa else a k) ?_ dX0_init_45
    obtain ⟨hP, hD, hK, hS, hA, hE⟩ := hB
    have el : (List.range 16).map (fun k => (a k, nv)) = (List.range 16).map (fun k => ((if k = 16 then qa else a k), nv)) := List.map_congr_left (fun k hk => by rw [if_neg (by have := List.mem_range.mp hk; omega)])
    refine ⟨?_, ?_, hK, hS, hA, hE⟩
    · show va_P D classes ((h0, .inr (0, [.ref qa, .int 0])) :: (qa, .inl (cV, 16, .inr (.inr (.inr (.inr (fun k => some (if k = 16 then qa else a k))))))) :: (List.range 16).map (fun k => ((if k = 16 then qa else a k), nv))) _
      rw [← el]
      refine va_P.arr (f := pF 16 a) (fun k hk => ?_) hP
      show (if k < 16 then some (a k) else none) = some (if k = 16 then qa else a k)
      rw [if_pos hk, if_neg (by omega)]
    · refine va_D.same ?_ hD
      show h0 :: qa :: ((List.range 16).map (fun k => ((if k = 16 then qa else a k), nv))).map Prod.fst = h0 :: qa :: ((List.range 16).map (fun k => (a k, nv))).map Prod.fst
      rw [← el]
  | succ d ih =>
    intro i hi H locs ls a hB hl
    refine lv_iload_n C.hx C.hb dX0_init_15 rfl (lv_at hl 0 rfl) ?_
    refine lv_bipush (v := (16 : Int32)) C.hx C.hb dX0_init_16 (by decide) ?_
    refine lv_icmp_ge (tgt := 40) C.hx C.hb dX0_init_18 (by decide) (fun c => ?_) (fun c => ?_)
    · rw [e16, nle (by omega) (by omega)] at c; omega
    · refine lv_aload_n C.hx C.hb dX0_init_21 rfl (lv_at hl 1 rfl) ?_
      refine n_get C hB 0 rfl rfl inX0 0 (by decide) tw_124 rfl dX0_init_22 ?_
      refine lv_iload_n C.hx C.hb dX0_init_25 rfl (lv_at hl 0 rfl) ?_
      refine n_new (ci := 2) (fs := [.int 0, .int 0, .int 0, .int 0, .int 0, .int 0, .int 0, .long 0, .long 0, .long 0, .int 0]) C hB inX2 tyX2 tyX2_ok tw_55 tw_57 tw_35 rfl (by decide +kernel) (by omega) (by omega) dX0_init_26 (fun q H hB => ?_)
      refine lv_dup C.hx C.hb dX0_init_29 rfl ?_
      refine n_value C hB hR ⟨by omega, by omega⟩ hl.1 rfl (Nat.le_of_ble_eq_true rfl) dX0_init_30 (fun H locs hB => ?_)
      refine n_astq (ws' := pw cV h0 qa (i + 1) (fun k => if k = i then q else a k)) C hB 1 2 (i + 2) 2 rfl rfl (pw_last cV h0 qa i a _) rfl (nok (by omega)) (by rw [ncl (by omega)]; exact pw_next cV h0 qa i a q) dX0_init_33 (fun H locs hB => ?_)
      refine lv_iinc (v := nI i + (1 : Int32)) (lv' := [(1, .int (nI i + (1 : Int32))), (0, .ref h0)]) C.hx C.hb dX0_init_34 hl (k := 0) rfl rfl (by decide) rfl (fun ls hl => ?_)
      refine lv_goto (tgt := 15) C.hx C.hb dX0_init_37 (by decide) ?_
      rw [nsc] at hl
      exact ih (i + 1) (by omega) H locs ls _ hB hl
theorem cnX0_init (l : Launch) (D : va_G) (cI cJ cV cZ : ClassId) (sz h0 : Nat) : Met l yX0_init (wsm yX0_init cX0_init 2 none) { frames := 2, cells := 17, slots := 192, locals := 40 } (va_Pc [.ref h0] (nPre D (nt cI cJ cV cZ) sz [(h0, .inr (0, [.null, .int 0]))])) (nQ D (wnX0 cV h0) (nA h0 sz)) 17 192 (nA h0 sz) := by
  refine n_met (by decide) rfl (fun k q hk => Or.inl (by match k, hk with | 0, hk => (cases hk; rfl))) (fun q h => Or.inr h) (fun p e s m below meth c hsz C hin hB ls hl => ?_) (Nat.le_of_ble_eq_true rfl)
  revert hB
  generalize hH : s.heap = H
  generalize hlo : ([] : List Loc) = locs
  intro hB
  have hl : lv_has ls 2 [(0, .ref h0)] := hl
  refine lv_aload_n C.hx C.hb dX0_init_0 rfl (lv_at hl 0 rfl) ?_
  refine n_obj C tw_54 hl.1 dX0_init_1 (Nat.le_of_ble_eq_true rfl) (Nat.le_of_ble_eq_true rfl) ?_
  refine lv_aload_n C.hx C.hb dX0_init_4 rfl (lv_at hl 0 rfl) ?_
  refine lv_bipush (v := (16 : Int32)) C.hx C.hb dX0_init_5 (by decide) ?_
  refine n_newq C hB tw_55 2 rfl (Nat.le_of_ble_eq_true rfl) (Nat.le_of_ble_eq_true rfl) dX0_init_7 (fun qa H hB => ?_)
  refine n_putF (ws' := pw cV h0 qa 0 (fun _ => 0)) C hin hB 0 rfl rfl inX0 tyX0 tyX0_ok nmX0 0 (by decide) tw_124 rfl rfl rfl rfl (Nat.le_of_ble_eq_true rfl) rfl dX0_init_10 (fun H locs hB => ?_)
  refine lv_iconst (v := (0 : Int32)) C.hx C.hb dX0_init_13 (by decide) ?_
  refine lv_istore_n (lv' := [(1, .int (0 : Int32)), (0, .ref h0)]) C.hx C.hb dX0_init_14 rfl hl (by decide) rfl (fun ls hl => ?_)
  exact loopX0 C ⟨Nat.le_of_ble_eq_true rfl, Nat.le_of_ble_eq_true rfl⟩ ⟨Nat.le_of_ble_eq_true rfl, Nat.le_of_ble_eq_true rfl⟩ 16 0 (by omega) H locs ls _ hB hl
