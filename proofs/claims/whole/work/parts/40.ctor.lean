/-! CONSTRUCTORS -/
theorem tw_162 : Cond.arrayClass .int ∈ lw_gd := gd_of (by decide +kernel) rfl
theorem tw_163 : Cond.arrayClass .long ∈ lw_gd := gd_of (by decide +kernel) rfl
theorem tw_615 : Cond.arrayClass .boolean ∈ lw_gd := gd_of (by decide +kernel) rfl
-- what a constructor needs that no word list carries
def xE (U : State) : Prop := va_AO RX2 U ∧ va_Nw (.methodLinkNest "BitTuner$Program" 17 yX2_init "BitTuner") U
theorem xE.moved {s U : State} (hW : s.WarmedH U.vm) (h : xE s) : xE U := ⟨va_AO.moved hW.alike h.1, va_Nw.warmM hW h.2⟩
theorem xE.same {s U : State} (e : s.vm = U.vm) (h : xE s) : xE U := ⟨va_AO.moved (by rw [e]; exact Vm.Alike.refl _) h.1, va_Nw.same rfl e h.2⟩
abbrev nt (cI cJ cV cZ : ClassId) : List (ClassId × FieldType) := [(cI, .int), (cJ, .long), (cV, .object RX2), (cZ, .boolean)]
def NB (D : va_G) (tys : List (ClassId × FieldType)) (A : Nat → Prop) (s : State) (H : Heap) (locs : List Loc) (ws : va_W) : Prop :=
  va_P D classes ws H ∧ va_D A ws ∧ va_K D classes tys s ∧ va_S A s.heap H locs ∧ (∀ q, s.heap.size ≤ q → A q) ∧ xE s
def nPre (D : va_G) (tys : List (ClassId × FieldType)) (sz : Nat) (ws : va_W) (U : State) : Prop :=
  U.heap.size = sz ∧ va_P D classes ws U.heap ∧ va_K D classes tys U ∧ va_D (fun _ => True) ws ∧ xE U
def nPost (D : va_G) (wf : (Nat → Nat) → va_W) (A : Nat → Prop) (u : Nat → Nat) (t : State) : Prop := va_P D classes (wf u) t.heap ∧ va_D A (wf u)
abbrev nQ (D : va_G) (wf : (Nat → Nat) → va_W) (A : Nat → Prop) := va_Qv (fun _ : Nat → Nat => True) (nPost D wf A) A
section NX
variable {p : Program} {l : Launch} {e : Env} {R : Room} {s : State} {m : MethodId} {args : Array Value} {below : List Frame} {meth : Method} {c : Code} {H : Heap} {locs : List Loc} {Q : State → Prop} {cells slots : Nat}
variable {own : String} {cc : ByteArray} {nL : Nat} {ret : Option FieldType} {D : va_G} {tys : List (ClassId × FieldType)} {A : Nat → Prop} {ws ws' : va_W}
variable {pc : Nat} {ls : Array Slot} {rest st0 : List Value}
theorem npre_blind {sz : Nat} {As : List Value} : FrameBlind (va_Pc As (nPre D tys sz ws)) := fun a U g mk q => by
  obtain ⟨q0, q1, qP, qK, qD, qN⟩ := q
  exact ⟨q0, q1, qP, va_K.moved (u := U) (U := U.calling g mk a) (Vm.Alike.refl U.vm) qK, qD, xE.same (s := U) (U := U.calling g mk a) rfl qN⟩
theorem n_met {y : MethodName} {cy : ByteArray} {ny : Nat} {As : List Value} {rm : Room} {Qc : Array Value → State → Outcome → State → Prop} {mc ms sz : Nat} (hy : plainName y.cls = true) (hyn : y.name = "<init>") (hA : ∀ (k : Nat) (q : Nat × va_E), ws[k]? = some q → A q.1) (hA2 : ∀ q, sz ≤ q → A q)
    (body : ∀ p e s m below meth c, s.heap.size = sz → KX p s m As.toArray meth c y.cls cy ny none → meth.name = "<init>" → NB D tys A s s.heap [] ws → ∀ ls : Array Slot, lv_has ls ny (lv_args 0 As) → W p l e rm s m As.toArray below meth c s.heap [] 0 0 (MQ below Qc As.toArray s mc ms A) (F0 m 0 ls [])) (hlen : (lg_sl As).length ≤ ny) :
    Met l y (wsm y cy ny none) rm (va_Pc As (nPre D tys sz ws)) Qc mc ms A := by
  refine Met.ofW (cc := cy) (maxL := ny) (ret := none) hy rfl ?_
  intro p e s m args below meth c s₁ B hml hv
  obtain ⟨rfl, hsz, hP, hK, hD0, hN⟩ := hv
  have hts := atoms_spec (ws := wsm y cy ny none) B.pre
  have hl := lv_entry As (n := ny) hlen
  rw [lg_entry_eq]
  generalize (lg_sl As ++ List.replicate (ny - (lg_sl As).length) Slot.unset).toArray = ls at hl ⊢
  exact body p e s m below meth c hsz ⟨B.exec, B.bytes, hml, findClass_of_methodNamed B.named, fun w h => hts w (List.mem_cons_of_mem _ h), B.returns, B.notSynchronized⟩ ((name_of_methodNamed B.named B.method).1.trans hyn) ⟨hP, hD0.weaken (fun k q hk _ => hA k q hk), hK, va_S.rf, fun q h => hA2 q (by rw [← hsz]; exact h), hN⟩ ls hl
theorem n_newa (C : KX p s m args meth c own cc nL ret) (hB : NB D tys A s H locs ws) {atype : ArrayType} {ty : FieldType} (hty : newarray.typeOf atype = ty) (harr : Cond.arrayClass ty ∈ lw_gd) {a0 : vp_A} (ha : ∀ cA : ClassId, vp_cell cA a0 = arrV cA 16 (fun _ => defaultValue ty)) (hbytes : 16 * componentBytes ty ≤ 536870912) (t0 : Nat) {cA : ClassId} (ht : tys[t0]? = some (cA, ty)) (hcells : cells + 1 ≤ R.cells) (hslots : slots + 16 ≤ R.slots) (hdg : decode cc pc = .ok (.newarray atype, 2))
    (kk : ∀ (q : Nat) (H1 : Heap), NB D tys A s H1 locs (ws ++ [(q, .inl (cA, a0))]) → W p l e R s m args below meth c H1 locs (cells + 1) (slots + 16) Q (F0 m (pc + 2) ls (.ref q :: rest))) : W p l e R s m args below meth c H locs cells slots Q (F0 m pc ls (.int 16 :: rest)) := by
  obtain ⟨hP, hD, hK, hS, hA, hE⟩ := hB
  refine va_newa C.hx C.hb (by rw [hty]; exact C.hts _ harr) hty hK hP hD hS hA ha (by decide) (N' := 16) (by decide) hbytes hcells hslots hdg (fun q cB H1 hK1 hP1 hD1 hS1 => ?_)
  have e : cB = cA := by
    have r1 := (hK.2 t0 _ ht).2
    have r2 := (hK1.2 tys.length (cB, ty) (by simp)).2
    subst hty
    cases atype <;> exact Option.some.inj (r2.symm.trans r1)
  subst e
  exact kk q H1 ⟨hP1, hD1, hK, hS1, hA, hE⟩
theorem n_putF (C : KX p s m args meth c own cc nL ret) (hin2 : meth.name = "<init>") (hB : NB D tys A s H locs ws) (q0 : Nat) {a ci : Nat} {fs : List Value} {Cn : String} {T : u_T} {N : Nat} (he : ws[q0]? = some (a, .inr (ci, fs))) (hc : classes[ci]? = some (Cn, T, N)) (hin : ∀ w ∈ u_ws Cn T N, w ∈ lw_gd) (ty0 : Nat → FieldType) (hty : ∀ k, k < N → parseFieldDescriptor (T k).2.2.1 = some (ty0 k)) (hnm : ∀ a, a < N → ∀ b, b < N → a ≠ b → (T a).2.1 ≠ (T b).2.1) (k : Nat) (hk : k < N) {index : Nat} (hl : Cond.fieldLink own index (T k).1 (T k).2.1 (T k).2.2.1 ∈ lw_gd) (hfin : (T k).2.2.2 = true) (hdecl : (T k).1 = own) {v : Value} (hn : narrow (ty0 k) v = v) (hfit : fits (ty0 k) v = true) (hlen : k < fs.length)
    (heq : ws.set q0 (a, .inr (ci, fs.set k v)) = ws') (hdg : decode cc pc = .ok (.putfield index, 3)) (kk : ∀ (H1 : Heap) (locs1 : List Loc), NB D tys A s H1 locs1 ws' → W p l e R s m args below meth c H1 locs1 cells slots Q (F0 m (pc + 3) ls rest)) : W p l e R s m args below meth c H locs cells slots Q (F0 m pc ls (v :: .ref a :: rest)) := by
  obtain ⟨hP, hD, hK, hS, hA, hE⟩ := hB
  refine va_putF C.hx C.hb C.hts hin ty0 hty hnm C.hown hK hP hD hS q0 he hc k hk (C.hts _ hl) (fun _ h => h) hfin hin2 hdecl (hty k hk) hn hfit hlen hdg (fun H1 locs1 hP hD hS => ?_)
  rw [heq] at hP hD
  exact kk H1 locs1 ⟨hP, hD, hK, hS, hA, hE⟩
theorem n_put (C : KX p s m args meth c own cc nL ret) (hB : NB D tys A s H locs ws) (q0 : Nat) {a ci : Nat} {fs : List Value} {Cn : String} {T : u_T} {N : Nat} (he : ws[q0]? = some (a, .inr (ci, fs))) (hc : classes[ci]? = some (Cn, T, N)) (hin : ∀ w ∈ u_ws Cn T N, w ∈ lw_gd) (ty0 : Nat → FieldType) (hty : ∀ k, k < N → parseFieldDescriptor (T k).2.2.1 = some (ty0 k)) (hnm : ∀ a, a < N → ∀ b, b < N → a ≠ b → (T a).2.1 ≠ (T b).2.1) (k : Nat) (hk : k < N) {index : Nat} (hl : Cond.fieldLink own index (T k).1 (T k).2.1 (T k).2.2.1 ∈ lw_gd) (hfin : (T k).2.2.2 = false) {v : Value} (hn : narrow (ty0 k) v = v) (hfit : fits (ty0 k) v = true) (hlen : k < fs.length)
    (heq : ws.set q0 (a, .inr (ci, fs.set k v)) = ws') (hdg : decode cc pc = .ok (.putfield index, 3)) (kk : ∀ (H1 : Heap) (locs1 : List Loc), NB D tys A s H1 locs1 ws' → W p l e R s m args below meth c H1 locs1 cells slots Q (F0 m (pc + 3) ls rest)) : W p l e R s m args below meth c H locs cells slots Q (F0 m pc ls (v :: .ref a :: rest)) := by
  obtain ⟨hP, hD, hK, hS, hA, hE⟩ := hB
  refine va_put C.hx C.hb C.hts hin ty0 hty hnm C.hown hK hP hD hS q0 he hc k hk (C.hts _ hl) (fun _ h => h) hfin (hty k hk) hn hfit hlen hdg (fun H1 locs1 hP hD hS => ?_)
  rw [heq] at hP hD
  exact kk H1 locs1 ⟨hP, hD, hK, hS, hA, hE⟩
theorem n_get (C : KX p s m args meth c own cc nL ret) (hB : NB D tys A s H locs ws) (q0 : Nat) {a ci : Nat} {fs : List Value} {Cn : String} {T : u_T} {N : Nat} (he : ws[q0]? = some (a, .inr (ci, fs))) (hc : classes[ci]? = some (Cn, T, N)) (hin : ∀ w ∈ u_ws Cn T N, w ∈ lw_gd) (k : Nat) (hk : k < N) {index : Nat} (hl : Cond.fieldLink own index (T k).1 (T k).2.1 (T k).2.2.1 ∈ lw_gd) {v : Value} (hv : fs[k]? = some v) (hdg : decode cc pc = .ok (.getfield index, 3)) (kk : W p l e R s m args below meth c H locs cells slots Q (F0 m (pc + 3) ls (v :: rest))) : W p l e R s m args below meth c H locs cells slots Q (F0 m pc ls (.ref a :: rest)) :=
  va_get C.hx C.hb C.hts hin C.hown hB.2.2.1 hB.1 q0 he hc k hk (C.hts _ hl) (fun _ h => h) hv hdg kk
theorem n_iast (C : KX p s m args meth c own cc nL ret) (hB : NB D tys A s H locs ws) (q0 t0 : Nat) {a : Nat} {cA : ClassId} {f : Nat → Int32} (ha : ws[q0]? = some (a, .inl (cA, 16, .inl f))) (ht : tys[t0]? = some (cA, .int)) {i x : Int32} (hin : okx i) (heq : ws.set q0 (a, .inl (cA, 16, .inl (upd f i.toNatClampNeg x))) = ws') (hdg : decode cc pc = .ok (.iastore, 1)) (kk : ∀ (H1 : Heap) (locs1 : List Loc), NB D tys A s H1 locs1 ws' → W p l e R s m args below meth c H1 locs1 cells slots Q (F0 m (pc + 1) ls rest)) : W p l e R s m args below meth c H locs cells slots Q (F0 m pc ls (.int x :: .int i :: .ref a :: rest)) := by
  obtain ⟨hP, hD, hK, hS, hA, hE⟩ := hB
  refine va_iast C.hx C.hb hK hP hD hS q0 t0 ha ht (okx_in hin) hdg (fun H1 locs1 hP hD hS => ?_)
  rw [heq] at hP hD
  exact kk H1 locs1 ⟨hP, hD, hK, hS, hA, hE⟩
theorem n_obj (C : KX p s m args meth c own cc nL ret) {idx : Nat} (hl : Cond.methodLink own idx objectInit ∈ lw_gd) {a : Nat} (hsz : ls.size = nL) (hd : decode cc pc = .ok (.invokespecial idx, 3)) (hf : 1 ≤ R.frames) (hlo : 12 ≤ R.locals) (kk : W p l e R s m args below meth c H locs cells slots Q (F0 m (pc + 3) ls [])) : W p l e R s m args below meth c H locs cells slots Q (F0 m pc ls [.ref a]) := by
  refine W.objInit C.hx C.hb C.hown (C.hts _ hl) (C.hts _ tw_47) (C.hts _ tw_48) rfl (by rw [C.hml]; exact hsz) rfl hd hf hlo ?_
  exact W.eq (g2 := F0 m (pc + 3) ls []) rfl kk
theorem n_ret (C : KX p s m args meth c own cc nL none) {wf : (Nat → Nat) → va_W} (u : Nat → Nat) (hB : NB D tys A s H locs (wf u)) (hdg : decode cc pc = .ok (.return_, 1)) : W p l e R s m args below meth c H locs cells slots (MQ below (nQ D wf A) args s cells slots A) (F0 m pc ls []) := by
  obtain ⟨hP, hD, hK, hS, hA, hE⟩ := hB
  exact W.vret C.hx C.hb C.hr (fun t ht hW => ⟨⟨u, rfl, trivial, by rw [ht]; exact hP, hD⟩, hS.F ht⟩) hS.2.2 hdg C.hlk
end NX
-- Value()
def nv : va_E := .inr (2, [.int 0, .int 0, .int 0, .int 0, .int 0, .int 0, .int 0, .long 0, .long 0, .long 0, .int 0])
theorem cnX2_init (l : Launch) (sz h0 : Nat) : Met l yX2_init (wsm yX2_init cX2_init 1 none) { frames := 1, cells := 0, slots := 0, locals := 12 } (va_Pc [.ref h0] (fun U => U.heap.size = sz)) (va_Qv (fun _ : Nat => True) (fun _ _ => True) (fun _ => False)) 0 0 (fun _ => False) := by
  refine Met.ofW (cc := cX2_init) (maxL := 1) (ret := none) (by decide) rfl ?_
  intro p e s m args below meth c s₁ B hml hv
  obtain ⟨rfl, hsz⟩ := hv
  have hts := atoms_spec (ws := wsm yX2_init cX2_init 1 none) B.pre
  have hl := lv_entry ([.ref h0]) (n := 1) (Nat.le_of_ble_eq_true rfl)
  rw [lg_entry_eq]
  generalize (lg_sl [.ref h0] ++ List.replicate (1 - (lg_sl [.ref h0]).length) Slot.unset).toArray = ls at hl ⊢
  have C : KX p s m ([.ref h0] : List Value).toArray meth c RX2 cX2_init 1 none := ⟨B.exec, B.bytes, hml, findClass_of_methodNamed B.named, fun w h => hts w (List.mem_cons_of_mem _ h), B.returns, B.notSynchronized⟩
  have hl : lv_has ls 1 [(0, .ref h0)] := hl
  refine lv_aload_n C.hx C.hb dX2_init_0 rfl (lv_at hl 0 rfl) ?_
  refine n_obj C tw_61 hl.1 dX2_init_1 (Nat.le_refl 1) (Nat.le_refl 12) ?_
  exact W.vret C.hx C.hb C.hr (fun t ht hW => ⟨⟨0, rfl, trivial, trivial⟩, (va_S.rf (A := fun _ => False)).F ht⟩) (va_S.rf (A := fun _ => False) (H0 := s.heap)).2.2 dX2_init_4 C.hlk
