/-! THE CLAIM OUT OF ONE WALK OF THE LAW'S BODY. Your part is whole_start (and what it stands on); all else here is the same for every law, but numbers. -/
def R_law : String := "BitTunerLaw"
def lw_P (b : Addr) (xs : List Int32) (args : Array Value) (s : State) : Prop := args = #[.ref b] ∧ s.IntsAt b xs ∧ xs.length ≤ 2048 ∧ (Jvm.Cond.and given_1 narrow_1).before args s = true
/-- what a walk over the start with the record d0 says of its end, said of the start itself -/
theorem lw_closed {s t : State} {o : Outcome} {d0 : Drawn} {L : List Loc} {k n : Nat} (hd0 : s.drawn.sameBut d0 lw_cs) (hv : ∃ v, o = .returned v) (hW : (s.setDrawn d0).WarmedH t.vm) (hs : (s.setDrawn d0).sameButNew ({ t with vm := s.vm } : State) L k n) : State.butDraws s t lw_cs (fun t1 => Framed s o t1 L k n) := by
  have h2 : t.drawn = d0 := congrArg State.drawn hs.1
  refine ⟨⟨hv, hW, State.sameButNew.setDrawn hs s.drawn⟩, ?_, by decide⟩
  rw [h2]
  exact hd0
def lw_Q (_ : Array Value) (s : State) (o : Outcome) (t : State) : Prop := o = .returned (some (.int 1)) ∧ State.butDraws s t lw_cs (fun t1 => Framed s o t1 [] 600000 7302250)
def lw_Z (below : List Frame) (a : Array Value) (s : State) : State → Prop := fun t => ∃ o, t.status = .running ∧ Ended t below o ∧ lw_Q a s o t
/-- the law's own end, with 1 on the stack, nothing written that was there before, its room as the claim has it; d0: the record of draws at this point (at the entry s.drawn: begin with 'refine W.base ?_' and 'have hd0 := Drawn.sameBut.refl s.drawn lw_cs') -/
theorem lw_ret {p : Program} {l : Launch} {e : Env} {s : State} {m : MethodId} {below : List Frame} {meth : Method} {c : Code} {b : Nat} {d0 : Drawn} (hd0 : s.drawn.sameBut d0 lw_cs) (hx : p.tables.exec = Jvm.exec) (hb : c.code = code) (hr : meth.sig.returnType = ret) (hlocks : meth.locks = false) {pc : Nat} {H : Heap} {ls : Array Slot} (hdg : decode code pc = .ok (.ireturn, 1)) : W p l e room_1 (s.setDrawn d0) m #[Value.ref b] below meth c H [] 600000 7302250 (lw_Z below #[Value.ref b] s) (F0 m pc ls [.int 1]) := by
  intro T hT X
  obtain ⟨fs, hret, hrun, hended, hW, hframe⟩ := X.leave (v := some (.int 1)) (hlocks := hlocks) (fun h => by rw [hr] at h; cases h)
  have hmeth' : T.vm.method? m = some meth := X.method'
  refine ⟨T.setFrames fs, ?_, .returned (some (.int 1)), hrun, hended, rfl, lw_closed hd0 ⟨_, rfl⟩ hW hframe⟩
  jvm_step X.here [X.here.top, hx, hb, hdg, hmeth', hr, ret, narrow_b1]
  (try refine ⟨rfl, ?_⟩); (try refine ⟨rfl, ?_⟩)
  first | (intro acts; rw [hret _ acts rfl rfl rfl]) | rw [hret _ _ rfl rfl rfl]
  exact Steps.refl _
/-- what holds at the law's entry: the machine, the code, the tables' words (any of lw_tbl by 'hts w (by decide +kernel)'), the script of L ints xs at the cell b, what the Statement gives of the start (any of its parts by flat_of_before) -/
def lw_At (p : Program) (s : State) (m : MethodId) (meth : Method) (c : Code) (b L : Nat) (xs : Nat → Int32) : Prop :=
  p.tables.exec = Jvm.exec ∧ c.code = code ∧ meth.sig.returnType = ret ∧ c.maxLocals = 8 ∧ s.vm.findClass R_law = some m.cls ∧ (∀ w ∈ lw_tbl, w.before #[Value.ref b] s = true) ∧ va_X b L xs s s.heap ∧ b < s.heap.size ∧ meth.locks = false ∧ (Jvm.Cond.and given_1 narrow_1).before #[Value.ref b] s = true
def LL (p : Program) (l : Launch) (e : Env) (s : State) (m : MethodId) (below : List Frame) (meth : Method) (c : Code) (D : va_G) (cI cJ cV cZ : ClassId) (ax am : Nat → Nat) (b i : Nat) : Prop := ∀ (n : Nat) (H : Heap) (locs : List Loc) (ls : Array Slot) (I : TI) (J : TJ) (K : TI) (L : TJ), LB D cI cJ cV cZ ax am s H locs I J K L → Cp n I J K L → lv_has ls 8 [(3, .int (nI i)), (0, .ref b), (1, .ref (ax 0)), (2, .ref (am 0))] → W p l e room_1 s m #[Value.ref b] below meth c H locs 600000 7302250 (lw_Z below #[Value.ref b] s) (F0 m 18 ls [])
set_option maxHeartbeats 4000000 in
set_option maxRecDepth 100000 in
theorem law_step {p : Program} {l : Launch} {e : Env} {s : State} {m : MethodId} {below : List Frame} {meth : Method} {c : Code} {D : va_G} {cI cJ cV cZ : ClassId} {ax am : Nat → Nat} {b N i : Nat} {xs : Nat → Int32} (C : KX p s m #[Value.ref b] meth c RL cL_law 8 ret) (hX : va_X b N xs s s.heap) (hbl : b < s.heap.size) (hN : N ≤ 2048) (hiN : i ≤ N + 4) (ih : i + 4 ≤ N → LL p l e s m below meth c D cI cJ cV cZ ax am b (i + 4)) : LL p l e s m below meth c D cI cJ cV cZ ax am b i := by
  intro n H locs ls I J K L hB hC hl
  have hS := hB.2.2.2.2.2.2.2.2.1
  have e4 : (4 : Int32) = nI 4 := rfl
  refine lv_iload_n C.hx C.hb dL_law_18 rfl (lv_at hl 0 rfl) ?_
  refine lv_aload_n C.hx C.hb dL_law_19 rfl (lv_at hl 1 rfl) ?_
  refine va_slen C.hx C.hb hX hbl (Nat.not_le.mpr hbl) hS dL_law_20 ?_
  refine lv_iconst (v := (4 : Int32)) C.hx C.hb dL_law_21 (by decide) ?_
  refine lv_isub C.hx C.hb dL_law_22 ?_
  have eN : (Int32.ofNat N - 4).toInt = (N : Int) - 4 := pk_sub_toInt (b := 4) (by omega) (by omega)
  refine lv_icmp_gt (tgt := 1049) C.hx C.hb dL_law_23 (by decide) (fun _ => ?_) (fun z => ?_)
  · refine lv_iconst (v := (1 : Int32)) C.hx C.hb dL_law_1049 (by decide) ?_
    refine va_forget (fun q hq => hS.2.2 q hq) ?_
    exact lw_ret (s := s) (d0 := s.drawn) (Drawn.sameBut.refl s.drawn lw_cs) C.hx C.hb C.hr C.hlk dL_law_1050
  · have hi : i + 4 ≤ N := by
      rw [lt32, eN, nI_toInt (by omega)] at z; omega
    refine lv_aload_n C.hx C.hb dL_law_26 rfl (lv_at hl 1 rfl) ?_
    refine lv_iload_n C.hx C.hb dL_law_27 rfl (lv_at hl 0 rfl) ?_
    refine va_sld C.hx C.hb hX hbl (Nat.not_le.mpr hbl) hS (nI_in (show i < N by omega) (by omega)) dL_law_28 ?_
    refine lv_bipush (v := (31 : Int32)) C.hx C.hb dL_law_29 (by decide) ?_
    refine lv_iand C.hx C.hb dL_law_31 ?_
    have kk : lkk p l e s m #[Value.ref b] below meth c (lw_Z below #[Value.ref b] s) D cI cJ cV cZ ax am b i := by
      intro n H locs ls I J K L hB hC hl
      refine lv_iinc (v := nI (i + 4)) (lv' := [(3, .int (nI (i + 4))), (0, .ref b), (1, .ref (ax 0)), (2, .ref (am 0))]) C.hx C.hb dL_law_1043 hl (k := 0) rfl (nI_add i 4) (by decide) rfl (fun ls hl => ?_)
      refine lv_goto (tgt := 18) C.hx C.hb dL_law_1046 (by decide) ?_
      exact ih hi n H locs ls I J K L hB hC hl
    generalize (xs (nI i).toNatClampNeg &&& 31) = x
    by_cases o : x.toInt < 0 ∨ 26 < x.toInt
    · exact lv_tableOut (tgt := 1043) C.hx C.hb dL_law_32 o (by decide) (kk n H locs ls I J K L hB hC hl)
    · have hk : x.toInt = 0 ∨ x.toInt = 1 ∨ x.toInt = 2 ∨ x.toInt = 3 ∨ x.toInt = 4 ∨ x.toInt = 5 ∨ x.toInt = 6 ∨ x.toInt = 7 ∨ x.toInt = 8 ∨ x.toInt = 9 ∨ x.toInt = 10 ∨ x.toInt = 11 ∨ x.toInt = 12 ∨ x.toInt = 13 ∨ x.toInt = 14 ∨ x.toInt = 15 ∨ x.toInt = 16 ∨ x.toInt = 17 ∨ x.toInt = 18 ∨ x.toInt = 19 ∨ x.toInt = 20 ∨ x.toInt = 21 ∨ x.toInt = 22 ∨ x.toInt = 23 ∨ x.toInt = 24 ∨ x.toInt = 25 ∨ x.toInt = 26 := by omega
      rcases hk with hk | hk | hk | hk | hk | hk | hk | hk | hk | hk | hk | hk | hk | hk | hk | hk | hk | hk | hk | hk | hk | hk | hk | hk | hk | hk | hk
      · exact lv_tableIn (off := 124) (tgt := 156) C.hx C.hb dL_law_32 (by rw [hk]; decide) (by rw [hk]; decide) (by rw [hk]; rfl) (by decide) (law_0 C hX hbl hN hi hB hC hl kk)
      · exact lv_tableIn (off := 157) (tgt := 189) C.hx C.hb dL_law_32 (by rw [hk]; decide) (by rw [hk]; decide) (by rw [hk]; rfl) (by decide) (law_1 C hX hbl hN hi hB hC hl kk)
      · exact lv_tableIn (off := 180) (tgt := 212) C.hx C.hb dL_law_32 (by rw [hk]; decide) (by rw [hk]; decide) (by rw [hk]; rfl) (by decide) (law_2 C hX hbl hN hi hB hC hl kk)
      · exact lv_tableIn (off := 223) (tgt := 255) C.hx C.hb dL_law_32 (by rw [hk]; decide) (by rw [hk]; decide) (by rw [hk]; rfl) (by decide) (law_3 C hX hbl hN hi hB hC hl kk)
      · exact lv_tableIn (off := 246) (tgt := 278) C.hx C.hb dL_law_32 (by rw [hk]; decide) (by rw [hk]; decide) (by rw [hk]; rfl) (by decide) (law_4 C hX hbl hN hi hB hC hl kk)
      · exact lv_tableIn (off := 279) (tgt := 311) C.hx C.hb dL_law_32 (by rw [hk]; decide) (by rw [hk]; decide) (by rw [hk]; rfl) (by decide) (law_5 C hX hbl hN hi hB hC hl kk)
      · exact lv_tableIn (off := 312) (tgt := 344) C.hx C.hb dL_law_32 (by rw [hk]; decide) (by rw [hk]; decide) (by rw [hk]; rfl) (by decide) (law_6 C hX hbl hN hi hB hC hl kk)
      · exact lv_tableIn (off := 345) (tgt := 377) C.hx C.hb dL_law_32 (by rw [hk]; decide) (by rw [hk]; decide) (by rw [hk]; rfl) (by decide) (law_7 C hX hbl hN hi hB hC hl kk)
      · exact lv_tableIn (off := 379) (tgt := 411) C.hx C.hb dL_law_32 (by rw [hk]; decide) (by rw [hk]; decide) (by rw [hk]; rfl) (by decide) (law_8 C hX hbl hN hi hB hC hl kk)
      · exact lv_tableIn (off := 392) (tgt := 424) C.hx C.hb dL_law_32 (by rw [hk]; decide) (by rw [hk]; decide) (by rw [hk]; rfl) (by decide) (law_9 C hX hbl hN hi hB hC hl kk)
      · exact lv_tableIn (off := 425) (tgt := 457) C.hx C.hb dL_law_32 (by rw [hk]; decide) (by rw [hk]; decide) (by rw [hk]; rfl) (by decide) (law_10 C hX hbl hN hi hB hC hl kk)
      · exact lv_tableIn (off := 468) (tgt := 500) C.hx C.hb dL_law_32 (by rw [hk]; decide) (by rw [hk]; decide) (by rw [hk]; rfl) (by decide) (law_11 C hX hbl hN hi hB hC hl kk)
      · exact lv_tableIn (off := 492) (tgt := 524) C.hx C.hb dL_law_32 (by rw [hk]; decide) (by rw [hk]; decide) (by rw [hk]; rfl) (by decide) (law_12 C hX hbl hN hi hB hC hl kk)
      · exact lv_tableIn (off := 516) (tgt := 548) C.hx C.hb dL_law_32 (by rw [hk]; decide) (by rw [hk]; decide) (by rw [hk]; rfl) (by decide) (law_13 C hX hbl hN hi hB hC hl kk)
      · exact lv_tableIn (off := 540) (tgt := 572) C.hx C.hb dL_law_32 (by rw [hk]; decide) (by rw [hk]; decide) (by rw [hk]; rfl) (by decide) (law_14 C hX hbl hN hi hB hC hl kk)
      · exact lv_tableIn (off := 591) (tgt := 623) C.hx C.hb dL_law_32 (by rw [hk]; decide) (by rw [hk]; decide) (by rw [hk]; rfl) (by decide) (law_15 C hX hbl hN hi hB hC hl kk)
      · exact lv_tableIn (off := 644) (tgt := 676) C.hx C.hb dL_law_32 (by rw [hk]; decide) (by rw [hk]; decide) (by rw [hk]; rfl) (by decide) (law_16 C hX hbl hN hi hB hC hl kk)
      · exact lv_tableIn (off := 657) (tgt := 689) C.hx C.hb dL_law_32 (by rw [hk]; decide) (by rw [hk]; decide) (by rw [hk]; rfl) (by decide) (law_17 C hX hbl hN hi hB hC hl kk)
      · exact lv_tableIn (off := 681) (tgt := 713) C.hx C.hb dL_law_32 (by rw [hk]; decide) (by rw [hk]; decide) (by rw [hk]; rfl) (by decide) (law_18 C hX hbl hN hi hB hC hl kk)
      · exact lv_tableIn (off := 704) (tgt := 736) C.hx C.hb dL_law_32 (by rw [hk]; decide) (by rw [hk]; decide) (by rw [hk]; rfl) (by decide) (law_19 C hX hbl hN hi hB hC hl kk)
      · exact lv_tableIn (off := 767) (tgt := 799) C.hx C.hb dL_law_32 (by rw [hk]; decide) (by rw [hk]; decide) (by rw [hk]; rfl) (by decide) (law_20 C hX hbl hN hi hB hC hl kk)
      · exact lv_tableIn (off := 830) (tgt := 862) C.hx C.hb dL_law_32 (by rw [hk]; decide) (by rw [hk]; decide) (by rw [hk]; rfl) (by decide) (law_21 C hX hbl hN hi hB hC hl kk)
      · exact lv_tableIn (off := 893) (tgt := 925) C.hx C.hb dL_law_32 (by rw [hk]; decide) (by rw [hk]; decide) (by rw [hk]; rfl) (by decide) (law_22 C hX hbl hN hi hB hC hl kk)
      · exact lv_tableIn (off := 917) (tgt := 949) C.hx C.hb dL_law_32 (by rw [hk]; decide) (by rw [hk]; decide) (by rw [hk]; rfl) (by decide) (law_23 C hX hbl hN hi hB hC hl kk)
      · exact lv_tableIn (off := 951) (tgt := 983) C.hx C.hb dL_law_32 (by rw [hk]; decide) (by rw [hk]; decide) (by rw [hk]; rfl) (by decide) (law_24 C hX hbl hN hi hB hC hl kk)
      · exact lv_tableIn (off := 974) (tgt := 1006) C.hx C.hb dL_law_32 (by rw [hk]; decide) (by rw [hk]; decide) (by rw [hk]; rfl) (by decide) (law_25 C hX hbl hN hi hB hC hl kk)
      · exact lv_tableIn (off := 997) (tgt := 1029) C.hx C.hb dL_law_32 (by rw [hk]; decide) (by rw [hk]; decide) (by rw [hk]; rfl) (by decide) (law_26 C hX hbl hN hi hB hC hl kk)
theorem law_loop {p : Program} {l : Launch} {e : Env} {s : State} {m : MethodId} {below : List Frame} {meth : Method} {c : Code} {D : va_G} {cI cJ cV cZ : ClassId} {ax am : Nat → Nat} {b N : Nat} {xs : Nat → Int32} (C : KX p s m #[Value.ref b] meth c RL cL_law 8 ret) (hX : va_X b N xs s s.heap) (hbl : b < s.heap.size) (hN : N ≤ 2048) : ∀ d i, N ≤ i + d + 3 → i ≤ N + 4 → LL p l e s m below meth c D cI cJ cV cZ ax am b i := by
  intro d
  induction d with
  | zero => intro i h1 h2; exact law_step C hX hbl hN h2 (fun h => by omega)
  | succ d ih => intro i h1 h2; exact law_step C hX hbl hN h2 (fun h => ih (i + 4) (by omega) (by omega))
def amj (h0 : Nat) (u : Nat → Nat) : Nat → Nat := fun n => if n = 0 then h0 else u (n - 1)
theorem xw_fst (cI cJ cV : ClassId) (ad : Nat → Nat) (I : TI) (J : TJ) : (xw cI cJ cV ad I J).map Prod.fst = xL ad := rfl
theorem mw_fst (cI cJ cZ : ClassId) (ad : Nat → Nat) (I : TI) (J : TJ) : (mw cI cJ cZ ad I J).map Prod.fst = mL ad := rfl
theorem at_fst {ws : va_W} {q : Nat} (h : q ∈ ws.map Prod.fst) : ∃ (k : Nat) (x : Nat × va_E), ws[k]? = some x ∧ x.1 = q := by
  obtain ⟨x, h1, h2⟩ := List.mem_map.mp h
  obtain ⟨k, hk⟩ := List.mem_iff_getElem?.mp h1
  exact ⟨k, x, hk, h2⟩
theorem Cp.zero : Cp 0 zI zJ zK zJ := by
  refine ⟨⟨by omega, fun k hk => absurd hk (by omega)⟩, rfl, rfl, fun k hk => absurd hk (by omega), fun k hk => Or.inl ⟨rfl, ?_⟩⟩
  show (if k < 16 then (-2 : Int32) else 0) = -2
  rw [if_pos hk]
theorem nb_lb {D : va_G} {cI cJ cV cZ : ClassId} {q0 q1 : Nat} {u u2 : Nat → Nat} {s : State} {H : Heap} {locs : List Loc} (hN : xN s) (hB : NB D (nt cI cJ cV cZ) (fun q => s.heap.size ≤ q) s H locs (wnX4 cI cJ cV q0 u ++ wnX5 cI cJ cV cZ q1 u2)) : LB D cI cJ cV cZ (adj q0 u) (amj q1 u2) s H locs zI zJ zK zJ := by
  obtain ⟨hP, hD, hK, hS, hA, hE⟩ := hB
  have em : wnX5 cI cJ cV cZ q1 u2 = mw cI cJ cZ (amj q1 u2) zK zJ := rfl
  have ex : wnX4 cI cJ cV q0 u = xw cI cJ cV (adj q0 u) zI zJ := rfl
  rw [em, ex] at hP hD
  have lx : (xw cI cJ cV (adj q0 u) zI zJ).length = 28 := rfl
  have ix : ∀ (k : Nat) (q : Nat × va_E), (xw cI cJ cV (adj q0 u) zI zJ)[k]? = some q → (xw cI cJ cV (adj q0 u) zI zJ ++ mw cI cJ cZ (amj q1 u2) zK zJ)[k]? = some q := fun k q hk => by
    rw [List.getElem?_append_left (List.getElem?_eq_some_iff.mp hk).1]; exact hk
  have im : ∀ (k : Nat) (q : Nat × va_E), (mw cI cJ cZ (amj q1 u2) zK zJ)[k]? = some q → (xw cI cJ cV (adj q0 u) zI zJ ++ mw cI cJ cZ (amj q1 u2) zK zJ)[28 + k]? = some q := fun k q hk => by
    rw [List.getElem?_append_right (by rw [lx]; omega), lx, Nat.add_sub_cancel_left]; exact hk
  refine ⟨fun k q hk => hP k q (ix k q hk), fun k q hk => hP _ q (im k q hk), ⟨fun i j x y hi hj h => hD.1 i j x y (ix i x hi) (ix j y hj) h, fun _ _ _ => trivial⟩, ⟨fun i j x y hi hj h => by have := hD.1 _ _ x y (im i x hi) (im j y hj) h; omega, fun _ _ _ => trivial⟩, fun q h1 h2 => ?_, fun q h => ?_, fun q h => ?_, hK, hS, hN⟩
  · obtain ⟨k, x, k1, k2⟩ := at_fst (ws := xw cI cJ cV (adj q0 u) zI zJ) h1
    obtain ⟨j, y, j1, j2⟩ := at_fst (ws := mw cI cJ cZ (amj q1 u2) zK zJ) h2
    have := hD.1 _ _ x y (ix k x k1) (im j y j1) (k2.trans j2.symm)
    have := (List.getElem?_eq_some_iff.mp k1).1
    rw [lx] at this
    omega
  · obtain ⟨k, x, k1, k2⟩ := at_fst (ws := xw cI cJ cV (adj q0 u) zI zJ) h
    rw [← k2]; exact hD.2 _ x (ix k x k1)
  · obtain ⟨k, x, k1, k2⟩ := at_fst (ws := mw cI cJ cZ (amj q1 u2) zK zJ) h
    rw [← k2]; exact hD.2 _ x (im k x k1)
theorem arrK {ty : FieldType} {args : Array Value} {s : State} (h : (Cond.arrayClass ty).before args s = true) : ∃ cA : ClassId, ArrOfT s cA ty ∧ s.vm.findClass ("[" ++ ty.toString) = some cA := by
  obtain ⟨cA, kA, comp, hf, hk, hkind⟩ := Cond.arrayClass_spec h
  exact ⟨cA, fun n z => ⟨(fun k h => by cases h), kA, hk, comp, hkind⟩, hf⟩
-- ===== YOUR PART BEGINS =====
set_option maxHeartbeats 4000000 in
set_option maxRecDepth 100000 in
theorem whole_start {p : Program} {e : Env} {s : State} {m : MethodId} {below : List Frame} {meth : Method} {c : Code} (l : Launch) {b L : Nat} {xs : Nat → Int32} (hL : L ≤ 2048) (C0 : lw_At p s m meth c b L xs) : W p l e room_1 s m #[Value.ref b] below meth c s.heap [] 0 0 (lw_Z below #[Value.ref b] s) (entryFrame m ([Value.ref b] : List Value).toArray 8) := by
  obtain ⟨hx, hb, hr, hml, hown, hts, hX, hbl, hlocks, hgv⟩ := id C0
  have C : KX p s m #[Value.ref b] meth c RL cL_law 8 ret := ⟨hx, hb, hml, hown, gd_tbl hts, hr, hlocks⟩
  obtain ⟨c0, i0, k0⟩ := u_known (C := RX0) (T := TX0) (N := 2) (n := 2) C.hts inX0 (C.hts _ tw_50)
  obtain ⟨c1, i1, k1⟩ := u_known (C := RX1) (T := TX1) (N := 5) (n := 5) C.hts inX1 (C.hts _ tw_138)
  obtain ⟨c2, i2, k2⟩ := u_known (C := RX2) (T := TX2) (N := 11) (n := 11) C.hts inX2 (C.hts _ tw_57)
  obtain ⟨c3, i3, k3⟩ := u_known (C := RX3) (T := TX3) (N := 5) (n := 5) C.hts inX3 (C.hts _ tw_165)
  obtain ⟨c4, i4, k4⟩ := u_known (C := RX4) (T := TX4) (N := 3) (n := 3) C.hts inX4 (C.hts _ tw_42)
  obtain ⟨c5, i5, k5⟩ := u_known (C := RX5) (T := TX5) (N := 19) (n := 19) C.hts inX5 (C.hts _ tw_552)
  obtain ⟨D, hKc⟩ : ∃ D : va_G, ∀ (k : Nat) (q : vw_C), classes[k]? = some q → u_Kn s q.1 q.2.1 q.2.2 (D.1 k) (D.2 k) := by
    refine ⟨(fun k => [c0, c1, c2, c3, c4, c5].getD k c0, fun k => [i0, i1, i2, i3, i4, i5].getD k i0), fun k q hq => ?_⟩
    match k, hq with
    | 0, hq => cases hq; exact k0
    | 1, hq => cases hq; exact k1
    | 2, hq => cases hq; exact k2
    | 3, hq => cases hq; exact k3
    | 4, hq => cases hq; exact k4
    | 5, hq => cases hq; exact k5
    | k + 6, hq => simp [classes] at hq
  obtain ⟨cI, aI, fI⟩ := arrK (C.hts _ tw_162)
  obtain ⟨cJ, aJ, fJ⟩ := arrK (C.hts _ tw_163)
  obtain ⟨cZ, aZ, fZ⟩ := arrK (C.hts _ tw_615)
  have hover : (Cond.arrayOver (.object RX2)).before #[Value.ref b] s = true := hts _ (by decide +kernel)
  obtain ⟨comp, cV, kV, v1, v2, v3, v4, v5⟩ := Cond.arrayOver_spec hover
  have hK : va_K D classes (nt cI cJ cV cZ) s := ⟨hKc, fun k q hq => by
    match k, hq with
    | 0, hq => cases hq; exact ⟨aI, fI⟩
    | 1, hq => cases hq; exact ⟨aJ, fJ⟩
    | 2, hq => cases hq; exact ⟨fun N z => ⟨(fun k h => by cases h), kV, v3, comp, v4⟩, kV, comp, v3, v4, v1, v5⟩
    | 3, hq => cases hq; exact ⟨aZ, fZ⟩⟩
  have hE : xE s := ⟨va_AO.of hover, va_Nw.of rfl (hts _ (by decide +kernel))⟩
  have hN : xN s := ⟨va_Nw.of rfl (hts _ (by decide +kernel)), va_Nw.of rfl (hts _ (by decide +kernel)), va_Nw.of rfl (hts _ (by decide +kernel)), va_Nw.of rfl (hts _ (by decide +kernel)), va_Nw.of rfl (hts _ (by decide +kernel))⟩
  have hB : NB D (nt cI cJ cV cZ) (fun q => s.heap.size ≤ q) s s.heap [] [] := ⟨fun k q h => by simp at h, ⟨fun i j p q h => by simp at h, fun k q h => by simp at h⟩, hK, va_S.rf, fun _ h => h, hE⟩
  have hl := lv_entry ([.ref b]) (n := 8) (Nat.le_of_ble_eq_true rfl)
  rw [lg_entry_eq]
  generalize (lg_sl ([.ref b]) ++ List.replicate (8 - (lg_sl ([.ref b])).length) Slot.unset).toArray = ls at hl ⊢
  have hl : lv_has ls 8 [(0, .ref b)] := hl
  refine n_new (ws := []) (ci := 4) (fs := [.null, .null, .null]) C hB inX4 tyX4 tyX4_ok tw_41 tw_42 tw_33 rfl (by decide +kernel) (Nat.le_of_ble_eq_true rfl) (Nat.le_of_ble_eq_true rfl) dL_law_0 (fun q0 H hB => ?_)
  refine lv_dup C.hx C.hb dL_law_3 rfl ?_
  refine n_ctor (ws := []) (rest := [.ref q0]) C hB [] (cnX4_init l D cI cJ cV cZ H.size q0) tw_43 tw_44 tw_33 tw_45 rfl ⟨rfl, rfl⟩ (by decide +kernel) ⟨Nat.le_of_ble_eq_true rfl, Nat.le_of_ble_eq_true rfl⟩ ⟨Nat.le_of_ble_eq_true rfl, Nat.le_of_ble_eq_true rfl⟩ hl.1 rfl (Nat.le_of_ble_eq_true rfl) dL_law_4 (fun u H locs hB => ?_)
  refine lv_astore_n (lv' := [(1, .ref q0), (0, .ref b)]) C.hx C.hb dL_law_7 rfl hl (by decide) rfl (fun ls hl => ?_)
  refine n_new (ws := wnX4 cI cJ cV q0 u) (ci := 5) (fs := [.int 0, .null, .null, .null, .null, .null, .null, .null, .null, .null, .null, .null, .null, .null, .null, .null, .null, .null, .null]) C hB inX5 tyX5 tyX5_ok tw_551 tw_552 tw_38 rfl (by decide +kernel) (Nat.le_of_ble_eq_true rfl) (Nat.le_of_ble_eq_true rfl) dL_law_8 (fun q1 H hB => ?_)
  refine lv_dup C.hx C.hb dL_law_11 rfl ?_
  refine n_ctor (ws := wnX4 cI cJ cV q0 u) (rest := [.ref q1]) C hB [] (cnX5_init l D cI cJ cV cZ H.size q1) tw_553 tw_554 tw_38 tw_555 rfl ⟨rfl, rfl⟩ (by decide +kernel) ⟨Nat.le_of_ble_eq_true rfl, Nat.le_of_ble_eq_true rfl⟩ ⟨Nat.le_of_ble_eq_true rfl, Nat.le_of_ble_eq_true rfl⟩ hl.1 rfl (Nat.le_of_ble_eq_true rfl) dL_law_12 (fun u2 H locs hB => ?_)
  refine lv_astore_n (lv' := [(2, .ref q1), (1, .ref q0), (0, .ref b)]) C.hx C.hb dL_law_15 rfl hl (by decide) rfl (fun ls hl => ?_)
  refine lv_iconst (v := (0 : Int32)) C.hx C.hb dL_law_16 (by decide) ?_
  refine lv_istore_n (lv' := [(3, .int (0 : Int32)), (2, .ref q1), (1, .ref q0), (0, .ref b)]) C.hx C.hb dL_law_17 rfl hl (by decide) rfl (fun ls hl => ?_)
  refine W.widen (k := 600000) (n := 7302250) (Nat.le_of_ble_eq_true rfl) (Nat.le_of_ble_eq_true rfl) ?_
  exact law_loop (ax := adj q0 u) (am := amj q1 u2) C hX hbl hL L 0 (by omega) (by omega) 0 H locs ls zI zJ zK zJ (nb_lb hN hB) Cp.zero (lv_sub hl [0, 3, 2, 1] rfl)
-- ===== YOUR PART ENDS =====
set_option maxHeartbeats 4000000 in
theorem lw_walk (l : Launch) (b : Addr) (xs : List Int32) : MetFree l x (headSpec (Jvm.Cond.code x code maxLocals ret :: tables_1) room_1) (lw_P b xs) (fun _ _ _ _ _ => True) lw_Q := by
  refine MetFree.of_bodyS (code := code) (maxLocals := maxLocals) (ret := ret) (by decide) ?_ ?_
  · intro args s m h hn
    obtain ⟨meth, c, h1, h2, h3, h4, h5, h6, -, -⟩ := Cond.code_spec hn (atoms_spec (ws := Jvm.Cond.code x code maxLocals ret :: tables_1) h _ List.mem_cons_self)
    exact ⟨meth, c, h1, h2, h3, h4, h5, h6⟩
  · intro p e s m args below meth c s₁ B hml0 hP _
    obtain ⟨rfl, hx, hbd, hgv⟩ := hP
    obtain ⟨scr, harrAt, hlist, hof, hsmall⟩ := hx
    obtain ⟨hcb, hkn, -, -⟩ := State.arrayAt?_spec harrAt
    have hown : s.vm.findClass R_law = some m.cls := findClass_of_methodNamed B.named
    have hts0 : ∀ c ∈ (Jvm.Cond.code x code maxLocals ret :: tables_1), c.before #[Value.ref b] s = true := atoms_spec (ws := Jvm.Cond.code x code maxLocals ret :: tables_1) B.pre
    have hts : ∀ w ∈ lw_tbl, w.before #[Value.ref b] s = true := k2_hts_sels lw_privs (fun w hw => hts0 w (List.mem_cons_of_mem _ hw)) lw_privs_ok
    have hml : c.maxLocals = 8 := B.maxLocals_eq (hts0 _ List.mem_cons_self)
    have X₀ : Stand p l e room_1 s m #[Value.ref b] below meth c s₁ [] 0 0 := Stand.of_body B
    have hh0 : s₁.heap = s.heap := by rw [B.state]; rfl
    have hsz : scr.slots.size = xs.length := by rw [← Array.length_toList, hlist, List.length_map]
    have hval : ∀ j : Nat, j < xs.length → scr.slots[j]? = some (.int (xs.getD j 0)) := fun j hj => by
      rw [← Array.getElem?_toList, hlist]
      simp [hj]
    have hbl : b < s.heap.size := (Array.getElem?_eq_some_iff.mp hcb).1
    have hX : va_X b xs.length (fun j => xs.getD j 0) s s.heap := ⟨scr, hcb, hof, hkn, hsz, hval⟩
    have K : W p l e room_1 s m #[Value.ref b] below meth c s₁.heap [] 0 0 (lw_Z below #[Value.ref b] s) (entryFrame m ([Value.ref b] : List Value).toArray 8) := by
      rw [hh0]
      exact whole_start l hbd ⟨B.exec, B.bytes, B.returns, hml, hown, hts, hX, hbl, B.notSynchronized, hgv⟩
    obtain ⟨t, a1, o, b1, b2, b3⟩ := K s₁ rfl X₀
    exact ⟨t, o, a1, b1, b2, b3⟩
theorem lw_pre_spec {args : Array Value} {s : State} (h : (Jvm.Cond.and given_1 narrow_1).before args s = true) (hr : rest_1_c.before args s = true) : ∃ (b : Addr) (xs : List Int32), lw_P b xs args s := by
  have hs := flat_of_before _ h
  have hq := flat_of_before _ hr
  have hc : (Cond.count 1).before args s = true := hs _ (by decide +kernel)
  have harr : (Cond.arrayOf (.arg 0) .int).before args s = true := hs _ (by decide +kernel)
  have hle : (Cond.le (.length (.arg 0)) (.int 2048)).before args s = true := hs _ (by decide +kernel)
  have hlen : (Cond.isInt (.length (.arg 0))).before args s = true := hq _ (by decide +kernel)
  have hall : (Cond.all (.arg 0) (.isInt (.elem (.arg 0) (.index 0)))).before args s = true := hq _ (by decide +kernel)
  obtain ⟨b, xs, hb, hx⟩ := State.ints_of_pre rfl harr hlen hall
  have hsm : xs.length < 2 ^ 31 := hx.choose_spec.2.2.2
  have hev : (Term.length (.arg 0)).eval args s none [] s = some (.int xs.length.toInt32) := hx.length_eval hb
  have hv := Cond.le_ints hev (show (Term.int 2048).eval args s none [] s = some (.int 2048) from rfl)
  have hd : xs.length.toInt32 ≤ 2048 := by
    simpa [Cond.before, Cond.holds, hv] using hle
  have hN : xs.length ≤ 2048 := (Int32.ofNat_le_ofNat hsm (by decide)).mp (show Int32.ofNat xs.length ≤ Int32.ofNat 2048 from hd)
  exact ⟨b, xs, Cond.one_arg hc (show args[0]? = some (.ref b) from hb), hx, hN, h⟩
theorem lw_comes (l : Launch) : Comes l x (Jvm.Cond.code x code maxLocals ret :: tables_1) room_1 (fun tb e args s => Calls_1 tb e args s ∧ rest_1 tb e args s ∧ Pre_1 tb e args s)
    (fun _ _ args s o t => lw_Q args s o t) := by
  intro p e ha hc hk s m args below hf hfit hheap happ hpre
  obtain ⟨b, xs, hP⟩ := lw_pre_spec hpre.2.2 hpre.2.1
  obtain ⟨k, o, h1, h2, h3, hQ⟩ := lw_walk l b xs p e ha hc hk s m args below hf ((Spec.applies_iff_loose hf).mp happ).1 hP trivial
  exact ⟨k, o, h1, h2, h3, hQ⟩
theorem lw_frame {s t : State} {o : Outcome} {args : Array Value} (h : State.butDraws s t lw_cs (fun t1 => Framed s o t1 [] 600000 7302250)) :
    State.butDraws s t [Jvm.Choice.named "NaN.bits"] (fun t1 => Framed s o t1 (fieldLocs frame_1_writes args s ++ arrayLocs frame_1_arrays args s ++ staticLocs frame_1_statics s) 600000 7302250) := h
theorem lw_limb (L : Cond) (hL : ∀ (args : Array Value) (s t : State), L.after args s (.returned (some (.int 1))) t = true) :
    ArmFor flags0 classFile x code maxLocals ret World_1 tables_1 room_1 Calls_1 rest_1 Pre_1
      (fun tb e a s o t => postC L tb e a s o t ∧ State.butDraws s t [Jvm.Choice.named "NaN.bits"] (fun t1 => Framed s o t1 (fieldLocs frame_1_writes a s ++ arrayLocs frame_1_arrays a s ++ staticLocs frame_1_statics s) 600000 7302250)) := by
  intro l _ _ _ p e ha hc hk s m args below hf hfit hheap happ hpre
  obtain ⟨k, o, h1, h2, h3, rfl, hF⟩ := lw_comes l p e ha hc hk s m args below hf hfit hheap happ hpre
  exact ⟨k, _, h1, h2, h3, hL args s _, lw_frame hF⟩
theorem i_vc : Claimed_1_1 ∧ Claimed_1_2 := ⟨lw_limb limb_1_1 (fun args s t => by simp [limb_1_1, Cond.after, Cond.holds, Cond.value]), lw_limb limb_1_2 (fun args s t => Cond.after_iff.mpr (by
  first | (rw [show limb_1_2 = Cond.eq .result (.int 1) from rfl, Cond.eq_ints (x := 1) (y := 1) rfl rfl]; simp; done) | (simp [limb_1_2, Cond.value, Term.eval]; done)))⟩
