/-! what the walks use besides -/
def fuel : Nat := 100000
theorem ite_ck {α : Type} {c : Prop} {_ : Decidable c} {a : Option α} {b : α} (h : (if c then a else none) = some b) : c ∧ a = some b := by
  by_cases q : c
  · rw [if_pos q] at h; exact ⟨q, h⟩
  · rw [if_neg q] at h; cases h
theorem ite_ck0 {α : Type} {c : Prop} {_ : Decidable c} {a : Option α} {b : α} (h : (if c then none else a) = some b) : ¬ c ∧ a = some b := by
  by_cases q : c
  · rw [if_pos q] at h; cases h
  · rw [if_neg q] at h; exact ⟨q, h⟩
theorem x_copy {p : Program} {l : Launch} {e : Env} {R : Room} {s : State} {m : MethodId} {args : Array Value} {below : List Frame} {meth : Method} {c : Code} {H : Heap} {locs : List Loc} {Q : State → Prop} {own : String} {cc : ByteArray} {nL : Nat} {ret : Option FieldType} {D : va_G} {cI cJ cV : ClassId} {ad : Nat → Nat} {I : TI} {J : TJ} {pc : Nat} {ls : Array Slot} {rest : List Value} (C : KX p s m args meth c own cc nL ret) (hB : XB D cI cJ cV ad s H locs I J) (hml : c.maxLocals = ls.size) {index : Nat} (h1 : Cond.methodLink own index arraycopyName ∈ lw_gd) (h2 : Cond.native arraycopyName ∈ lw_gd) (h3 : Cond.static arraycopyName ∈ lw_gd) (h4 : Cond.initialized "java/lang/System" ∈ lw_gd) (hf : 1 ≤ R.frames) (hlo : (rest.map fun v => v.category).sum + (nativeFrameWords "java/lang/System" "arraycopy" 5 + 11) ≤ R.locals) (hdg : decode cc pc = .ok (.invokestatic index, 3)) (kk : ∀ (H1 : Heap) (locs1 : List Loc), XB D cI cJ cV ad s H1 locs1 (sI I 11 (va_cpy (I 10) (I 11) 0 0 16)) J → W p l e R s m args below meth c H1 locs1 0 0 Q (F0 m (pc + 3) ls rest)) : W p l e R s m args below meth c H locs 0 0 Q (F0 m pc ls (.int 16 :: .int 0 :: .ref (ad 11) :: .int 0 :: .ref (ad 9) :: rest)) := by
  refine va_copyi C.hx C.hb hml C.hown (C.hts _ h1) (C.hts _ h2) (C.hts _ h3) (C.hts _ h4) hB.K hB.P hB.D' hB.S 9 11 0 0 rfl rfl rfl rfl rfl (by decide) (by decide) (by decide) (by decide) (by decide) (fun i _ => rfl) hf hlo hdg (fun H1 locs1 hP hD hS => ?_)
  exact kk H1 locs1 ⟨hP, hD, hB.K, hS, hB.N⟩
abbrev okz (r : Int32) : Prop := r = 0 ∨ r = 1
theorem okz_n {r : Int32} (h : okz r) : narrow .boolean (.int r) = .int r := by rcases h with rfl | rfl <;> decide
