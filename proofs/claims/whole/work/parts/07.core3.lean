/-! ===== core 3: each op is sound ===== -/
/-- the private constructors that a nest mate calls -/
def qnest : List (String × Nat × MethodName) := [(RX4, 11, yX0_init), (RX5, 25, yX0_init), (RX1, 31, yX0_init), (RX5, 39, yX3_init), (RX5, 50, yX2_init)]
/-- what holds of the tables in every state -/
def qX (D : va_G) (ids : qI) (s : State) : Prop := va_K D vwCl (qtys ids) s ∧ va_AO RX0 s ∧ va_AO RX2 s ∧ ∀ q ∈ qnest, va_Nw (.methodLinkNest q.1 q.2.1 q.2.2 RX5) s
theorem qX.warm {D : va_G} {ids : qI} {s U : State} (hW : s.WarmedH U.vm) (h : qX D ids s) : qX D ids U :=
  ⟨va_K.moved hW.alike h.1, va_AO.moved hW.alike h.2.1, va_AO.moved hW.alike h.2.2.1, fun q hq => va_Nw.warmM hW (h.2.2.2 q hq)⟩
theorem qX.same {D : va_G} {ids : qI} {u U : State} (hv : u.vm = U.vm) (h : qX D ids u) : qX D ids U :=
  ⟨va_K.moved (by rw [hv]; exact Vm.Alike.refl U.vm) h.1, va_AO.moved (by rw [hv]; exact Vm.Alike.refl U.vm) h.2.1, va_AO.moved (by rw [hv]; exact Vm.Alike.refl U.vm) h.2.2.1, fun q hq => va_Nw.same rfl hv (h.2.2.2 q hq)⟩
/-- the method's context -/
def qK (p : Program) (s : State) (m : MethodId) (args : Array Value) (c : Code) (meth : Method) (cc : ByteArray) (own : String) (ml : Nat) (rt : Option FieldType) (ini : Bool) (D : va_G) (ids : qI) (sz : Nat) : Prop :=
  p.tables.exec = Jvm.exec ∧ c.code = cc ∧ c.maxLocals = ml ∧ s.vm.findClass own = some m.cls ∧ (∀ w ∈ wsG, w.before args s = true) ∧ qX D ids s ∧ sz ≤ s.heap.size ∧ meth.locks = false ∧ meth.sig.returnType = rt ∧ (ini = true → meth.name = "<init>")
/-- the machine at a configuration -/
def qW (p : Program) (l : Launch) (e : Env) (R : Room) (s : State) (m : MethodId) (args : Array Value) (below : List Frame) (meth : Method) (c : Code) (D : va_G) (ids : qI) (sz b ml : Nat) (Q : State → Prop) (x : qC) : Prop :=
  ∀ (H : Heap) (locs : List Loc) (lsA : Array Slot), sz + x.2.2.2.1.1.length = s.heap.size + x.2.2.2.2.1 → qHR D ids sz b x.2.2.2.1 H → va_S (qA sz) s.heap H locs → qLV sz b lsA ml x.2.1 → W p l e R s m args below meth c H locs x.2.2.2.2.1 x.2.2.2.2.2 Q (F0 m x.1 lsA (x.2.2.1.map (qmv sz b)))
def qroom (d mc ms : Nat) : Room := { frames := d, cells := mc, slots := ms, locals := 100 * d }
def qPC (D : va_G) (ids : qI) (sz b : Nat) (hp : qH) (U : State) : Prop := qHR D ids sz b hp U.heap ∧ qX D ids U ∧ U.heap.size = sz + hp.1.length
def qQC (D : va_G) (ids : qI) (sz b : Nat) (v : Option Value) (hp1 : qH) : Array Value → State → Outcome → State → Prop := fun _ st oc t => oc = .returned (v.map (qmv sz b)) ∧ qHR D ids sz b hp1 t.heap ∧ va_F (qA sz) st t
/-- a method's contract -/
def qMet (d : Nat) (l : Launch) (D : va_G) (ids : qI) (sz b : Nat) (t : qM) (as : List Value) (hp : qH) (v : Option Value) (hp1 : qH) : Prop :=
  Met l t.1 (Cond.code t.1 t.2.1 t.2.2.1 t.2.2.2.1 :: wsG) (qroom d t.2.2.2.2.1 t.2.2.2.2.2) (va_Pc (as.map (qmv sz b)) (qPC D ids sz b hp)) (qQC D ids sz b v hp1) t.2.2.2.2.1 t.2.2.2.2.2 (qA sz)
/-- a method's row in the table is right -/
def qMOK (t : qM) : Prop := plainName t.1.cls = true ∧ Cond.code t.1 t.2.1 t.2.2.1 t.2.2.2.1 ∈ wsG ∧ Cond.initialized t.1.cls ∈ wsG ∧ t.2.2.1 ≤ 80 ∧ (t.1.cls ≠ "java/lang/invoke/MethodHandle" ∧ t.1.cls ≠ "java/lang/invoke/VarHandle")
def OpOK (mt : List qM) (cc : ByteArray) (own : String) (ml : Nat) (rt : Option FieldType) (ini : Bool) (mc ms : Nat) (scr : Option (Nat × (Nat → Int32))) (pc : Nat) (op : qOp) : Prop :=
  ∀ (p : Program) (l : Launch) (e : Env) (R : Room) (s : State) (m : MethodId) (args : Array Value) (below : List Frame) (meth : Method) (c : Code) (D : va_G) (ids : qI) (sz b d : Nat) (Q : State → Prop),
  qK p s m args c meth cc own ml rt ini D ids sz → (d + 1 ≤ R.frames ∧ 100 * (d + 1) ≤ R.locals ∧ mc ≤ R.cells ∧ ms ≤ R.slots) → (∀ q, scr = some q → va_X b q.1 q.2 s s.heap ∧ b < sz ∧ s.heap.size = sz) →
  ∀ (x : qC) (o : qC ⊕ (qQ ⊕ (Option Value × qC))), x.1 = pc → op x = some o → match o with
  | .inl x' => qW p l e R s m args below meth c D ids sz b ml Q x' → qW p l e R s m args below meth c D ids sz b ml Q x
  | .inr (.inl q) => ∀ (t : qM) (v : Option Value) (hp1 : qH), mt[q.1]? = some t → qMOK t → qMet d l D ids sz b t q.2.1 q.2.2.2.2.2.1 v hp1 → hp1.1.length = q.2.2.2.2.2.1.1.length + t.2.2.2.2.1 →
      qW p l e R s m args below meth c D ids sz b ml Q (q.2.2.1, q.2.2.2.1, v.toList ++ q.2.2.2.2.1, hp1, q.2.2.2.2.2.2) → qW p l e R s m args below meth c D ids sz b ml Q x
  | .inr (.inr r) => r.2 = x ∧ (∀ y : Int32, r.1 = some (.int y) → x.2.2.1 = [.int y] ∧ decode cc pc = .ok (.ireturn, 1)) ∧
      ∀ (Qc : Array Value → State → Outcome → State → Prop) (free : Addr → Prop) (H : Heap) (locs : List Loc) (lsA : Array Slot) (k n : Nat), (∀ t : State, t.heap = H → s.WarmedH t.vm → Qc args s (.returned (r.1.map (qmv sz b))) t) → (∀ q ∈ locs, free q.base) →
        W p l e R s m args below meth c H locs k n (MQ below Qc args s k n free) (F0 m x.1 lsA (x.2.2.1.map (qmv sz b)))
section OK
variable {mt : List qM} {cc : ByteArray} {own : String} {ml : Nat} {rt : Option FieldType} {ini : Bool} {mc ms : Nat} {scr : Option (Nat × (Nat → Int32))} {pc : Nat}
theorem ok_iconst {z : Int} {v : Int32} (hd : decode cc pc = .ok (.iconst z, 1)) (hv : Int32.ofInt z = v) : OpOK mt cc own ml rt ini mc ms scr pc (oI v (pc + 1)) := by
  rintro p l e R s m args below meth c D ids sz b d Q ⟨hx, hb, hml, hown, hts, hX, hsz, hlk, hrt, hini⟩ hR hscr ⟨pc0, ls, st, hp, k, n⟩ o hpc ho
  cases hpc; cases ho
  intro hk H locs lsA hz hH hS hL
  exact lv_iconst hx hb hd hv (hk H locs lsA hz hH hS hL)
theorem ok_bipush {z : Int} {v : Int32} (hd : decode cc pc = .ok (.bipush z, 2)) (hv : (Int8.ofInt z).toInt32 = v) : OpOK mt cc own ml rt ini mc ms scr pc (oI v (pc + 2)) := by
  rintro p l e R s m args below meth c D ids sz b d Q ⟨hx, hb, hml, hown, hts, hX, hsz, hlk, hrt, hini⟩ hR hscr ⟨pc0, ls, st, hp, k, n⟩ o hpc ho
  cases hpc; cases ho
  intro hk H locs lsA hz hH hS hL
  exact lv_bipush hx hb hd hv (hk H locs lsA hz hH hS hL)
theorem ok_sipush {z : Int} {v : Int32} (hd : decode cc pc = .ok (.sipush z, 3)) (hv : (Int16.ofInt z).toInt32 = v) : OpOK mt cc own ml rt ini mc ms scr pc (oI v (pc + 3)) := by
  rintro p l e R s m args below meth c D ids sz b d Q ⟨hx, hb, hml, hown, hts, hX, hsz, hlk, hrt, hini⟩ hR hscr ⟨pc0, ls, st, hp, k, n⟩ o hpc ho
  cases hpc; cases ho
  intro hk H locs lsA hz hH hS hL
  exact lv_sipush hx hb hd hv (hk H locs lsA hz hH hS hL)
theorem ok_ldc {z : Nat} {v : Int32} (hd : decode cc pc = .ok (.ldc z, 2)) (hw : Cond.constant own z v ∈ wsG) : OpOK mt cc own ml rt ini mc ms scr pc (oI v (pc + 2)) := by
  rintro p l e R s m args below meth c D ids sz b d Q ⟨hx, hb, hml, hown, hts, hX, hsz, hlk, hrt, hini⟩ hR hscr ⟨pc0, ls, st, hp, k, n⟩ o hpc ho
  cases hpc; cases ho
  intro hk H locs lsA hz hH hS hL
  exact lv_ldc hx hb hown (hts _ hw) hd (hk H locs lsA hz hH hS hL)
theorem ok_ldcw {z : Nat} {v : Int32} (hd : decode cc pc = .ok (.ldc_w z, 3)) (hw : Cond.constant own z v ∈ wsG) : OpOK mt cc own ml rt ini mc ms scr pc (oI v (pc + 3)) := by
  rintro p l e R s m args below meth c D ids sz b d Q ⟨hx, hb, hml, hown, hts, hX, hsz, hlk, hrt, hini⟩ hR hscr ⟨pc0, ls, st, hp, k, n⟩ o hpc ho
  cases hpc; cases ho
  intro hk H locs lsA hz hH hS hL
  exact lv_ldcw hx hb hown (hts _ hw) hd (hk H locs lsA hz hH hS hL)
theorem ok_ldc2 {z : Nat} {v : Int64} (hd : decode cc pc = .ok (.ldc2_w z, 3)) (hw : Cond.constantLong own z v ∈ wsG) : OpOK mt cc own ml rt ini mc ms scr pc (oL v (pc + 3)) := by
  rintro p l e R s m args below meth c D ids sz b d Q ⟨hx, hb, hml, hown, hts, hX, hsz, hlk, hrt, hini⟩ hR hscr ⟨pc0, ls, st, hp, k, n⟩ o hpc ho
  cases hpc; cases ho
  intro hk H locs lsA hz hH hS hL
  exact lv_ldc2 hx hb hown (hts _ hw) hd (hk H locs lsA hz hH hS hL)
theorem ok_lconst {z : Fin 2} {v : Int64} (hd : decode cc pc = .ok (.lconst z, 1)) (hv : Int64.ofNat (z : Nat) = v) : OpOK mt cc own ml rt ini mc ms scr pc (oL v (pc + 1)) := by
  rintro p l e R s m args below meth c D ids sz b d Q ⟨hx, hb, hml, hown, hts, hX, hsz, hlk, hrt, hini⟩ hR hscr ⟨pc0, ls, st, hp, k, n⟩ o hpc ho
  cases hpc; cases ho
  intro hk H locs lsA hz hH hS hL
  exact lv_lconst hx hb hd hv (hk H locs lsA hz hH hS hL)
/-- an op that looks at a local: which one it is -/
theorem oLdI_inv {i n : Nat} {x : qC} {o : qC ⊕ (qQ ⊕ (Option Value × qC))} (h : oLdI i n x = some o) : ∃ v : Int32, x.2.1[i]? = some (.int v) ∧ o = .inl (n, x.2.1, .int v :: x.2.2.1, x.2.2.2) := by
  obtain ⟨pc0, ls, st, r⟩ := x
  unfold oLdI at h
  dsimp only at h
  split at h
  · rename_i v hv
    cases h
    exact ⟨v, hv, rfl⟩
  · cases h
theorem oLdL_inv {i n : Nat} {x : qC} {o : qC ⊕ (qQ ⊕ (Option Value × qC))} (h : oLdL i n x = some o) : ∃ v : Int64, x.2.1[i]? = some (.long v) ∧ o = .inl (n, x.2.1, .long v :: x.2.2.1, x.2.2.2) := by
  obtain ⟨pc0, ls, st, r⟩ := x
  unfold oLdL at h
  dsimp only at h
  split at h
  · rename_i v hv
    cases h
    exact ⟨v, hv, rfl⟩
  · cases h
theorem oLdA_inv {i n : Nat} {x : qC} {o : qC ⊕ (qQ ⊕ (Option Value × qC))} (h : oLdA i n x = some o) : ∃ v : Nat, x.2.1[i]? = some (.ref v) ∧ o = .inl (n, x.2.1, .ref v :: x.2.2.1, x.2.2.2) := by
  obtain ⟨pc0, ls, st, r⟩ := x
  unfold oLdA at h
  dsimp only at h
  split at h
  · rename_i v hv
    cases h
    exact ⟨v, hv, rfl⟩
  · cases h
theorem ok_iload_n {i : Nat} {j : Fin 4} (hd : decode cc pc = .ok (.iload_n j, 1)) (hi : (j : Nat) = i) : OpOK mt cc own ml rt ini mc ms scr pc (oLdI i (pc + 1)) := by
  rintro p l e R s m args below meth c D ids sz b d Q ⟨hx, hb, hml, hown, hts, hX, hsz, hlk, hrt, hini⟩ hR hscr ⟨pc0, ls, st, hp, k, n⟩ o hpc ho
  cases hpc
  obtain ⟨v, hv, rfl⟩ := oLdI_inv ho
  intro hk H locs lsA hz hH hS hL
  exact lv_iload_n hx hb hd hi (hL.at hv (by simp [qU])) (hk H locs lsA hz hH hS hL)
theorem ok_iload {i : Nat} (hd : decode cc pc = .ok (.iload i, 2)) : OpOK mt cc own ml rt ini mc ms scr pc (oLdI i (pc + 2)) := by
  rintro p l e R s m args below meth c D ids sz b d Q ⟨hx, hb, hml, hown, hts, hX, hsz, hlk, hrt, hini⟩ hR hscr ⟨pc0, ls, st, hp, k, n⟩ o hpc ho
  cases hpc
  obtain ⟨v, hv, rfl⟩ := oLdI_inv ho
  intro hk H locs lsA hz hH hS hL
  exact lv_iload hx hb hd (hL.at hv (by simp [qU])) (hk H locs lsA hz hH hS hL)
theorem ok_lload_n {i : Nat} {j : Fin 4} (hd : decode cc pc = .ok (.lload_n j, 1)) (hi : (j : Nat) = i) : OpOK mt cc own ml rt ini mc ms scr pc (oLdL i (pc + 1)) := by
  rintro p l e R s m args below meth c D ids sz b d Q ⟨hx, hb, hml, hown, hts, hX, hsz, hlk, hrt, hini⟩ hR hscr ⟨pc0, ls, st, hp, k, n⟩ o hpc ho
  cases hpc
  obtain ⟨v, hv, rfl⟩ := oLdL_inv ho
  intro hk H locs lsA hz hH hS hL
  exact lv_lload_n hx hb hd hi (hL.at hv (by simp [qU])) (hk H locs lsA hz hH hS hL)
theorem ok_lload {i : Nat} (hd : decode cc pc = .ok (.lload i, 2)) : OpOK mt cc own ml rt ini mc ms scr pc (oLdL i (pc + 2)) := by
  rintro p l e R s m args below meth c D ids sz b d Q ⟨hx, hb, hml, hown, hts, hX, hsz, hlk, hrt, hini⟩ hR hscr ⟨pc0, ls, st, hp, k, n⟩ o hpc ho
  cases hpc
  obtain ⟨v, hv, rfl⟩ := oLdL_inv ho
  intro hk H locs lsA hz hH hS hL
  exact lv_lload hx hb hd (hL.at hv (by simp [qU])) (hk H locs lsA hz hH hS hL)
theorem ok_aload_n {i : Nat} {j : Fin 4} (hd : decode cc pc = .ok (.aload_n j, 1)) (hi : (j : Nat) = i) : OpOK mt cc own ml rt ini mc ms scr pc (oLdA i (pc + 1)) := by
  rintro p l e R s m args below meth c D ids sz b d Q ⟨hx, hb, hml, hown, hts, hX, hsz, hlk, hrt, hini⟩ hR hscr ⟨pc0, ls, st, hp, k, n⟩ o hpc ho
  cases hpc
  obtain ⟨v, hv, rfl⟩ := oLdA_inv ho
  intro hk H locs lsA hz hH hS hL
  exact lv_aload_n hx hb hd hi (hL.at hv (by simp [qU])) (hk H locs lsA hz hH hS hL)
theorem ok_aload {i : Nat} (hd : decode cc pc = .ok (.aload i, 2)) : OpOK mt cc own ml rt ini mc ms scr pc (oLdA i (pc + 2)) := by
  rintro p l e R s m args below meth c D ids sz b d Q ⟨hx, hb, hml, hown, hts, hX, hsz, hlk, hrt, hini⟩ hR hscr ⟨pc0, ls, st, hp, k, n⟩ o hpc ho
  cases hpc
  obtain ⟨v, hv, rfl⟩ := oLdA_inv ho
  intro hk H locs lsA hz hH hS hL
  exact lv_aload hx hb hd (hL.at hv (by simp [qU])) (hk H locs lsA hz hH hS hL)
theorem oStI_inv {i n : Nat} {x : qC} {o : qC ⊕ (qQ ⊕ (Option Value × qC))} (h : oStI i n x = some o) : ∃ (v : Int32) (st : List Value), x.2.2.1 = .int v :: st ∧ qpre x.2.1 i = true ∧ i < x.2.1.length ∧ o = .inl (n, x.2.1.set i (.int v), st, x.2.2.2) := by
  obtain ⟨pc0, ls, st, r⟩ := x
  unfold oStI at h
  split at h
  · rename_i pc1 ls1 v st1 r1 heq
    cases heq
    split at h
    · rename_i h1 h2
      cases h
      exact ⟨v, _, rfl, h1, of_decide_eq_true h2, rfl⟩
    · cases h
  · cases h
theorem oStA_inv {i n : Nat} {x : qC} {o : qC ⊕ (qQ ⊕ (Option Value × qC))} (h : oStA i n x = some o) : ∃ (v : Nat) (st : List Value), x.2.2.1 = .ref v :: st ∧ qpre x.2.1 i = true ∧ i < x.2.1.length ∧ o = .inl (n, x.2.1.set i (.ref v), st, x.2.2.2) := by
  obtain ⟨pc0, ls, st, r⟩ := x
  unfold oStA at h
  split at h
  · rename_i pc1 ls1 v st1 r1 heq
    cases heq
    split at h
    · rename_i h1 h2
      cases h
      exact ⟨v, _, rfl, h1, of_decide_eq_true h2, rfl⟩
    · cases h
  · cases h
theorem ok_istore_n {i : Nat} {j : Fin 4} (hd : decode cc pc = .ok (.istore_n j, 1)) (hi : (j : Nat) = i) : OpOK mt cc own ml rt ini mc ms scr pc (oStI i (pc + 1)) := by
  rintro p l e R s m args below meth c D ids sz b d Q ⟨hx, hb, hml, hown, hts, hX, hsz, hlk, hrt, hini⟩ hR hscr ⟨pc0, ls, st, hp, k, n⟩ o hpc ho
  cases hpc
  obtain ⟨v, st1, hst, h1, h2, rfl⟩ := oStI_inv ho
  dsimp only at hst h1 h2
  subst hst
  intro hk H locs lsA hz hH hS hL
  exact lv_istore_n hx hb hd hi hL.1 (by rw [← hL.2]; exact h2) rfl (fun ls' hl' => hk H locs ls' hz hH hS (hL.st (v := .int v) h1 hl'))
theorem ok_istore {i : Nat} (hd : decode cc pc = .ok (.istore i, 2)) : OpOK mt cc own ml rt ini mc ms scr pc (oStI i (pc + 2)) := by
  rintro p l e R s m args below meth c D ids sz b d Q ⟨hx, hb, hml, hown, hts, hX, hsz, hlk, hrt, hini⟩ hR hscr ⟨pc0, ls, st, hp, k, n⟩ o hpc ho
  cases hpc
  obtain ⟨v, st1, hst, h1, h2, rfl⟩ := oStI_inv ho
  dsimp only at hst h1 h2
  subst hst
  intro hk H locs lsA hz hH hS hL
  exact lv_istore hx hb hd hL.1 (by rw [← hL.2]; exact h2) rfl (fun ls' hl' => hk H locs ls' hz hH hS (hL.st (v := .int v) h1 hl'))
theorem ok_astore_n {i : Nat} {j : Fin 4} (hd : decode cc pc = .ok (.astore_n j, 1)) (hi : (j : Nat) = i) : OpOK mt cc own ml rt ini mc ms scr pc (oStA i (pc + 1)) := by
  rintro p l e R s m args below meth c D ids sz b d Q ⟨hx, hb, hml, hown, hts, hX, hsz, hlk, hrt, hini⟩ hR hscr ⟨pc0, ls, st, hp, k, n⟩ o hpc ho
  cases hpc
  obtain ⟨v, st1, hst, h1, h2, rfl⟩ := oStA_inv ho
  dsimp only at hst h1 h2
  subst hst
  intro hk H locs lsA hz hH hS hL
  exact lv_astore_n hx hb hd hi hL.1 (by rw [← hL.2]; exact h2) rfl (fun ls' hl' => hk H locs ls' hz hH hS (hL.st (v := .ref v) h1 hl'))
theorem ok_astore {i : Nat} (hd : decode cc pc = .ok (.astore i, 2)) : OpOK mt cc own ml rt ini mc ms scr pc (oStA i (pc + 2)) := by
  rintro p l e R s m args below meth c D ids sz b d Q ⟨hx, hb, hml, hown, hts, hX, hsz, hlk, hrt, hini⟩ hR hscr ⟨pc0, ls, st, hp, k, n⟩ o hpc ho
  cases hpc
  obtain ⟨v, st1, hst, h1, h2, rfl⟩ := oStA_inv ho
  dsimp only at hst h1 h2
  subst hst
  intro hk H locs lsA hz hH hS hL
  exact lv_astore hx hb hd hL.1 (by rw [← hL.2]; exact h2) rfl (fun ls' hl' => hk H locs ls' hz hH hS (hL.st (v := .ref v) h1 hl'))
theorem ok_iinc {i : Nat} {z : Int} {v : Int32} (hd : decode cc pc = .ok (.iinc i z, 3)) (hv : Int32.ofInt z = v) : OpOK mt cc own ml rt ini mc ms scr pc (oInc i v (pc + 3)) := by
  rintro p l e R s m args below meth c D ids sz b d Q ⟨hx, hb, hml, hown, hts, hX, hsz, hlk, hrt, hini⟩ hR hscr ⟨pc0, ls, st, hp, k, n⟩ o hpc ho
  cases hpc
  unfold oInc at ho
  dsimp only at ho
  split at ho
  · rename_i x hxl
    split at ho
    · rename_i h1
      cases ho
      intro hk H locs lsA hz hH hS hL
      have hmem : (i, qmv sz b (.int x)) ∈ qAs sz b ls := qAs_mem.mpr ⟨.int x, hxl, (by simp [qU]), rfl⟩
      obtain ⟨j, hj⟩ := List.getElem?_of_mem hmem
      have hn : i < ml := by rw [← hL.2]; exact (List.getElem?_eq_some_iff.mp hxl).1
      refine lv_iinc (v := x + v) hx hb hd hL.1 hj (by rw [hv]) hn rfl (fun ls' hl' => ?_)
      exact hk H locs ls' hz hH hS (hL.st (v := .int (x + v)) h1 hl')
    · cases ho
  · cases ho
theorem ok_iadd (hd : decode cc pc = .ok (.iadd, 1)) : OpOK mt cc own ml rt ini mc ms scr pc (oBin (fun x y => x + y) (pc + 1)) := by
  rintro p l e R s m args below meth c D ids sz b d Q ⟨hx, hb, hml, hown, hts, hX, hsz, hlk, hrt, hini⟩ hR hscr ⟨pc0, ls, st, hp, k, n⟩ o hpc ho
  cases hpc
  unfold oBin at ho
  split at ho
  · rename_i heq
    cases heq
    cases ho
    intro hk H locs lsA hz hH hS hL
    exact lv_iadd hx hb hd (hk H locs lsA hz hH hS hL)
  · cases ho
theorem ok_isub (hd : decode cc pc = .ok (.isub, 1)) : OpOK mt cc own ml rt ini mc ms scr pc (oBin (fun x y => x - y) (pc + 1)) := by
  rintro p l e R s m args below meth c D ids sz b d Q ⟨hx, hb, hml, hown, hts, hX, hsz, hlk, hrt, hini⟩ hR hscr ⟨pc0, ls, st, hp, k, n⟩ o hpc ho
  cases hpc
  unfold oBin at ho
  split at ho
  · rename_i heq
    cases heq
    cases ho
    intro hk H locs lsA hz hH hS hL
    exact lv_isub hx hb hd (hk H locs lsA hz hH hS hL)
  · cases ho
theorem ok_imul (hd : decode cc pc = .ok (.imul, 1)) : OpOK mt cc own ml rt ini mc ms scr pc (oBin (fun x y => x * y) (pc + 1)) := by
  rintro p l e R s m args below meth c D ids sz b d Q ⟨hx, hb, hml, hown, hts, hX, hsz, hlk, hrt, hini⟩ hR hscr ⟨pc0, ls, st, hp, k, n⟩ o hpc ho
  cases hpc
  unfold oBin at ho
  split at ho
  · rename_i heq
    cases heq
    cases ho
    intro hk H locs lsA hz hH hS hL
    exact lv_imul hx hb hd (hk H locs lsA hz hH hS hL)
  · cases ho
theorem ok_iand (hd : decode cc pc = .ok (.iand, 1)) : OpOK mt cc own ml rt ini mc ms scr pc (oBin (fun x y => x &&& y) (pc + 1)) := by
  rintro p l e R s m args below meth c D ids sz b d Q ⟨hx, hb, hml, hown, hts, hX, hsz, hlk, hrt, hini⟩ hR hscr ⟨pc0, ls, st, hp, k, n⟩ o hpc ho
  cases hpc
  unfold oBin at ho
  split at ho
  · rename_i heq
    cases heq
    cases ho
    intro hk H locs lsA hz hH hS hL
    exact lv_iand hx hb hd (hk H locs lsA hz hH hS hL)
  · cases ho
theorem ok_ior (hd : decode cc pc = .ok (.ior, 1)) : OpOK mt cc own ml rt ini mc ms scr pc (oBin (fun x y => x ||| y) (pc + 1)) := by
  rintro p l e R s m args below meth c D ids sz b d Q ⟨hx, hb, hml, hown, hts, hX, hsz, hlk, hrt, hini⟩ hR hscr ⟨pc0, ls, st, hp, k, n⟩ o hpc ho
  cases hpc
  unfold oBin at ho
  split at ho
  · rename_i heq
    cases heq
    cases ho
    intro hk H locs lsA hz hH hS hL
    exact lv_ior hx hb hd (hk H locs lsA hz hH hS hL)
  · cases ho
theorem ok_ixor (hd : decode cc pc = .ok (.ixor, 1)) : OpOK mt cc own ml rt ini mc ms scr pc (oBin (fun x y => x ^^^ y) (pc + 1)) := by
  rintro p l e R s m args below meth c D ids sz b d Q ⟨hx, hb, hml, hown, hts, hX, hsz, hlk, hrt, hini⟩ hR hscr ⟨pc0, ls, st, hp, k, n⟩ o hpc ho
  cases hpc
  unfold oBin at ho
  split at ho
  · rename_i heq
    cases heq
    cases ho
    intro hk H locs lsA hz hH hS hL
    exact lv_ixor hx hb hd (hk H locs lsA hz hH hS hL)
  · cases ho
theorem ok_ishl (hd : decode cc pc = .ok (.ishl, 1)) : OpOK mt cc own ml rt ini mc ms scr pc (oBin (fun x y => x <<< (y &&& 31)) (pc + 1)) := by
  rintro p l e R s m args below meth c D ids sz b d Q ⟨hx, hb, hml, hown, hts, hX, hsz, hlk, hrt, hini⟩ hR hscr ⟨pc0, ls, st, hp, k, n⟩ o hpc ho
  cases hpc
  unfold oBin at ho
  split at ho
  · rename_i heq
    cases heq
    cases ho
    intro hk H locs lsA hz hH hS hL
    exact lv_ishl hx hb hd (hk H locs lsA hz hH hS hL)
  · cases ho
theorem ok_ishr (hd : decode cc pc = .ok (.ishr, 1)) : OpOK mt cc own ml rt ini mc ms scr pc (oBin (fun x y => x >>> (y &&& 31)) (pc + 1)) := by
  rintro p l e R s m args below meth c D ids sz b d Q ⟨hx, hb, hml, hown, hts, hX, hsz, hlk, hrt, hini⟩ hR hscr ⟨pc0, ls, st, hp, k, n⟩ o hpc ho
  cases hpc
  unfold oBin at ho
  split at ho
  · rename_i heq
    cases heq
    cases ho
    intro hk H locs lsA hz hH hS hL
    exact lv_ishr hx hb hd (hk H locs lsA hz hH hS hL)
  · cases ho
theorem ok_iushr (hd : decode cc pc = .ok (.iushr, 1)) : OpOK mt cc own ml rt ini mc ms scr pc (oBin (fun x y => (x.toUInt32 >>> (y.toUInt32 &&& Int32.toUInt32 31)).toInt32) (pc + 1)) := by
  rintro p l e R s m args below meth c D ids sz b d Q ⟨hx, hb, hml, hown, hts, hX, hsz, hlk, hrt, hini⟩ hR hscr ⟨pc0, ls, st, hp, k, n⟩ o hpc ho
  cases hpc
  unfold oBin at ho
  split at ho
  · rename_i heq
    cases heq
    cases ho
    intro hk H locs lsA hz hH hS hL
    exact lv_iushr hx hb hd rfl (hk H locs lsA hz hH hS hL)
  · cases ho
theorem ok_ineg (hd : decode cc pc = .ok (.ineg, 1)) : OpOK mt cc own ml rt ini mc ms scr pc (oUn (fun x => -x) (pc + 1)) := by
  rintro p l e R s m args below meth c D ids sz b d Q ⟨hx, hb, hml, hown, hts, hX, hsz, hlk, hrt, hini⟩ hR hscr ⟨pc0, ls, st, hp, k, n⟩ o hpc ho
  cases hpc
  unfold oUn at ho
  split at ho
  · rename_i heq
    cases heq
    cases ho
    intro hk H locs lsA hz hH hS hL
    exact lv_ineg hx hb hd (hk H locs lsA hz hH hS hL)
  · cases ho
theorem ok_i2b (hd : decode cc pc = .ok (.i2b, 1)) : OpOK mt cc own ml rt ini mc ms scr pc (oUn (fun x => x.toInt8.toInt32) (pc + 1)) := by
  rintro p l e R s m args below meth c D ids sz b d Q ⟨hx, hb, hml, hown, hts, hX, hsz, hlk, hrt, hini⟩ hR hscr ⟨pc0, ls, st, hp, k, n⟩ o hpc ho
  cases hpc
  unfold oUn at ho
  split at ho
  · rename_i heq
    cases heq
    cases ho
    intro hk H locs lsA hz hH hS hL
    exact lv_i2b hx hb hd rfl (hk H locs lsA hz hH hS hL)
  · cases ho
theorem ok_i2s (hd : decode cc pc = .ok (.i2s, 1)) : OpOK mt cc own ml rt ini mc ms scr pc (oUn (fun x => x.toInt16.toInt32) (pc + 1)) := by
  rintro p l e R s m args below meth c D ids sz b d Q ⟨hx, hb, hml, hown, hts, hX, hsz, hlk, hrt, hini⟩ hR hscr ⟨pc0, ls, st, hp, k, n⟩ o hpc ho
  cases hpc
  unfold oUn at ho
  split at ho
  · rename_i heq
    cases heq
    cases ho
    intro hk H locs lsA hz hH hS hL
    exact lv_i2s hx hb hd rfl (hk H locs lsA hz hH hS hL)
  · cases ho
theorem ok_i2l (hd : decode cc pc = .ok (.i2l, 1)) : OpOK mt cc own ml rt ini mc ms scr pc (oI2L (pc + 1)) := by
  rintro p l e R s m args below meth c D ids sz b d Q ⟨hx, hb, hml, hown, hts, hX, hsz, hlk, hrt, hini⟩ hR hscr ⟨pc0, ls, st, hp, k, n⟩ o hpc ho
  cases hpc
  unfold oI2L at ho
  split at ho
  · rename_i heq
    cases heq
    cases ho
    intro hk H locs lsA hz hH hS hL
    exact lv_i2l hx hb hd rfl (hk H locs lsA hz hH hS hL)
  · cases ho
theorem ok_l2i (hd : decode cc pc = .ok (.l2i, 1)) : OpOK mt cc own ml rt ini mc ms scr pc (oL2I (pc + 1)) := by
  rintro p l e R s m args below meth c D ids sz b d Q ⟨hx, hb, hml, hown, hts, hX, hsz, hlk, hrt, hini⟩ hR hscr ⟨pc0, ls, st, hp, k, n⟩ o hpc ho
  cases hpc
  unfold oL2I at ho
  split at ho
  · rename_i heq
    cases heq
    cases ho
    intro hk H locs lsA hz hH hS hL
    exact lv_l2i hx hb hd rfl (hk H locs lsA hz hH hS hL)
  · cases ho
theorem ok_ladd (hd : decode cc pc = .ok (.ladd, 1)) : OpOK mt cc own ml rt ini mc ms scr pc (oLBin (fun x y => x + y) (pc + 1)) := by
  rintro p l e R s m args below meth c D ids sz b d Q ⟨hx, hb, hml, hown, hts, hX, hsz, hlk, hrt, hini⟩ hR hscr ⟨pc0, ls, st, hp, k, n⟩ o hpc ho
  cases hpc
  unfold oLBin at ho
  split at ho
  · rename_i heq
    cases heq
    cases ho
    intro hk H locs lsA hz hH hS hL
    exact lv_ladd hx hb hd (hk H locs lsA hz hH hS hL)
  · cases ho
theorem ok_land (hd : decode cc pc = .ok (.land, 1)) : OpOK mt cc own ml rt ini mc ms scr pc (oLBin (fun x y => x &&& y) (pc + 1)) := by
  rintro p l e R s m args below meth c D ids sz b d Q ⟨hx, hb, hml, hown, hts, hX, hsz, hlk, hrt, hini⟩ hR hscr ⟨pc0, ls, st, hp, k, n⟩ o hpc ho
  cases hpc
  unfold oLBin at ho
  split at ho
  · rename_i heq
    cases heq
    cases ho
    intro hk H locs lsA hz hH hS hL
    exact lv_land hx hb hd (hk H locs lsA hz hH hS hL)
  · cases ho
theorem ok_lor (hd : decode cc pc = .ok (.lor, 1)) : OpOK mt cc own ml rt ini mc ms scr pc (oLBin (fun x y => x ||| y) (pc + 1)) := by
  rintro p l e R s m args below meth c D ids sz b d Q ⟨hx, hb, hml, hown, hts, hX, hsz, hlk, hrt, hini⟩ hR hscr ⟨pc0, ls, st, hp, k, n⟩ o hpc ho
  cases hpc
  unfold oLBin at ho
  split at ho
  · rename_i heq
    cases heq
    cases ho
    intro hk H locs lsA hz hH hS hL
    exact lv_lor hx hb hd (hk H locs lsA hz hH hS hL)
  · cases ho
theorem ok_lshl (hd : decode cc pc = .ok (.lshl, 1)) : OpOK mt cc own ml rt ini mc ms scr pc (oLSh (fun x y => x <<< (y.toInt64 &&& 63)) (pc + 1)) := by
  rintro p l e R s m args below meth c D ids sz b d Q ⟨hx, hb, hml, hown, hts, hX, hsz, hlk, hrt, hini⟩ hR hscr ⟨pc0, ls, st, hp, k, n⟩ o hpc ho
  cases hpc
  unfold oLSh at ho
  split at ho
  · rename_i heq
    cases heq
    cases ho
    intro hk H locs lsA hz hH hS hL
    exact lv_lshl hx hb hd rfl (hk H locs lsA hz hH hS hL)
  · cases ho
theorem ok_lshr (hd : decode cc pc = .ok (.lshr, 1)) : OpOK mt cc own ml rt ini mc ms scr pc (oLSh (fun x y => x >>> (y.toInt64 &&& 63)) (pc + 1)) := by
  rintro p l e R s m args below meth c D ids sz b d Q ⟨hx, hb, hml, hown, hts, hX, hsz, hlk, hrt, hini⟩ hR hscr ⟨pc0, ls, st, hp, k, n⟩ o hpc ho
  cases hpc
  unfold oLSh at ho
  split at ho
  · rename_i heq
    cases heq
    cases ho
    intro hk H locs lsA hz hH hS hL
    exact lv_lshr hx hb hd rfl (hk H locs lsA hz hH hS hL)
  · cases ho
theorem ok_lcmp (hd : decode cc pc = .ok (.lcmp, 1)) : OpOK mt cc own ml rt ini mc ms scr pc (oLcmp (pc + 1)) := by
  rintro p l e R s m args below meth c D ids sz b d Q ⟨hx, hb, hml, hown, hts, hX, hsz, hlk, hrt, hini⟩ hR hscr ⟨pc0, ls, st, hp, k, n⟩ o hpc ho
  cases hpc
  unfold oLcmp at ho
  split at ho
  · rename_i heq
    cases heq
    cases ho
    intro hk H locs lsA hz hH hS hL
    exact W.lcmp hx hb hd (hk H locs lsA hz hH hS hL)
  · cases ho
theorem ok_idiv (hd : decode cc pc = .ok (.idiv, 1)) : OpOK mt cc own ml rt ini mc ms scr pc (oDiv (fun x y => x / y) (pc + 1)) := by
  rintro p l e R s m args below meth c D ids sz b d Q ⟨hx, hb, hml, hown, hts, hX, hsz, hlk, hrt, hini⟩ hR hscr ⟨pc0, ls, st, hp, k, n⟩ o hpc ho
  cases hpc
  unfold oDiv at ho
  split at ho
  · rename_i heq
    cases heq
    split at ho
    · cases ho
    · rename_i hne
      cases ho
      intro hk H locs lsA hz hH hS hL
      exact lv_idiv hx hb hd hne (hk H locs lsA hz hH hS hL)
  · cases ho
theorem ok_irem (hd : decode cc pc = .ok (.irem, 1)) : OpOK mt cc own ml rt ini mc ms scr pc (oDiv (fun x y => x - x / y * y) (pc + 1)) := by
  rintro p l e R s m args below meth c D ids sz b d Q ⟨hx, hb, hml, hown, hts, hX, hsz, hlk, hrt, hini⟩ hR hscr ⟨pc0, ls, st, hp, k, n⟩ o hpc ho
  cases hpc
  unfold oDiv at ho
  split at ho
  · rename_i heq
    cases heq
    split at ho
    · cases ho
    · rename_i hne
      cases ho
      intro hk H locs lsA hz hH hS hL
      exact lv_irem hx hb hd hne (hk H locs lsA hz hH hS hL)
  · cases ho
theorem ok_dup (hd : decode cc pc = .ok (.dup, 1)) : OpOK mt cc own ml rt ini mc ms scr pc (oDup (pc + 1)) := by
  rintro p l e R s m args below meth c D ids sz b d Q ⟨hx, hb, hml, hown, hts, hX, hsz, hlk, hrt, hini⟩ hR hscr ⟨pc0, ls, st, hp, k, n⟩ o hpc ho
  cases hpc
  unfold oDup at ho
  split at ho
  · rename_i heq
    cases heq
    split at ho
    · rename_i hne
      cases ho
      intro hk H locs lsA hz hH hS hL
      exact lv_dup hx hb hd (by rw [qmv_cat]; exact qok_cat.mp hne) (hk H locs lsA hz hH hS hL)
    · cases ho
  · cases ho
theorem ok_dup2 (hd : decode cc pc = .ok (.dup2, 1)) : OpOK mt cc own ml rt ini mc ms scr pc (oDup2 (pc + 1)) := by
  rintro p l e R s m args below meth c D ids sz b d Q ⟨hx, hb, hml, hown, hts, hX, hsz, hlk, hrt, hini⟩ hR hscr ⟨pc0, ls, st, hp, k, n⟩ o hpc ho
  cases hpc
  unfold oDup2 at ho
  split at ho
  · rename_i heq
    cases heq
    split at ho
    · rename_i hne hne2
      cases ho
      intro hk H locs lsA hz hH hS hL
      exact lv_dup2_11 hx hb hd (by rw [qmv_cat]; exact qok_cat.mp hne) (by rw [qmv_cat]; exact qok_cat.mp hne2) (hk H locs lsA hz hH hS hL)
    · cases ho
  · cases ho
theorem ok_pop (hd : decode cc pc = .ok (.pop, 1)) : OpOK mt cc own ml rt ini mc ms scr pc (oPop (pc + 1)) := by
  rintro p l e R s m args below meth c D ids sz b d Q ⟨hx, hb, hml, hown, hts, hX, hsz, hlk, hrt, hini⟩ hR hscr ⟨pc0, ls, st, hp, k, n⟩ o hpc ho
  cases hpc
  unfold oPop at ho
  split at ho
  · rename_i heq
    cases heq
    split at ho
    · rename_i hne
      cases ho
      intro hk H locs lsA hz hH hS hL
      exact lv_pop hx hb hd (by rw [qmv_cat]; exact qok_cat.mp hne) (hk H locs lsA hz hH hS hL)
    · cases ho
  · cases ho
theorem ok_goto {off : Int} {tgt : Nat} (hd : decode cc pc = .ok (.goto off, 3)) (ht : (pc : Int) + off = (tgt : Int)) : OpOK mt cc own ml rt ini mc ms scr pc (oGoto tgt) := by
  rintro p l e R s m args below meth c D ids sz b d Q ⟨hx, hb, hml, hown, hts, hX, hsz, hlk, hrt, hini⟩ hR hscr ⟨pc0, ls, st, hp, k, n⟩ o hpc ho
  cases hpc; cases ho
  intro hk H locs lsA hz hH hS hL
  exact lv_goto hx hb hd ht (hk H locs lsA hz hH hS hL)
theorem ok_if_eq {off : Int} {tgt : Nat} (hd : decode cc pc = .ok (.ifCond .eq off, 3)) (ht : (pc : Int) + off = (tgt : Int)) : OpOK mt cc own ml rt ini mc ms scr pc (oIfEq tgt (pc + 3)) := by
  rintro p l e R s m args below meth c D ids sz b d Q ⟨hx, hb, hml, hown, hts, hX, hsz, hlk, hrt, hini⟩ hR hscr ⟨pc0, ls, st, hp, k, n⟩ o hpc ho
  cases hpc
  unfold oIfEq at ho
  split at ho
  · rename_i heq
    cases heq
    cases ho
    intro hk H locs lsA hz hH hS hL
    refine lv_if_eq hx hb hd ht (fun c => ?_) (fun c => ?_)
    · rw [if_pos c] at hk
      exact hk H locs lsA hz hH hS hL
    · rw [if_neg c] at hk
      exact hk H locs lsA hz hH hS hL
  · cases ho
theorem ok_if_ne {off : Int} {tgt : Nat} (hd : decode cc pc = .ok (.ifCond .ne off, 3)) (ht : (pc : Int) + off = (tgt : Int)) : OpOK mt cc own ml rt ini mc ms scr pc (oIfNe tgt (pc + 3)) := by
  rintro p l e R s m args below meth c D ids sz b d Q ⟨hx, hb, hml, hown, hts, hX, hsz, hlk, hrt, hini⟩ hR hscr ⟨pc0, ls, st, hp, k, n⟩ o hpc ho
  cases hpc
  unfold oIfNe at ho
  split at ho
  · rename_i heq
    cases heq
    cases ho
    intro hk H locs lsA hz hH hS hL
    refine lv_if_ne hx hb hd ht (fun c => ?_) (fun c => ?_)
    · rw [if_pos c] at hk
      exact hk H locs lsA hz hH hS hL
    · rw [if_neg (fun z => z c)] at hk
      exact hk H locs lsA hz hH hS hL
  · cases ho
theorem ok_if_lt {off : Int} {tgt : Nat} (hd : decode cc pc = .ok (.ifCond .lt off, 3)) (ht : (pc : Int) + off = (tgt : Int)) : OpOK mt cc own ml rt ini mc ms scr pc (oIfLt tgt (pc + 3)) := by
  rintro p l e R s m args below meth c D ids sz b d Q ⟨hx, hb, hml, hown, hts, hX, hsz, hlk, hrt, hini⟩ hR hscr ⟨pc0, ls, st, hp, k, n⟩ o hpc ho
  cases hpc
  unfold oIfLt at ho
  split at ho
  · rename_i heq
    cases heq
    cases ho
    intro hk H locs lsA hz hH hS hL
    refine lv_if_lt hx hb hd ht (fun c => ?_) (fun c => ?_)
    · rw [if_pos c] at hk
      exact hk H locs lsA hz hH hS hL
    · rw [if_neg c] at hk
      exact hk H locs lsA hz hH hS hL
  · cases ho
theorem ok_if_ge {off : Int} {tgt : Nat} (hd : decode cc pc = .ok (.ifCond .ge off, 3)) (ht : (pc : Int) + off = (tgt : Int)) : OpOK mt cc own ml rt ini mc ms scr pc (oIfGe tgt (pc + 3)) := by
  rintro p l e R s m args below meth c D ids sz b d Q ⟨hx, hb, hml, hown, hts, hX, hsz, hlk, hrt, hini⟩ hR hscr ⟨pc0, ls, st, hp, k, n⟩ o hpc ho
  cases hpc
  unfold oIfGe at ho
  split at ho
  · rename_i heq
    cases heq
    cases ho
    intro hk H locs lsA hz hH hS hL
    refine lv_if_ge hx hb hd ht (fun c => ?_) (fun c => ?_)
    · rw [if_pos c] at hk
      exact hk H locs lsA hz hH hS hL
    · rw [if_neg c] at hk
      exact hk H locs lsA hz hH hS hL
  · cases ho
theorem ok_if_gt {off : Int} {tgt : Nat} (hd : decode cc pc = .ok (.ifCond .gt off, 3)) (ht : (pc : Int) + off = (tgt : Int)) : OpOK mt cc own ml rt ini mc ms scr pc (oIfGt tgt (pc + 3)) := by
  rintro p l e R s m args below meth c D ids sz b d Q ⟨hx, hb, hml, hown, hts, hX, hsz, hlk, hrt, hini⟩ hR hscr ⟨pc0, ls, st, hp, k, n⟩ o hpc ho
  cases hpc
  unfold oIfGt at ho
  split at ho
  · rename_i heq
    cases heq
    cases ho
    intro hk H locs lsA hz hH hS hL
    refine lv_if_gt hx hb hd ht (fun c => ?_) (fun c => ?_)
    · rw [if_pos c] at hk
      exact hk H locs lsA hz hH hS hL
    · rw [if_neg c] at hk
      exact hk H locs lsA hz hH hS hL
  · cases ho
theorem ok_if_le {off : Int} {tgt : Nat} (hd : decode cc pc = .ok (.ifCond .le off, 3)) (ht : (pc : Int) + off = (tgt : Int)) : OpOK mt cc own ml rt ini mc ms scr pc (oIfLe tgt (pc + 3)) := by
  rintro p l e R s m args below meth c D ids sz b d Q ⟨hx, hb, hml, hown, hts, hX, hsz, hlk, hrt, hini⟩ hR hscr ⟨pc0, ls, st, hp, k, n⟩ o hpc ho
  cases hpc
  unfold oIfLe at ho
  split at ho
  · rename_i heq
    cases heq
    cases ho
    intro hk H locs lsA hz hH hS hL
    refine lv_if_le hx hb hd ht (fun c => ?_) (fun c => ?_)
    · rw [if_pos c] at hk
      exact hk H locs lsA hz hH hS hL
    · rw [if_neg c] at hk
      exact hk H locs lsA hz hH hS hL
  · cases ho
theorem ok_cm_eq {off : Int} {tgt : Nat} (hd : decode cc pc = .ok (.if_icmp .eq off, 3)) (ht : (pc : Int) + off = (tgt : Int)) : OpOK mt cc own ml rt ini mc ms scr pc (oCmEq tgt (pc + 3)) := by
  rintro p l e R s m args below meth c D ids sz b d Q ⟨hx, hb, hml, hown, hts, hX, hsz, hlk, hrt, hini⟩ hR hscr ⟨pc0, ls, st, hp, k, n⟩ o hpc ho
  cases hpc
  unfold oCmEq at ho
  split at ho
  · rename_i heq
    cases heq
    cases ho
    intro hk H locs lsA hz hH hS hL
    refine lv_icmp_eq hx hb hd ht (fun c => ?_) (fun c => ?_)
    · rw [if_pos c] at hk
      exact hk H locs lsA hz hH hS hL
    · rw [if_neg c] at hk
      exact hk H locs lsA hz hH hS hL
  · cases ho
theorem ok_cm_ne {off : Int} {tgt : Nat} (hd : decode cc pc = .ok (.if_icmp .ne off, 3)) (ht : (pc : Int) + off = (tgt : Int)) : OpOK mt cc own ml rt ini mc ms scr pc (oCmNe tgt (pc + 3)) := by
  rintro p l e R s m args below meth c D ids sz b d Q ⟨hx, hb, hml, hown, hts, hX, hsz, hlk, hrt, hini⟩ hR hscr ⟨pc0, ls, st, hp, k, n⟩ o hpc ho
  cases hpc
  unfold oCmNe at ho
  split at ho
  · rename_i heq
    cases heq
    cases ho
    intro hk H locs lsA hz hH hS hL
    refine lv_icmp_ne hx hb hd ht (fun c => ?_) (fun c => ?_)
    · rw [if_pos c] at hk
      exact hk H locs lsA hz hH hS hL
    · rw [if_neg (fun z => z c)] at hk
      exact hk H locs lsA hz hH hS hL
  · cases ho
theorem ok_cm_lt {off : Int} {tgt : Nat} (hd : decode cc pc = .ok (.if_icmp .lt off, 3)) (ht : (pc : Int) + off = (tgt : Int)) : OpOK mt cc own ml rt ini mc ms scr pc (oCmLt tgt (pc + 3)) := by
  rintro p l e R s m args below meth c D ids sz b d Q ⟨hx, hb, hml, hown, hts, hX, hsz, hlk, hrt, hini⟩ hR hscr ⟨pc0, ls, st, hp, k, n⟩ o hpc ho
  cases hpc
  unfold oCmLt at ho
  split at ho
  · rename_i heq
    cases heq
    cases ho
    intro hk H locs lsA hz hH hS hL
    refine lv_icmp_lt hx hb hd ht (fun c => ?_) (fun c => ?_)
    · rw [if_pos c] at hk
      exact hk H locs lsA hz hH hS hL
    · rw [if_neg c] at hk
      exact hk H locs lsA hz hH hS hL
  · cases ho
theorem ok_cm_ge {off : Int} {tgt : Nat} (hd : decode cc pc = .ok (.if_icmp .ge off, 3)) (ht : (pc : Int) + off = (tgt : Int)) : OpOK mt cc own ml rt ini mc ms scr pc (oCmGe tgt (pc + 3)) := by
  rintro p l e R s m args below meth c D ids sz b d Q ⟨hx, hb, hml, hown, hts, hX, hsz, hlk, hrt, hini⟩ hR hscr ⟨pc0, ls, st, hp, k, n⟩ o hpc ho
  cases hpc
  unfold oCmGe at ho
  split at ho
  · rename_i heq
    cases heq
    cases ho
    intro hk H locs lsA hz hH hS hL
    refine lv_icmp_ge hx hb hd ht (fun c => ?_) (fun c => ?_)
    · rw [if_pos c] at hk
      exact hk H locs lsA hz hH hS hL
    · rw [if_neg c] at hk
      exact hk H locs lsA hz hH hS hL
  · cases ho
theorem ok_cm_gt {off : Int} {tgt : Nat} (hd : decode cc pc = .ok (.if_icmp .gt off, 3)) (ht : (pc : Int) + off = (tgt : Int)) : OpOK mt cc own ml rt ini mc ms scr pc (oCmGt tgt (pc + 3)) := by
  rintro p l e R s m args below meth c D ids sz b d Q ⟨hx, hb, hml, hown, hts, hX, hsz, hlk, hrt, hini⟩ hR hscr ⟨pc0, ls, st, hp, k, n⟩ o hpc ho
  cases hpc
  unfold oCmGt at ho
  split at ho
  · rename_i heq
    cases heq
    cases ho
    intro hk H locs lsA hz hH hS hL
    refine lv_icmp_gt hx hb hd ht (fun c => ?_) (fun c => ?_)
    · rw [if_pos c] at hk
      exact hk H locs lsA hz hH hS hL
    · rw [if_neg c] at hk
      exact hk H locs lsA hz hH hS hL
  · cases ho
theorem ok_cm_le {off : Int} {tgt : Nat} (hd : decode cc pc = .ok (.if_icmp .le off, 3)) (ht : (pc : Int) + off = (tgt : Int)) : OpOK mt cc own ml rt ini mc ms scr pc (oCmLe tgt (pc + 3)) := by
  rintro p l e R s m args below meth c D ids sz b d Q ⟨hx, hb, hml, hown, hts, hX, hsz, hlk, hrt, hini⟩ hR hscr ⟨pc0, ls, st, hp, k, n⟩ o hpc ho
  cases hpc
  unfold oCmLe at ho
  split at ho
  · rename_i heq
    cases heq
    cases ho
    intro hk H locs lsA hz hH hS hL
    refine lv_icmp_le hx hb hd ht (fun c => ?_) (fun c => ?_)
    · rw [if_pos c] at hk
      exact hk H locs lsA hz hH hS hL
    · rw [if_neg c] at hk
      exact hk H locs lsA hz hH hS hL
  · cases ho
theorem ok_sw {dflt lo hi : Int} {offs : Array Int} {ts : List Nat} {t0 : Nat} {len : Nat} (hd : decode cc pc = .ok (.tableswitch dflt lo hi offs, len)) (hhi : hi = lo + (ts.length : Int) - 1) (h0 : (pc : Int) + dflt = (t0 : Int))
    (ht : offs.toList.map (fun z => (pc : Int) + z) = ts.map (fun t : Nat => (t : Int))) : OpOK mt cc own ml rt ini mc ms scr pc (oSw lo ts t0) := by
  rintro p l e R s m args below meth c D ids sz b d Q ⟨hx, hb, hml, hown, hts, hX, hsz, hlk, hrt, hini⟩ hR hscr ⟨pc0, ls, st, hp, k, n⟩ o hpc ho
  cases hpc
  unfold oSw at ho
  split at ho
  · rename_i x st1 r1 heq
    cases heq
    cases ho
    intro hk H locs lsA hz hH hS hL
    by_cases hc : x.toInt < lo ∨ lo + (ts.length : Int) - 1 < x.toInt
    · rw [if_pos hc] at hk
      exact lv_tableOut hx hb hd (by rw [hhi]; exact hc) h0 (hk H locs lsA hz hH hS hL)
    · rw [if_neg hc] at hk
      have hj : (x.toInt - lo).toNat < ts.length := by omega
      have hlen : offs.toList.length = ts.length := by
        have := congrArg List.length ht
        simpa using this
      have e1 : ts[(x.toInt - lo).toNat]? = some (ts.getD (x.toInt - lo).toNat t0) := by
        rw [List.getD_eq_getElem?_getD, List.getElem?_eq_getElem hj]
        rfl
      have hj2 : (x.toInt - lo).toNat < offs.toList.length := by omega
      have e2 : offs.toList[(x.toInt - lo).toNat]? = some (offs.toList[(x.toInt - lo).toNat]) := List.getElem?_eq_getElem hj2
      have e3 := congrArg (fun z => z[(x.toInt - lo).toNat]?) ht
      dsimp only at e3
      rw [List.getElem?_map, List.getElem?_map, e1, e2] at e3
      exact lv_tableIn hx hb hd (by omega) (by omega) (by rw [← Array.getElem?_toList]; exact e2) (Option.some.inj e3) (hk H locs lsA hz hH hS hL)
  · cases ho
end OK
