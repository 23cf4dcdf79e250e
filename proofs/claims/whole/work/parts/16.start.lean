-- ===== end of PART A; then your names; then what follows =====
/-! THE CLAIM OUT OF ONE WALK OF THE LAW'S BODY. Your part is whole_start (and what it stands on); all else here is the same for every law, but numbers. -/
def R_law : String := "QuarrelSalesLaw"
def lw_P (b : Addr) (xs : List Int32) (args : Array Value) (s : State) : Prop := args = #[.ref b] ∧ s.IntsAt b xs ∧ xs.length ≤ 3072 ∧ (Jvm.Cond.and given_1 narrow_1).before args s = true
def lw_Q (_ : Array Value) (s : State) (o : Outcome) (t : State) : Prop := o = .returned (some (.int 1)) ∧ Framed s o t [] 600000 7302250
def lw_Z (below : List Frame) (a : Array Value) (s : State) : State → Prop := fun t => ∃ o, t.status = .running ∧ Ended t below o ∧ lw_Q a s o t
/-- the law's own end, with 1 on the stack, nothing written that was there before, its room as the claim has it -/
theorem lw_ret {p : Program} {l : Launch} {e : Env} {s : State} {m : MethodId} {below : List Frame} {meth : Method} {c : Code} {b : Nat} (hx : p.tables.exec = Jvm.exec) (hb : c.code = code) (hr : meth.sig.returnType = ret) (hlocks : meth.locks = false) {pc : Nat} {H : Heap} {ls : Array Slot} (hdg : decode code pc = .ok (.ireturn, 1)) : W p l e room_1 s m #[Value.ref b] below meth c H [] 600000 7302250 (lw_Z below #[Value.ref b] s) (F0 m pc ls [.int 1]) := by
  intro T hT X
  obtain ⟨fs, hret, hrun, hended, hW, hframe⟩ := X.leave (v := some (.int 1)) (hlocks := hlocks) (fun h => by rw [hr] at h; cases h)
  have hmeth' : T.vm.method? m = some meth := X.method'
  refine ⟨T.setFrames fs, ?_, .returned (some (.int 1)), hrun, hended, rfl, ⟨_, rfl⟩, hW, hframe⟩
  jvm_step X.here [X.here.top, hx, hb, hdg, hmeth', hr, ret, narrow_b1]
  (try refine ⟨rfl, ?_⟩); (try refine ⟨rfl, ?_⟩)
  first | (intro acts; rw [hret _ acts rfl rfl rfl]) | rw [hret _ _ rfl rfl rfl]
  exact Steps.refl _
/-- what holds at the law's entry: the machine, the code, the tables' words (any of lw_tbl by 'hts w (by decide +kernel)'), the script of L ints xs at the cell b, what the Statement gives of the start (any of its parts by flat_of_before) -/
def lw_At (p : Program) (s : State) (m : MethodId) (meth : Method) (c : Code) (b L : Nat) (xs : Nat → Int32) : Prop :=
  p.tables.exec = Jvm.exec ∧ c.code = code ∧ meth.sig.returnType = ret ∧ c.maxLocals = 4 ∧ s.vm.findClass R_law = some m.cls ∧ (∀ w ∈ lw_tbl, w.before #[Value.ref b] s = true) ∧ va_X b L xs s s.heap ∧ b < s.heap.size ∧ meth.locks = false ∧ (Jvm.Cond.and given_1 narrow_1).before #[Value.ref b] s = true

/-! ===== the law's start out of the abstract run ===== -/
theorem qAO_rows {s : State} {C : String} (h : va_AO C s) : ∃ cA : ClassId, ArrOfT s cA (.object C) ∧ va_RA s cA (.object C) := by
  obtain ⟨comp, c, k, h1, h2, h3, h4, h5⟩ := Cond.arrayOver_spec h
  exact ⟨c, fun N z => ⟨(fun k h => by cases h), k, h3, comp, h4⟩, k, comp, h3, h4, h1, h5⟩
def qLawRuns (L : Nat) (xs : Nat → Int32) : Prop := ∃ (n : Nat) (x : qC), Rn (Ex qMT qCD 800) (cd_law L xs) n (0, [.ref qSCR, qU, qU, qU], [], ([], fun _ _ => 0), 0, 0) (some (.int 1), x) ∧ x.2.2.2.2.1 ≤ 600000 ∧ x.2.2.2.2.2 ≤ 7302250
set_option maxHeartbeats 4000000 in
set_option maxRecDepth 100000 in
theorem whole_of {p : Program} {e : Env} {s : State} {m : MethodId} {below : List Frame} {meth : Method} {c : Code} (l : Launch) {b L : Nat} {xs : Nat → Int32} (C0 : lw_At p s m meth c b L xs) (hrun : qLawRuns L xs) :
    W p l e room_1 s m #[Value.ref b] below meth c s.heap [] 0 0 (lw_Z below #[Value.ref b] s) (entryFrame m ([Value.ref b] : List Value).toArray 4) := by
  obtain ⟨hx, hb, hr, hml, hown, hts, hX, hbl, hlocks, hgv⟩ := id C0
  obtain ⟨c0, i0, hk0⟩ := u_known (C := RX0) (T := TX0) (N := 7) (n := 7) hts (fun w hw => (List.mem_filter.mp (hin_X0 w hw)).1) (hts (.instantiable RX0 7) (List.mem_of_getElem? (i := 77) (by decide +kernel)))
  obtain ⟨c1, i1, hk1⟩ := u_known (C := RX1) (T := TX1) (N := 5) (n := 5) hts (fun w hw => (List.mem_filter.mp (hin_X1 w hw)).1) (hts (.instantiable RX1 5) (List.mem_of_getElem? (i := 143) (by decide +kernel)))
  obtain ⟨c2, i2, hk2⟩ := u_known (C := RX2) (T := TX2) (N := 4) (n := 4) hts (fun w hw => (List.mem_filter.mp (hin_X2 w hw)).1) (hts (.instantiable RX2 4) (List.mem_of_getElem? (i := 193) (by decide +kernel)))
  obtain ⟨c3, i3, hk3⟩ := u_known (C := RX3) (T := TX3) (N := 4) (n := 4) hts (fun w hw => (List.mem_filter.mp (hin_X3 w hw)).1) (hts (.instantiable RX3 4) (List.mem_of_getElem? (i := 171) (by decide +kernel)))
  obtain ⟨c4, i4, hk4⟩ := u_known (C := RX4) (T := TX4) (N := 5) (n := 5) hts (fun w hw => (List.mem_filter.mp (hin_X4 w hw)).1) (hts (.instantiable RX4 5) (List.mem_of_getElem? (i := 71) (by decide +kernel)))
  obtain ⟨c5, i5, hk5⟩ := u_known (C := RX5) (T := TX5) (N := 7) (n := 7) hts (fun w hw => (List.mem_filter.mp (hin_X5 w hw)).1) (hts (.instantiable RX5 7) (List.mem_of_getElem? (i := 63) (by decide +kernel)))
  obtain ⟨c6, i6, hk6⟩ := u_known (C := RX6) (T := TX6) (N := 29) (n := 29) hts (fun w hw => (List.mem_filter.mp (hin_X6 w hw)).1) (hts (.instantiable RX6 29) (List.mem_of_getElem? (i := 648) (by decide +kernel)))
  obtain ⟨dC, dI, hKc⟩ : ∃ (dC : Nat → ClassId) (dI : Nat → Nat → Nat), ∀ (k : Nat) (q : vw_C), vwCl[k]? = some q → u_Kn s q.1 q.2.1 q.2.2 (dC k) (dI k) := by
    refine ⟨fun k => if k = 0 then c0 else if k = 1 then c1 else if k = 2 then c2 else if k = 3 then c3 else if k = 4 then c4 else if k = 5 then c5 else c6, fun k => if k = 0 then i0 else if k = 1 then i1 else if k = 2 then i2 else if k = 3 then i3 else if k = 4 then i4 else if k = 5 then i5 else i6, ?_⟩
    intro k q hq
    match k, hq with
    | 0, hq => cases hq; exact hk0
    | 1, hq => cases hq; exact hk1
    | 2, hq => cases hq; exact hk2
    | 3, hq => cases hq; exact hk3
    | 4, hq => cases hq; exact hk4
    | 5, hq => cases hq; exact hk5
    | 6, hq => cases hq; exact hk6
    | k + 7, hq => simp [vwCl] at hq
  have hAO0 : va_AO RX0 s := va_AO.of (hts (.arrayOver (.object RX0)) (List.mem_of_getElem? (i := 149) (by decide +kernel)))
  have hAO2 : va_AO RX2 s := va_AO.of (hts (.arrayOver (.object RX2)) (List.mem_of_getElem? (i := 192) (by decide +kernel)))
  obtain ⟨a0, g0⟩ := qAO_rows hAO0
  obtain ⟨a2, g2⟩ := qAO_rows hAO2
  obtain ⟨aI, kI, compI, f1, f2, f3⟩ := Cond.arrayClass_spec (hts (.arrayClass .int) (List.mem_of_getElem? (i := 118) (by decide +kernel)))
  have hXX : qX (dC, dI) (aI, a0, a2) s := by
    refine ⟨⟨hKc, fun k q hq => ?_⟩, hAO0, hAO2, fun q hq => ?_⟩
    · match k, hq with
      | 0, hq => cases hq; exact ⟨fun N z => ⟨(fun k h => by cases h), kI, f2, compI, f3⟩, f1⟩
      | 1, hq => cases hq; exact g0
      | 2, hq => cases hq; exact g2
      | k + 3, hq => simp [qtys] at hq
    · simp only [qnest, List.mem_cons, List.not_mem_nil, or_false] at hq
      rcases hq with rfl | rfl | rfl | rfl | rfl
      · exact va_Nw.of rfl (hts (.methodLinkNest RX4 11 yX0_init RX5) (List.mem_of_getElem? (i := 78) (by decide +kernel)))
      · exact va_Nw.of rfl (hts (.methodLinkNest RX5 25 yX0_init RX5) (List.mem_of_getElem? (i := 141) (by decide +kernel)))
      · exact va_Nw.of rfl (hts (.methodLinkNest RX1 31 yX0_init RX5) (List.mem_of_getElem? (i := 150) (by decide +kernel)))
      · exact va_Nw.of rfl (hts (.methodLinkNest RX5 39 yX3_init RX5) (List.mem_of_getElem? (i := 172) (by decide +kernel)))
      · exact va_Nw.of rfl (hts (.methodLinkNest RX5 50 yX2_init RX5) (List.mem_of_getElem? (i := 194) (by decide +kernel)))
  have K : qK p s m #[Value.ref b] c meth code RL 4 ret false (dC, dI) (aI, a0, a2) s.heap.size :=
    ⟨hx, hb, hml, hown, fun w hw => hts w (List.mem_filter.mp hw).1, hXX, Nat.le_refl _, hlocks, hr, fun h => by cases h⟩
  obtain ⟨n, x, hrun, hc1, hc2⟩ := hrun
  have hroom : 800 + 1 ≤ room_1.frames ∧ 100 * (800 + 1) ≤ room_1.locals ∧ 600000 ≤ room_1.cells ∧ 7302250 ≤ room_1.slots := by decide
  have hscr : ∀ q, some (L, xs) = some q → va_X b q.1 q.2 s s.heap ∧ b < s.heap.size ∧ s.heap.size = s.heap.size := fun q hq => by
    cases hq
    exact ⟨hX, hbl, rfl⟩
  have main := Rn_sound (mt := qMT) (scr := some (L, xs)) (R := room_1) (d := 800) (l := l) (e := e) (below := below) (b := b) (Q := lw_Z below #[Value.ref b] s) K hroom hscr (ck_law L xs)
    (fun y as hp v hp1 h => by
      obtain ⟨t', a1, a2', a3, a4⟩ := qsound qtab 800 y as hp v hp1 h
      exact ⟨t', a1, a2', a4 l _ _ _ _, a3⟩) (some (.int 1), x) (fun op x' hmem hop => ?_) n _ hrun
  · have hl := qLV.entry (sz := s.heap.size) (b := b) (ml := 4) [.ref qSCR] (by decide)
    have hmap : ([.ref qSCR] : List Value).map (qmv s.heap.size b) = [.ref b] := rfl
    rw [lg_entry_eq]
    rw [hmap] at hl
    exact main s.heap [] _ (by show s.heap.size + 0 = s.heap.size + 0; rfl) ⟨fun k q h => by simp [qws] at h, by show 0 ≤ qSCR; exact Nat.zero_le _⟩ va_S.rf hl
  · have hfin := ck_law L xs _ hmem p l e room_1 s m #[Value.ref b] below meth c (dC, dI) (aI, a0, a2) s.heap.size b 800 (fun _ => True) K hroom hscr x' _ rfl hop
    obtain ⟨e1, e2, -⟩ := hfin
    obtain ⟨e3, e4⟩ := e2 1 rfl
    dsimp only at e1
    subst e1
    intro H locs lsA hz hH1 hS hL
    refine va_forget (fun q hq => hS.2.2 q hq) ?_
    refine W.widen (k := 600000) (n := 7302250) hc1 hc2 ?_
    rw [e3]
    exact lw_ret hx hb hr hlocks e4
