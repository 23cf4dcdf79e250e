/-! ===== pure 11: thing, suit, part ===== -/
theorem okS.mono {T x : Nat} (h : okS T x) : okS (T + 1) x := by
  rcases h with h | h
  · exact Or.inl (by omega)
  · exact Or.inr h
theorem stN_new {hd : Nat → Nat} {T x y : Nat} (h : okS T x) (hT : T < 8) : stN (fun k => if k = T then y else hd k) x = stN hd x := by
  unfold stN
  rcases h with h | h
  · rw [if_pos (by omega), if_pos (by omega)]
    show (if x = T then y else hd x) = hd x
    rw [if_neg (by omega)]
  · rw [if_neg (by omega), if_neg (by omega)]
theorem WCt.thing {hd fs sc : Nat → Nat} {ov : Nat → Bool} {T U : Nat} {w0 w1 : Bool} (wc : WCt (hd, fs, sc, ov, T, U, w0, w1)) {y : Nat} (hy : y ≤ 6) (hT : T < 8) : WCt ((fun k => if k = T then y else hd k), fs, sc, ov, T + 1, U, w0, w1) := by
  obtain ⟨wf, st⟩ := wc
  refine ⟨⟨show T + 1 ≤ 8 by omega, wf.2.1, fun k hk => ?_, fun s hs => ⟨(wf.2.2.2.1 s hs).1.mono, (wf.2.2.2.1 s hs).2.mono⟩, wf.2.2.2.2⟩, fun s hs ho => ?_⟩
  · dsimp only
    by_cases e : k = T
    · rw [if_pos e]; exact hy
    · rw [if_neg e]; exact wf.2.2.1 k (by dsimp only at hk ⊢; omega)
  · obtain ⟨this, ne⟩ := st s hs ho
    refine ⟨?_, ne⟩
    unfold endN at this ⊢
    obtain ⟨a, b⟩ := wf.2.2.2.1 s hs
    dsimp only at this a b ⊢
    rw [stN_new a hT, stN_new b hT]
    exact this
theorem upd_row {f : Nat → Nat} {b j v : Nat} {g : Nat → Nat} : (fun k => if k = b + j then g j else (fun k => if b ≤ k ∧ k < b + j then g (k - b) else f k) k) = (fun k => if b ≤ k ∧ k < b + (j + 1) then g (k - b) else f k) := by
  funext k
  by_cases e : k = b + j
  · subst e; simp
  · simp only [if_neg e]
    by_cases c : b ≤ k ∧ k < b + j
    · rw [if_pos c, if_pos (by omega)]
    · rw [if_neg c, if_neg (by omega)]
theorem X4_addThing_L {N w T : Nat} {pu co wo : Nat → Nat} {so : Int32} {h : qN} (hT : T < 8) (hN : 12 < N) (rg : RG1 w (pu, co, wo, so) h) :
    ∃ h1, f_X4_addThing_L11 N w (nI T) N (nI 0) h = some h1 ∧ RG1 w (pu, co, (fun k => if T * 6 ≤ k ∧ k < T * 6 + 6 then 5 else wo k), so) h1 ∧ Off (fun a _ => a = w + 8) h h1 := by
  obtain ⟨h1, a, b, c⟩ := loopV (F := f_X4_addThing_L11 N w (nI T)) (U := 6) (Inv := fun j h1 => RG1 w (pu, co, (fun k => if T * 6 ≤ k ∧ k < T * 6 + j then (fun _ => 5) (k - T * 6) else wo k), so) h1 ∧ Off (fun a _ => a = w + 8) h h1)
    (fun n h1 hi => by
      rw [f_X4_addThing_L11.eq_2, if_pos (by decide)])
    (fun n j h1 hj hi => by
      obtain ⟨hi, ho⟩ := hi
      have i1 : nI T * (6 : Int32) + nI j = nI (T * 6 + j) := by rw [k6, pk_mul, nI_add]
      have hc := nchk2 (j := T * 6 + j) (n := 48) (by omega) (by omega)
      rw [f_X4_addThing_L11.eq_2, k6, if_neg (nI_ge hj (by omega)), ← k6]
      simp only [i1, nI_clamp (show T * 6 + j < 2 ^ 31 by omega), if_neg hc, nI_1]
      refine ⟨_, rfl, ?_, Off.up ho rfl⟩
      have := RG1_wo (j := T * 6 + j) (x := 5) hi
      rw [upd_row (b := T * 6) (j := j) (g := fun _ => 5) (v := 5)] at this
      exact this)
    6 0 N h (by omega) (by omega) ⟨by
      have : (fun k => if T * 6 ≤ k ∧ k < T * 6 + 0 then 5 else wo k) = wo := by
        funext k; rw [if_neg (by omega)]
      simp only [this]; exact rg, Off.rf⟩
  exact ⟨h1, a, b, c⟩
theorem X6_thing_L {N T : Nat} {pu co wo : Nat → Nat} {so : Int32} {h : qN} (hT : T < 8) (hN : 12 < N) (h3 : h 60 3 = nI T) (rg : RG6 (pu, co, wo, so) h) :
    ∃ h1, f_X6_thing_L38 N N (nI 0) h = some h1 ∧ RG6 (pu, co, (fun k => if T * 6 ≤ k ∧ k < T * 6 + 6 then 5 else wo k), so) h1 ∧ Off (fun a _ => a = 65) h h1 := by
  obtain ⟨h1, a, b, c⟩ := loopV (F := f_X6_thing_L38 N) (U := 6) (Inv := fun j h1 => RG6 (pu, co, (fun k => if T * 6 ≤ k ∧ k < T * 6 + j then (fun _ => 5) (k - T * 6) else wo k), so) h1 ∧ Off (fun a _ => a = 65) h h1)
    (fun n h1 hi => by
      rw [f_X6_thing_L38.eq_2, if_pos (by decide)])
    (fun n j h1 hj hi => by
      obtain ⟨hi, ho⟩ := hi
      have i1 : (6 : Int32) * nI T + nI j = nI (T * 6 + j) := by rw [k6, pk_mul, nI_add, Nat.mul_comm]
      have hc := nchk2 (j := T * 6 + j) (n := 48) (by omega) (by omega)
      have h3' : h1 60 3 = nI T := by rw [ho 60 3 (by omega)]; exact h3
      rw [f_X6_thing_L38.eq_2, h3', k6, if_neg (nI_ge hj (by omega)), ← k6]
      simp only [i1, nI_clamp (show T * 6 + j < 2 ^ 31 by omega), if_neg hc, nI_1]
      refine ⟨_, rfl, ?_, Off.up ho rfl⟩
      have := RG6_wo (j := T * 6 + j) (x := 5) hi
      rw [upd_row (b := T * 6) (j := j) (g := fun _ => 5) (v := 5)] at this
      exact this)
    6 0 N h (by omega) (by omega) ⟨by
      have : (fun k => if T * 6 ≤ k ∧ k < T * 6 + 0 then 5 else wo k) = wo := by
        funext k; rw [if_neg (by omega)]
      simp only [this]; exact rg, Off.rf⟩
  exact ⟨h1, a, b, c⟩
theorem call_thing {N : Nat} (hN : 12 < N) (a : Int32) {h : qN} (hj : J h) : OKC (f_X5_thing N a) (f_X6_thing N a) h := by
  obtain ⟨⟨hd, fs, sc, ov, T, U, w0, w1⟩, ⟨pu, co, wo, so⟩, wc, wg, rc, rg, rm, r6⟩ := hj.1
  have wf : WF hd fs sc ov T U := wc.1
  have hT : T ≤ 8 := wf.1
  have e4 : h 2 4 = nI T := rc.1
  have e3 : h 60 3 = nI T := rm.1
  by_cases c : 0 ≤ a.toInt ∧ a.toInt ≤ 6
  · obtain ⟨y, hy, rfl, hy2⟩ := ofRangeLe c
    by_cases t8 : T = 8
    · subst t8
      refine ⟨-3, h, h, ?_, ?_, hj⟩
      · unfold f_X5_thing
        simp only [X5_isPerson, X6_isPerson, X5_isWithin, X6_in, a64, qb, one0, zero0, if_true, if_false, L0, L1, L2, L4, L5, L6, L9, L10, L15, L16, L60, L99, L999, I0, I1, I6, I9, I16, I60, I99, I999, if_pos c, e4]
        rw [if_neg (by decide)]
      · unfold f_X6_thing
        simp only [X5_isPerson, X6_isPerson, X5_isWithin, X6_in, a64, qb, one0, zero0, if_true, if_false, L0, L1, L2, L4, L5, L6, L9, L10, L15, L16, L60, L99, L999, I0, I1, I6, I9, I16, I60, I99, I999, if_pos c, e3]
        rw [if_pos (by decide)]
    · have hT8 : T < 8 := by omega
      have hc := nchk2 (j := T) (n := 8) hT8 (by omega)
      have hcT : (nI T).toNatClampNeg = T := nI_clamp (by omega)
      have rc1 := RC_T (T' := T + 1) (RC_hd (j := T) (x := y) rc)
      have og : Off (PC 2) h (qup (qup h (2 + 2) T (nI y)) 2 4 (nI (T + 1))) := Off.up (off_up (by unfold PC; omega)) (by unfold PC; omega)
      obtain ⟨h1, a1, b1, c1⟩ := X4_addThing_L (w := 1) hT8 hN (rg.pc rfl og)
      have o5 : Off P5 h h1 := Off.tr (og.weaken PC2_5) (c1.weaken (by intro a k x; unfold P5; omega))
      have rm5 := RM.p5 rm o5
      have r65 := r6.p5 o5
      have e3' : h1 60 3 = nI T := rm5.1
      have og6 : Off (fun a _ => a = 64) h1 (qup h1 64 T (nI y)) := off_up rfl
      have rm0 := RM_hd (j := T) (x := y) rm5
      have e3'' : (qup h1 64 T (nI y)) 60 3 = nI T := e3'
      obtain ⟨h2, a2, b2, c2⟩ := X6_thing_L hT8 hN e3'' (r65.off og6 (by omega))
      have rm1 := RM.off rm0 c2 (by intro a k x; unfold PM at x; omega)
      have rm2 := RM_T (T' := T + 1) rm1
      have o6 : Off P6 h1 (qup h2 60 3 (nI (T + 1))) := Off.up (Off.tr (og6.weaken (by intro a k x; unfold P6; omega)) (c2.weaken (by intro a k x; unfold P6; omega))) (by unfold P6; omega)
      have e32 : h2 60 3 = nI T := rm1.1
      refine ⟨nI T, h1, qup h2 60 3 (nI (T + 1)), ?_, ?_, hj.bld (wc.thing (y := y) (by omega) hT8) (g := (pu, co, (fun k => if T * 6 ≤ k ∧ k < T * 6 + 6 then 5 else wo k), so)) ⟨wg.1, wg.2.1, fun k hk => ?_⟩ (RC.off rc1 c1 (by omega)) b1 rm2 (b2.off (P := fun a k => a = 60 ∧ k = 3) (off_up (by simp)) (by omega)) o5 o6⟩
      · unfold f_X5_thing f_X4_addThing f_X0_addThing
        have hl : (nI T < (8 : Int32)) := by rw [k8]; exact nI_lt hT8 (by omega)
        simp only [X5_isPerson, X6_isPerson, X5_isWithin, X6_in, a64, qb, one0, zero0, if_true, if_false, L0, L1, L2, L4, L5, L6, L9, L10, L15, L16, L60, L99, L999, I0, I1, I6, I9, I16, I60, I99, I999, if_pos c, e4, hcT, if_neg hc, if_pos hl]
        rw [show (qup h (1 + 1 + 2) T (nI y) (1 + 1) 4) = nI T from e4, nI_1, k0, a1]
        rfl
      · unfold f_X6_thing
        have hl : (nI T = (8 : Int32)) = False := eq_false (by rw [k8, nI_eq (by omega) (by omega)]; omega)
        simp only [X5_isPerson, X6_isPerson, X5_isWithin, X6_in, a64, qb, one0, zero0, if_true, if_false, L0, L1, L2, L4, L5, L6, L9, L10, L15, L16, L60, L99, L999, I0, I1, I6, I9, I16, I60, I99, I999, if_pos c, e3', hl, hcT, if_neg hc]
        rw [k0, a2, qb, e32, nI_1]
        simp only [qup, if_true, nI_pred]
      · have := wg.2.2 k hk
        dsimp only
        split
        · omega
        · exact this
  · refine ⟨-1, h, h, ?_, ?_, hj⟩
    · unfold f_X5_thing
      simp only [X5_isPerson, X6_isPerson, X5_isWithin, X6_in, a64, qb, one0, zero0, if_true, if_false, L0, L1, L2, L4, L5, L6, L9, L10, L15, L16, L60, L99, L999, I0, I1, I6, I9, I16, I60, I99, I999, if_neg c]
    · unfold f_X6_thing
      simp only [X5_isPerson, X6_isPerson, X5_isWithin, X6_in, a64, qb, one0, zero0, if_true, if_false, L0, L1, L2, L4, L5, L6, L9, L10, L15, L16, L60, L99, L999, I0, I1, I6, I9, I16, I60, I99, I999, if_neg c]
/-! suits that come -/
theorem X5_isSide {h : qN} {T : Nat} (hT : h 2 4 = nI T) (hT8 : T ≤ 8) (a : Int32) : f_X5_isSide a h = some ((if (0 ≤ a.toInt ∧ a.toInt < T) ∨ (10 ≤ a.toInt ∧ a.toInt < 16) then (1 : Int32) else 0), h) := by
  unfold f_X5_isSide
  simp only [X5_isThing hT hT8, X5_isPerson, qb]
  by_cases c : 0 ≤ a.toInt ∧ a.toInt < T
  · simp only [if_pos c, one0, if_false]
    rw [if_pos (Or.inl c)]
  · simp only [if_neg c, zero0, if_true]
    have e : (0 ≤ (a - 10).toInt ∧ (a - 10).toInt < 6) ↔ (10 ≤ a.toInt ∧ a.toInt < 16) := by
      rw [Int32.toInt_sub, show (10 : Int32).toInt = 10 from rfl]
      have h1 := Int32.toInt_lt a
      have h2 := Int32.le_toInt a
      rw [Int.bmod_def]
      split <;> omega
    by_cases d : 10 ≤ a.toInt ∧ a.toInt < 16
    · simp only [if_pos (e.mpr d), one0, if_false]
      rw [if_pos (Or.inr d)]
    · have d' : ¬ (0 ≤ (a - 10).toInt ∧ (a - 10).toInt < 6) := fun z => d (e.mp z)
      simp only [if_neg d', zero0, if_true]
      rw [if_neg (by intro z; rcases z with z | z; exact c z; exact d z)]
theorem X6_isSide {h : qN} {T : Nat} (hT : h 60 3 = nI T) (hT8 : T ≤ 8) (a : Int32) : f_X6_isSide a h = some ((if (0 ≤ a.toInt ∧ a.toInt < T) ∨ (10 ≤ a.toInt ∧ a.toInt < 16) then (1 : Int32) else 0), h) := by
  unfold f_X6_isSide
  simp only [X6_isThing hT hT8, X6_in, a64, L10, L15, qb]
  by_cases c : 0 ≤ a.toInt ∧ a.toInt < T
  · simp only [if_pos c, one0, if_false]
    rw [if_pos (Or.inl c)]
  · simp only [if_neg c, zero0, if_true]
    by_cases d : 10 ≤ a.toInt ∧ a.toInt < 16
    · have d' : 10 ≤ a.toInt ∧ a.toInt ≤ 15 := by omega
      simp only [if_pos d', one0, if_false]
      rw [if_pos (Or.inr d)]
    · have d' : ¬ (10 ≤ a.toInt ∧ a.toInt ≤ 15) := by omega
      simp only [if_neg d', zero0, if_true]
      rw [if_neg (by intro z; rcases z with z | z; exact c z; exact d z)]
theorem ofSide {a : Int32} {T : Nat} (h : (0 ≤ a.toInt ∧ a.toInt < T) ∨ (10 ≤ a.toInt ∧ a.toInt < 16)) : ∃ x : Nat, okS T x ∧ a = nI x ∧ x < 2 ^ 31 := by
  rcases h with h | h
  · obtain ⟨p, h1, h2, h3⟩ := ofRange h
    exact ⟨p, Or.inl (by omega), h2, h3⟩
  · obtain ⟨p, h1, rfl, h3⟩ := ofRange (a := a) (n := 16) (by omega)
    rw [nI_toInt h3] at h
    exact ⟨p, Or.inr (by omega), rfl, h3⟩
/-- the state behind a suit that comes -/
def suC (c : Ct) (x y : Nat) : Ct := (c.1, (fun k => if k = c.2.2.2.2.2.1 then x else c.2.1 k), (fun k => if k = c.2.2.2.2.2.1 then y else c.2.2.1 k),
  setO c.1 (fun k => if k = c.2.2.2.2.2.1 then x else c.2.1 k) (fun k => if k = c.2.2.2.2.2.1 then y else c.2.2.1 k) c.2.2.2.2.2.2.2 c.2.2.2.1 (c.2.2.2.2.2.1 + 1), c.2.2.2.2.1, c.2.2.2.2.2.1 + 1, c.2.2.2.2.2.2.1, c.2.2.2.2.2.2.2)
theorem suWF {hd fs sc : Nat → Nat} {ov : Nat → Bool} {T U : Nat} (wf : WF hd fs sc ov T U) {x y : Nat} (hx : okS T x) (hy : okS T y) (hU : U < 12) : WF hd (fun k => if k = U then x else fs k) (fun k => if k = U then y else sc k) ov T (U + 1) := by
  refine ⟨wf.1, by omega, wf.2.2.1, fun s hs => ?_, fun s hs => by have := wf.2.2.2.2 s hs; omega⟩
  by_cases e : s = U
  · simp only [if_pos e]; exact ⟨hx, hy⟩
  · simp only [if_neg e]; exact wf.2.2.2.1 s (by omega)
theorem WCt.su {c : Ct} (wc : WCt c) {x y : Nat} (hx : okS c.2.2.2.2.1 x) (hy : okS c.2.2.2.2.1 y) (hxy : x ≠ y) (hU : c.2.2.2.2.2.1 < 12) : WCt (suC c x y) := by
  obtain ⟨hd, fs, sc, ov, T, U, w0, w1⟩ := c
  refine ⟨(suWF wc.1 hx hy hU).settle w1, SETT.settle _ (fun s hs ho he => ?_)⟩
  have he : (if s = U then x else fs s) = (if s = U then y else sc s) := he
  show ∃ p, p < 6 ∧ (if s = U then x else fs s) = 10 + p
  have hs : s < U + 1 := hs
  by_cases e : s = U
  · rw [if_pos e, if_pos e] at he; exact absurd he hxy
  · rw [if_neg e, if_neg e] at he
    rw [if_neg e]
    exact wc.2.eqp s (show s < U by omega) ho he
theorem X0_addSuitC {N : Nat} {c : Ct} {h : qN} (wc : WCt c) {x y : Nat} (hx : okS c.2.2.2.2.1 x) (hy : okS c.2.2.2.2.1 y) (hU : c.2.2.2.2.2.1 < 12) (hN : 12 < N) (hr : RCt 2 c h) :
    ∃ h1, f_X0_addSuit N 2 (nI x) (nI y) h = some (nI c.2.2.2.2.2.1, h1) ∧ RCt 2 (suC c x y) h1 ∧ Off (PC 2) h h1 := by
  obtain ⟨hd, fs, sc, ov, T, U, w0, w1⟩ := c
  have wf : WF hd fs sc ov T U := wc.1
  have hU : U < 12 := hU
  have hr : RC 2 hd fs sc ov T U w0 w1 h := hr
  have e5 : h 2 5 = nI U := hr.2.1
  have hc := nchk2 (j := U) (n := 12) hU (by omega)
  obtain ⟨h1, a1, b1, c1⟩ := X0_settle (suWF wf hx hy hU) hN (RC_U (U' := U + 1) (RC_sc (j := U) (x := y) (RC_fs (j := U) (x := x) hr)))
  refine ⟨h1, ?_, b1, Off.tr (Off.up (Off.up (off_up (by unfold PC; omega)) (by unfold PC; omega)) (by unfold PC; omega)) c1⟩
  unfold f_X0_addSuit
  simp only [e5, nI_clamp (show U < 2 ^ 31 by omega), if_neg hc]
  rw [show (qup (qup h (2 + 3) U (nI x)) (2 + 4) U (nI y) 2 5) = nI U from e5, nI_1, a1, qb]
theorem X6_comesC {N : Nat} {c : Ct} {h : qN} (wc : WCt c) {x y : Nat} (hx : okS c.2.2.2.2.1 x) (hy : okS c.2.2.2.2.1 y) (hU : c.2.2.2.2.2.1 < 12) (hN : 12 < N) (hr : RMt c h) :
    ∃ h1, f_X6_comes N (nI x) (nI y) h = some (nI c.2.2.2.2.2.1, h1) ∧ RMt (suC c x y) h1 ∧ Off PM h h1 := by
  obtain ⟨hd, fs, sc, ov, T, U, w0, w1⟩ := c
  have wf : WF hd fs sc ov T U := wc.1
  have hU : U < 12 := hU
  have hr : RM hd fs sc ov T U w0 w1 h := hr
  have e5 : h 60 6 = nI U := hr.2.1
  have hc := nchk2 (j := U) (n := 12) hU (by omega)
  have h0 : ov U = false := by
    cases hv : ov U with
    | false => rfl
    | true => have := wf.2.2.2.2 U hv; omega
  obtain ⟨h1, a1, b1, c1⟩ := X6_ends (suWF wf hx hy hU) hN (RM_U (U' := U + 1) (RM_ov (OVW.clr hr.2.2.1 hU h0) (RM_sc (j := U) (x := y) (RM_fs (j := U) (x := x) hr))))
  refine ⟨h1, ?_, b1, Off.tr (Off.up (Off.up (Off.up (off_up (by unfold PM; omega)) (by unfold PM; omega)) (by unfold PM; omega)) (by unfold PM; omega)) c1⟩
  unfold f_X6_comes
  have q1 : (qup h 66 U (nI x)) 60 6 = nI U := e5
  have q2 : (qup (qup h 66 U (nI x)) 67 U (nI y)) 60 6 = nI U := e5
  have q3 : (qup (qup h 66 U (nI x)) 67 U (nI y)) 60 9 = h 60 9 := rfl
  have q4 : ∀ v, (qup (qup (qup h 66 U (nI x)) 67 U (nI y)) 60 9 v) 60 6 = nI U := fun v => e5
  simp only [e5, nI_clamp (show U < 2 ^ 31 by omega), if_neg hc, q1, q2, q3, q4, nI_1]
  rw [a1, qb]
  dsimp only
  rw [show h1 60 6 = nI (U + 1) from b1.2.1, nI_pred]
theorem call_suit {N : Nat} (hN : 12 < N) (a b : Int32) {h : qN} (hj : J h) : OKC (f_X5_suit N a b) (f_X6_suit N a b) h := by
  obtain ⟨⟨hd, fs, sc, ov, T, U, w0, w1⟩, ⟨pu, co, wo, so⟩, wc, wg, rc, rg, rm, r6⟩ := hj.1
  have wf : WF hd fs sc ov T U := wc.1
  have hT : T ≤ 8 := wf.1
  have hU : U ≤ 12 := wf.2.1
  have t5 := X5_isSide (h := h) (T := T) rc.1 hT
  have t6 := X6_isSide (h := h) (T := T) rm.1 hT
  have e5 : h 2 5 = nI U := rc.2.1
  have e6 : h 60 6 = nI U := rm.2.1
  by_cases c : (0 ≤ a.toInt ∧ a.toInt < T) ∨ (10 ≤ a.toInt ∧ a.toInt < 16)
  · by_cases cb : (0 ≤ b.toInt ∧ b.toInt < T) ∨ (10 ≤ b.toInt ∧ b.toInt < 16)
    · by_cases n1 : a = b
      · refine ⟨-1, h, h, ?_, ?_, hj⟩
        · unfold f_X5_suit
          simp only [t5, qb, if_pos c, if_pos cb, one0, if_false, if_pos n1]
        · unfold f_X6_suit
          simp only [t6, qb, if_pos c, if_pos cb, one0, if_false, if_pos n1]
      · by_cases u12 : U = 12
        · subst u12
          refine ⟨-3, h, h, ?_, ?_, hj⟩
          · unfold f_X5_suit
            simp only [t5, qb, if_pos c, if_pos cb, one0, if_false, if_neg n1, e5]
            rw [if_neg (by decide)]
          · unfold f_X6_suit
            simp only [t6, qb, if_pos c, if_pos cb, one0, if_false, if_neg n1, e6]
            rw [if_pos (by decide)]
        · obtain ⟨x, hx, rfl, hx2⟩ := ofSide c
          obtain ⟨y, hy, rfl, hy2⟩ := ofSide cb
          have hU2 : U < 12 := by omega
          obtain ⟨h1, a1, b1, c1⟩ := X0_addSuitC wc hx hy hU2 hN rc
          have o5 := c1.weaken PC2_5
          obtain ⟨h2, a2, b2, c2⟩ := X6_comesC wc hx hy hU2 hN (RM.p5 rm o5)
          refine ⟨nI U, h1, h2, ?_, ?_, hj.bld (wc.su hx hy (fun z => n1 (by rw [z])) hU2) wg b1 (rg.pc rfl c1) b2 ((r6.p5 o5).pm c2) o5 (c2.weaken PM_6)⟩
          · unfold f_X5_suit
            have hl : (nI U < (12 : Int32)) := by rw [k12]; exact nI_lt hU2 (by omega)
            simp only [t5, qb, if_pos c, if_pos cb, one0, if_false, if_neg n1, e5, if_pos hl, a1]
          · unfold f_X6_suit
            have hl : (nI U = (12 : Int32)) = False := eq_false (by rw [k12, nI_eq (by omega) (by omega)]; omega)
            have t6' := X6_isSide (h := h1) (T := T) (RM.p5 rm o5).1 hT
            have e6' : h1 60 6 = nI U := (RM.p5 rm o5).2.1
            simp only [t6', qb, if_pos c, if_pos cb, one0, if_false, if_neg n1, e6', hl, a2]
    · refine ⟨-1, h, h, ?_, ?_, hj⟩
      · unfold f_X5_suit
        simp only [t5, qb, if_pos c, if_neg cb, one0, zero0, if_false, if_true]
      · unfold f_X6_suit
        simp only [t6, qb, if_pos c, if_neg cb, one0, zero0, if_false, if_true]
  · refine ⟨-1, h, h, ?_, ?_, hj⟩
    · unfold f_X5_suit
      simp only [t5, qb, if_neg c, zero0, if_true]
    · unfold f_X6_suit
      simp only [t6, qb, if_neg c, zero0, if_true]
