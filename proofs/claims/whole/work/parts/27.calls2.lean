/-! ===== pure 7: calls: laws, told, gifts, swaps, weddings, sales, worths ===== -/
def P5 : Nat → Nat → Prop := fun a _ => (1 ≤ a ∧ a < 10) ∨ (19 ≤ a ∧ a < 48)
def P6 : Nat → Nat → Prop := fun a k => (a = 60 ∧ (k = 3 ∨ k = 6 ∨ k = 9 ∨ k = 10 ∨ k = 19 ∨ k = 22)) ∨ (61 ≤ a ∧ a < 68) ∨ (70 ≤ a ∧ a < 75)
theorem PC2_5 : ∀ a k, PC 2 a k → P5 a k := fun a k x => by unfold PC at x; unfold P5; omega
theorem PC19_5 : ∀ a k, PC 19 a k → P5 a k := fun a k x => by unfold PC at x; unfold P5; omega
theorem PM_6 : ∀ a k, PM a k → P6 a k := fun a k x => by unfold PM at x; unfold P6; omega
theorem P5_V : ∀ a k, P5 a k → PV a k := fun a k x => by unfold P5 at x; unfold PV; omega
theorem P6_V : ∀ a k, P6 a k → PV a k := fun a k x => by unfold P6 at x; unfold PV; omega
theorem RM.p5 {hd fs sc : Nat → Nat} {ov : Nat → Bool} {T U : Nat} {w0 w1 : Bool} {h h1 : qN} (hr : RM hd fs sc ov T U w0 w1 h) (hh : Off P5 h h1) : RM hd fs sc ov T U w0 w1 h1 := hr.off hh (fun a k x y => by unfold PM at x; unfold P5 at y; omega)
theorem RG6.p5 {g : Gt} {h h1 : qN} (hr : RG6 g h) (hh : Off P5 h h1) : RG6 g h1 := hr.off hh (fun a k x y => by unfold P5 at y; omega)
theorem RC.p6 {o : Nat} {hd fs sc : Nat → Nat} {ov : Nat → Bool} {T U : Nat} {w0 w1 : Bool} {h h1 : qN} (ho : o + 5 ≤ 60) (hr : RC o hd fs sc ov T U w0 w1 h) (hh : Off P6 h h1) : RC o hd fs sc ov T U w0 w1 h1 := hr.off hh (fun a k x y z => by unfold P6 at z; omega)
theorem RG1.p6 {w : Nat} {g : Gt} {h h1 : qN} (hw : w + 9 ≤ 60) (hr : RG1 w g h) (hh : Off P6 h h1) : RG1 w g h1 := hr.off hh (fun a k x y => by unfold P6 at y; omega)
/-- the village behind a call, out of the class's end and the reference's end -/
theorem J.build {hd fs sc : Nat → Nat} {ov : Nat → Bool} {T U : Nat} {w0 w1 : Bool} {g : Gt} {h h1 h2 : qN} (hj : J h) (wc : WCt (hd, fs, sc, ov, T, U, w0, w1)) (wg : WGt g) (rc : RC 2 hd fs sc ov T U w0 w1 h1) (rg : RG1 1 g h1) (rm : RM hd fs sc ov T U w0 w1 h2) (r6 : RG6 g h2) (o1 : Off P5 h h1) (o2 : Off P6 h1 h2) : J h2 :=
  hj.pv ⟨(hd, fs, sc, ov, T, U, w0, w1), g, wc, wg, rc.p6 (by omega) o2, rg.p6 (by omega) o2, rm, r6⟩ ((o1.weaken P5_V).tr (o2.weaken P6_V))
theorem RG1.pc {w o : Nat} {g : Gt} {h h1 : qN} (hr : RG1 w g h) (ho : w + 1 = o) (hh : Off (PC o) h h1) : RG1 w g h1 := hr.off hh (fun a k x y => by unfold PC at y; omega)
theorem RG6.pm {g : Gt} {h h1 : qN} (hr : RG6 g h) (hh : Off PM h h1) : RG6 g h1 := hr.off hh (fun a k x y => by unfold PM at y; omega)
theorem call_rule {N : Nat} (hN : 12 < N) (a b : Int32) {h : qN} (hj : J h) : OKC (f_X5_rule N a b) (f_X6_rule N a b) h := by
  obtain ⟨⟨hd, fs, sc, ov, T, U, w0, w1⟩, ⟨pu, co, wo, so⟩, wc, wg, rc, rg, rm, r6⟩ := hj.1
  by_cases ca : 0 ≤ a.toInt ∧ a.toInt ≤ 1
  · by_cases cb : 0 ≤ b.toInt ∧ b.toInt ≤ 1
    · obtain ⟨p, hp, rfl, hp2⟩ := ofRangeLe ca
      obtain ⟨q, hq, rfl, hq2⟩ := ofRangeLe cb
      obtain ⟨x, rfl⟩ : ∃ x : Bool, q = x.toNat := by
        rcases (show q = 0 ∨ q = 1 by omega) with rfl | rfl
        · exact ⟨false, rfl⟩
        · exact ⟨true, rfl⟩
      have hc := nchk2 (j := p) (n := 2) (by omega) (by omega)
      have key : ∀ (v0 v1 : Bool), RC 2 hd fs sc ov T U v0 v1 (qup h 3 p (nI x.toNat)) → (∀ h1, RM hd fs sc ov T U w0 w1 h1 → RM hd fs sc ov T U v0 v1 (qup h1 63 p (nI x.toNat))) → h 63 p = h 3 p → OKC (f_X5_rule N (nI p) (nI x.toNat)) (f_X6_rule N (nI p) (nI x.toNat)) h := by
        intro v0 v1 k5 k6 ke
        obtain ⟨h1, a1, b1, c1⟩ := X0_settle wc.1 hN k5
        have o1 : Off P5 h h1 := Off.tr (off_up (by unfold P5; omega)) (c1.weaken PC2_5)
        obtain ⟨h2, a2, b2, c2⟩ := X6_ends wc.1 hN (k6 h1 (rm.p5 o1))
        have o2 : Off P6 h1 h2 := Off.tr (off_up (by unfold P6; omega)) (c2.weaken PM_6)
        refine ⟨h 3 p, h1, h2, ?_, ?_, ?_⟩
        · unfold f_X5_rule
          simp only [X5_isPerson, X6_isPerson, X5_isWithin, X6_in, a64, qb, one0, zero0, if_true, if_false, L0, L1, L2, L4, L5, L6, L9, L10, L15, L16, L60, L99, L999, I0, I1, I6, I9, I16, I60, I99, I999, if_pos ca, if_pos cb, X5_put (a := 3) (n := 2) (p := p) (by omega) (by omega), a1]
        · unfold f_X6_rule
          simp only [X5_isPerson, X6_isPerson, X5_isWithin, X6_in, a64, qb, one0, zero0, if_true, if_false, L0, L1, L2, L4, L5, L6, L9, L10, L15, L16, L60, L99, L999, I0, I1, I6, I9, I16, I60, I99, I999, if_pos ca, if_pos cb, nI_clamp hp2, if_neg hc, a2]
          rw [← ke, o1 63 p (by unfold P5; omega)]
        · refine hj.build ⟨wc.1.settle _, SETT.settle _ wc.2.eqp⟩ wg b1 ?_ b2 ?_ o1 o2
          · exact RG1.pc (RG1.off rg (P := fun a k => a = 3) (off_up (by simp)) (by omega)) rfl c1
          · exact (RG6.off (r6.p5 o1) (P := fun a k => a = 63) (off_up (by simp)) (by omega)).pm c2
      rcases (show p = 0 ∨ p = 1 by omega) with rfl | rfl
      · exact key x w1 (RC_w0 rc) (fun h1 hh => RM_w0 hh) (by rw [show h 63 0 = nI w0.toNat from rm.2.2.2.2.2.2.1, show h 3 0 = nI w0.toNat from rc.2.2.2.2.2.2.1])
      · exact key w0 x (RC_w1 rc) (fun h1 hh => RM_w1 hh) (by rw [show h 63 1 = nI w1.toNat from rm.2.2.2.2.2.2.2, show h 3 1 = nI w1.toNat from rc.2.2.2.2.2.2.2])
    · refine ⟨-1, h, h, ?_, ?_, hj⟩
      · unfold f_X5_rule
        simp only [X5_isPerson, X6_isPerson, X5_isWithin, X6_in, a64, qb, one0, zero0, if_true, if_false, L0, L1, L2, L4, L5, L6, L9, L10, L15, L16, L60, L99, L999, I0, I1, I6, I9, I16, I60, I99, I999, if_pos ca, if_neg cb]
      · unfold f_X6_rule
        simp only [X5_isPerson, X6_isPerson, X5_isWithin, X6_in, a64, qb, one0, zero0, if_true, if_false, L0, L1, L2, L4, L5, L6, L9, L10, L15, L16, L60, L99, L999, I0, I1, I6, I9, I16, I60, I99, I999, if_pos ca, if_neg cb]
  · refine ⟨-1, h, h, ?_, ?_, hj⟩
    · unfold f_X5_rule
      simp only [X5_isPerson, X6_isPerson, X5_isWithin, X6_in, a64, qb, one0, zero0, if_true, if_false, L0, L1, L2, L4, L5, L6, L9, L10, L15, L16, L60, L99, L999, I0, I1, I6, I9, I16, I60, I99, I999, if_neg ca]
    · unfold f_X6_rule
      simp only [X5_isPerson, X6_isPerson, X5_isWithin, X6_in, a64, qb, one0, zero0, if_true, if_false, L0, L1, L2, L4, L5, L6, L9, L10, L15, L16, L60, L99, L999, I0, I1, I6, I9, I16, I60, I99, I999, if_neg ca]
theorem call_give {N : Nat} (hN : 12 < N) (a : Int32) {h : qN} (hj : J h) : OKC (f_X5_give N a) (f_X6_give N a) h := by
  obtain ⟨⟨hd, fs, sc, ov, T, U, w0, w1⟩, ⟨pu, co, wo, so⟩, wc, wg, rc, rg, rm, r6⟩ := hj.1
  have hT : T ≤ 8 := wc.1.1
  have t5 := X5_isThing (h := h) (T := T) rc.1 hT a
  by_cases c : 0 ≤ a.toInt ∧ a.toInt < T
  · obtain ⟨p, hp, rfl, hp2⟩ := ofRange c
    have hp3 : p < T := by omega
    have h6 : hd p ≤ 6 := wc.1.2.2.1 p hp3
    have t6 := X6_isThing (h := h) (T := T) rm.1 hT (nI p)
    have hc := nchk2 (j := p) (n := 8) (by omega) (by omega)
    have e5 : h 4 p = nI (hd p) := rc.2.2.2.1 p (by omega)
    have e6 : h 64 p = nI (hd p) := rm.2.2.2.1 p (by omega)
    have en : (nI (hd p) = (6 : Int32)) = (hd p = 6) := propext (nI_eq (a := hd p) (b := 6) (by omega) (by omega))
    by_cases q : hd p = 6
    · refine ⟨-2, h, h, ?_, ?_, hj⟩
      · unfold f_X5_give
        simp only [t5, X5_isPerson, X6_isPerson, X5_isWithin, X6_in, a64, qb, one0, zero0, if_true, if_false, L0, L1, L2, L4, L5, L6, L9, L10, L15, L16, L60, L99, L999, I0, I1, I6, I9, I16, I60, I99, I999, if_pos c, nI_clamp hp2, if_neg hc, e5, en, if_pos q]
      · unfold f_X6_give
        simp only [t6, X5_isPerson, X6_isPerson, X5_isWithin, X6_in, a64, qb, one0, zero0, if_true, if_false, L0, L1, L2, L4, L5, L6, L9, L10, L15, L16, L60, L99, L999, I0, I1, I6, I9, I16, I60, I99, I999, if_pos c, nI_clamp hp2, if_neg hc, e6, en, if_pos q]
    · obtain ⟨h1, a1, b1, c1⟩ := X0_move (y := 6) wc.1 hp3 (by omega) hN (RC.off rc (P := fun a k => a = 1) (off_up (v := h 1 4 + 1) (a := 1) (k := 4) (by simp)) (by omega))
      have o1 : Off P5 h h1 := Off.tr (off_up (by unfold P5; omega)) (c1.weaken PC2_5)
      obtain ⟨h2, a2, b2, c2⟩ := X6_sells (y := 6) wc.1 hp3 (by omega) hN (RM.off (rm.p5 o1) (P := fun a k => a = 60 ∧ k = 10) (off_up (v := h1 60 10 + 1) (a := 60) (k := 10) (by simp)) (by unfold PM; omega))
      have o2 : Off P6 h1 h2 := Off.tr (off_up (by unfold P6; omega)) (c2.weaken PM_6)
      refine ⟨nI (came (hdU hd p 6) (stayF w0 hd ov p U fs) (stayF w0 hd ov p U sc) w1 ov U), h1, h2, ?_, ?_, ?_⟩
      · unfold f_X5_give
        simp only [t5, X5_isPerson, X6_isPerson, X5_isWithin, X6_in, a64, qb, one0, zero0, if_true, if_false, L0, L1, L2, L4, L5, L6, L9, L10, L15, L16, L60, L99, L999, I0, I1, I6, I9, I16, I60, I99, I999, if_pos c, nI_clamp hp2, if_neg hc, e5, en, if_neg q]
        rw [show (6 : Int32) = nI 6 from rfl, a1, qb]
      · have t6' := X6_isThing (h := h1) (T := T) (rm.p5 o1).1 hT (nI p)
        have e6' : h1 64 p = nI (hd p) := (rm.p5 o1).2.2.2.1 p (by omega)
        unfold f_X6_give
        simp only [t6', X5_isPerson, X6_isPerson, X5_isWithin, X6_in, a64, qb, one0, zero0, if_true, if_false, L0, L1, L2, L4, L5, L6, L9, L10, L15, L16, L60, L99, L999, I0, I1, I6, I9, I16, I60, I99, I999, if_pos c, nI_clamp hp2, if_neg hc, e6', en, if_neg q]
        rw [show (6 : Int32) = nI 6 from rfl, a2, qb]
      · refine hj.build (g := (pu, co, wo, so + 1)) ⟨((wc.1.stay w0 hp3).hand (t := p) (by omega : 6 ≤ 6)).settle _, SETT.settle _ (wc.2.eqp.stay w0 (show p < 8 by omega) h6)⟩ wg b1 ?_ b2 ?_ o1 o2
        · have := RG1_so (x := h 1 4 + 1) rg
          rw [show h 1 4 = so from rg.2.2.2] at this
          rw [show h 1 4 = so from rg.2.2.2] at c1
          exact this.pc rfl c1
        · have r6' := r6.p5 o1
          have := RG6_so (x := h1 60 10 + 1) r6'
          rw [show h1 60 10 = so from r6'.2.2.2] at this c2
          exact this.pm c2
  · have t6 := X6_isThing (h := h) (T := T) rm.1 hT a
    refine ⟨-1, h, h, ?_, ?_, hj⟩
    · unfold f_X5_give
      simp only [t5, X5_isPerson, X6_isPerson, X5_isWithin, X6_in, a64, qb, one0, zero0, if_true, if_false, L0, L1, L2, L4, L5, L6, L9, L10, L15, L16, L60, L99, L999, I0, I1, I6, I9, I16, I60, I99, I999, if_neg c]
    · unfold f_X6_give
      simp only [t6, X5_isPerson, X6_isPerson, X5_isWithin, X6_in, a64, qb, one0, zero0, if_true, if_false, L0, L1, L2, L4, L5, L6, L9, L10, L15, L16, L60, L99, L999, I0, I1, I6, I9, I16, I60, I99, I999, if_neg c]
theorem call_worth (a b x : Int32) {h : qN} (hj : J h) : OKC (f_X5_worth a b x) (f_X6_worth a b x) h := by
  obtain ⟨⟨hd, fs, sc, ov, T, U, w0, w1⟩, ⟨pu, co, wo, so⟩, wc, wg, rc, rg, rm, r6⟩ := hj.1
  have hT : T ≤ 8 := wc.1.1
  have t5 := X5_isThing (h := h) (T := T) rc.1 hT a
  have t6 := X6_isThing (h := h) (T := T) rm.1 hT a
  by_cases c : 0 ≤ a.toInt ∧ a.toInt < T
  · by_cases cb : 0 ≤ b.toInt ∧ b.toInt < 6
    · by_cases cx : 0 ≤ x.toInt ∧ x.toInt ≤ 99
      · obtain ⟨p, hp, rfl, hp2⟩ := ofRange c
        obtain ⟨q, hq, rfl, hq2⟩ := ofRange cb
        obtain ⟨r, hr, rfl, hr2⟩ := ofRangeLe cx
        have i1 : nI p * (6 : Int32) + nI q = nI (p * 6 + q) := by rw [k6, pk_mul, nI_add]
        have i2 : (6 : Int32) * nI p + nI q = nI (p * 6 + q) := by rw [k6, pk_mul, nI_add, Nat.mul_comm]
        have hc := nchk2 (j := p * 6 + q) (n := 48) (by omega) (by omega)
        have t6' := X6_isThing (h := qup h 9 (p * 6 + q) (nI r)) (T := T) (by simp only [qup]; exact rm.1) hT (nI p)
        refine ⟨nI (wo (p * 6 + q)), qup h 9 (p * 6 + q) (nI r), qup (qup h 9 (p * 6 + q) (nI r)) 65 (p * 6 + q) (nI r), ?_, ?_, ?_⟩
        · unfold f_X5_worth
          simp only [t5, X5_isPerson, X6_isPerson, X5_isWithin, X6_in, a64, qb, one0, zero0, if_true, if_false, L0, L1, L2, L4, L5, L6, L9, L10, L15, L16, L60, L99, L999, I0, I1, I6, I9, I16, I60, I99, I999, if_pos c, if_pos cb, if_pos cx, i1, X5_put (a := 9) (n := 48) (p := p * 6 + q) (by omega) (by omega)]
          rw [show h 9 (p * 6 + q) = nI (wo (p * 6 + q)) from rg.2.2.1 _ (by omega)]
        · unfold f_X6_worth
          simp only [t6', X5_isPerson, X6_isPerson, X5_isWithin, X6_in, a64, qb, one0, zero0, if_true, if_false, L0, L1, L2, L4, L5, L6, L9, L10, L15, L16, L60, L99, L999, I0, I1, I6, I9, I16, I60, I99, I999, if_pos c, if_pos cb, if_pos cx, i2, nI_clamp (show p * 6 + q < 2 ^ 31 by omega), if_neg hc]
          simp only [qup, show ¬ (65 : Nat) = 9 by omega, if_false]
          rw [show h 65 (p * 6 + q) = nI (wo (p * 6 + q)) from r6.2.2.1 _ (by omega)]
        · exact hj.build (hd := hd) (fs := fs) (sc := sc) (ov := ov) (T := T) (U := U) (w0 := w0) (w1 := w1) wc (wg.wo (j := p * 6 + q) (x := r) (by omega)) (RC.off rc (P := fun a k => a = 9) (off_up (by simp)) (by omega)) (RG1_wo (w := 1) rg)
            (RM.off (RM.off rm (P := fun a k => a = 9) (off_up (by simp)) (by unfold PM; omega)) (P := fun a k => a = 65) (off_up (by simp)) (by unfold PM; omega)) (RG6_wo (r6.off (P := fun a k => a = 9) (off_up (by simp)) (by omega))) (off_up (by unfold P5; omega)) (off_up (by unfold P6; omega))
      · refine ⟨-1, h, h, ?_, ?_, hj⟩
        · unfold f_X5_worth
          simp only [t5, X5_isPerson, X6_isPerson, X5_isWithin, X6_in, a64, qb, one0, zero0, if_true, if_false, L0, L1, L2, L4, L5, L6, L9, L10, L15, L16, L60, L99, L999, I0, I1, I6, I9, I16, I60, I99, I999, if_pos c, if_pos cb, if_neg cx]
        · unfold f_X6_worth
          simp only [t6, X5_isPerson, X6_isPerson, X5_isWithin, X6_in, a64, qb, one0, zero0, if_true, if_false, L0, L1, L2, L4, L5, L6, L9, L10, L15, L16, L60, L99, L999, I0, I1, I6, I9, I16, I60, I99, I999, if_pos c, if_pos cb, if_neg cx]
    · refine ⟨-1, h, h, ?_, ?_, hj⟩
      · unfold f_X5_worth
        simp only [t5, X5_isPerson, X6_isPerson, X5_isWithin, X6_in, a64, qb, one0, zero0, if_true, if_false, L0, L1, L2, L4, L5, L6, L9, L10, L15, L16, L60, L99, L999, I0, I1, I6, I9, I16, I60, I99, I999, if_pos c, if_neg cb]
      · unfold f_X6_worth
        simp only [t6, X5_isPerson, X6_isPerson, X5_isWithin, X6_in, a64, qb, one0, zero0, if_true, if_false, L0, L1, L2, L4, L5, L6, L9, L10, L15, L16, L60, L99, L999, I0, I1, I6, I9, I16, I60, I99, I999, if_pos c, if_neg cb]
  · refine ⟨-1, h, h, ?_, ?_, hj⟩
    · unfold f_X5_worth
      simp only [t5, X5_isPerson, X6_isPerson, X5_isWithin, X6_in, a64, qb, one0, zero0, if_true, if_false, L0, L1, L2, L4, L5, L6, L9, L10, L15, L16, L60, L99, L999, I0, I1, I6, I9, I16, I60, I99, I999, if_neg c]
    · unfold f_X6_worth
      simp only [t6, X5_isPerson, X6_isPerson, X5_isWithin, X6_in, a64, qb, one0, zero0, if_true, if_false, L0, L1, L2, L4, L5, L6, L9, L10, L15, L16, L60, L99, L999, I0, I1, I6, I9, I16, I60, I99, I999, if_neg c]
