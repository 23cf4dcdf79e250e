/-! ===== pure 10: swap, wed, thing, suit, part ===== -/
def swH (hd : Nat → Nat) (a b : Nat) : Nat → Nat := fun k => if k = b then hd a else if k = a then hd b else hd k
theorem call_swap {N : Nat} (hN : 12 < N) (a b : Int32) {h : qN} (hj : J h) : OKC (f_X5_swap N a b) (f_X6_swap N a b) h := by
  obtain ⟨⟨hd, fs, sc, ov, T, U, w0, w1⟩, ⟨pu, co, wo, so⟩, wc, wg, rc, rg, rm, r6⟩ := hj.1
  have wf : WF hd fs sc ov T U := wc.1
  have hT : T ≤ 8 := wf.1
  have t5 := X5_isThing (h := h) (T := T) rc.1 hT
  have t6 := X6_isThing (h := h) (T := T) rm.1 hT
  by_cases c : 0 ≤ a.toInt ∧ a.toInt < T
  · by_cases cb : 0 ≤ b.toInt ∧ b.toInt < T
    · obtain ⟨p, hp, rfl, hp2⟩ := ofRange c
      obtain ⟨q, hq, rfl, hq2⟩ := ofRange cb
      have hp3 : p < T := by omega
      have hq3 : q < T := by omega
      have hp6 : hd p ≤ 6 := wf.2.2.1 p hp3
      have hq6 : hd q ≤ 6 := wf.2.2.1 q hq3
      have hcp := nchk2 (j := p) (n := 8) (by omega) (by omega)
      have hcq := nchk2 (j := q) (n := 8) (by omega) (by omega)
      have e4 : h 4 p = nI (hd p) := rc.2.2.2.1 p (by omega)
      have e5 : h 4 q = nI (hd q) := rc.2.2.2.1 q (by omega)
      have f4 : h 64 p = nI (hd p) := rm.2.2.2.1 p (by omega)
      have f5 : h 64 q = nI (hd q) := rm.2.2.2.1 q (by omega)
      have ey : (nI (hd p) = nI (hd q)) = (hd p = hd q) := propext (nI_eq (by omega) (by omega))
      by_cases n1 : hd p = hd q
      · refine ⟨-2, h, h, ?_, ?_, hj⟩
        · unfold f_X5_swap
          simp only [t5, X5_isPerson, X6_isPerson, X5_isWithin, X6_in, a64, qb, one0, zero0, if_true, if_false, L0, L1, L2, L4, L5, L6, L9, L10, L15, L16, L60, L99, L999, I0, I1, I6, I9, I16, I60, I99, I999, if_pos c, if_pos cb, nI_clamp hp2, nI_clamp hq2, if_neg hcp, if_neg hcq, e4, e5, ey, if_pos n1]
        · unfold f_X6_swap
          simp only [t6, X5_isPerson, X6_isPerson, X5_isWithin, X6_in, a64, qb, one0, zero0, if_true, if_false, L0, L1, L2, L4, L5, L6, L9, L10, L15, L16, L60, L99, L999, I0, I1, I6, I9, I16, I60, I99, I999, if_pos c, if_pos cb, nI_clamp hp2, nI_clamp hq2, if_neg hcp, if_neg hcq, f4, f5, ey, if_pos n1]
      · have rc0 : RC 2 hd fs sc ov T U w0 w1 (qup h 1 4 (h 1 4 + 2)) := RC.off rc (P := fun a k => a = 1) (off_up (by simp)) (by omega)
        obtain ⟨h1, a1, b1, c1⟩ := X0_leaveSides wf hp3 hN rc0
        have wf1 := wf.stay w0 hp3
        obtain ⟨h2, a2, b2, c2⟩ := X0_leaveSides wf1 hq3 hN b1
        have wf2 := ((wf1.stay w0 hq3).hand (t := p) hq6).hand (t := q) hp6
        obtain ⟨h3, a3, b3, c3⟩ := X0_settle wf2 hN (RC_hd (j := q) (x := hd p) (RC_hd (j := p) (x := hd q) b2))
        have g1 : h2 4 p = nI (hd p) := b2.2.2.2.1 p (by omega)
        have g2 : h2 4 q = nI (hd q) := b2.2.2.2.1 q (by omega)
        have o1 : Off (PC 2) (qup h 1 4 (h 1 4 + 2)) h3 := Off.tr (Off.up (Off.up (Off.tr c1 c2) (by unfold PC; omega)) (by unfold PC; omega)) c3
        have o5 : Off P5 h h3 := Off.tr (off_up (by unfold P5; omega)) (o1.weaken PC2_5)
        obtain ⟨h4, a4, b4, c4⟩ := X6_stay wf hp3 hN (RM.p5 rm o5)
        obtain ⟨h5, a5, b5, c5⟩ := X6_stay wf1 hq3 hN b4
        have k1 : h5 64 p = nI (hd p) := b5.2.2.2.1 p (by omega)
        have k2 : h5 64 q = nI (hd q) := b5.2.2.2.1 q (by omega)
        have rm0 := RM.off (RM_hd (j := q) (x := hd p) (RM_hd (j := p) (x := hd q) b5)) (P := fun a k => a = 60 ∧ k = 10) (off_up (v := h5 60 10 + 2) (a := 60) (k := 10) (by simp)) (by intro a k x; unfold PM at x; omega)
        obtain ⟨h6, a6, b6, c6⟩ := X6_ends wf2 hN rm0
        have o6 : Off P6 h3 h6 := Off.tr (Off.up (Off.up (Off.up ((Off.tr c4 c5).weaken PM_6) (by unfold P6; omega)) (by unfold P6; omega)) (by unfold P6; omega)) (c6.weaken PM_6)
        have f4' : h3 64 p = nI (hd p) := (RM.p5 rm o5).2.2.2.1 p (by omega)
        have f5' : h3 64 q = nI (hd q) := (RM.p5 rm o5).2.2.2.1 q (by omega)
        have t6' := X6_isThing (h := h3) (T := T) (RM.p5 rm o5).1 hT
        refine ⟨nI (came (fun k => if k = q then hd p else (fun k => if k = p then hd q else hd k) k) (stayF w0 hd ov q U (stayF w0 hd ov p U fs)) (stayF w0 hd ov q U (stayF w0 hd ov p U sc)) w1 ov U), h3, h6, ?_, ?_, ?_⟩
        · unfold f_X5_swap f_X0_exchange
          simp only [t5, X5_isPerson, X6_isPerson, X5_isWithin, X6_in, a64, qb, one0, zero0, if_true, if_false, L0, L1, L2, L4, L5, L6, L9, L10, L15, L16, L60, L99, L999, I0, I1, I6, I9, I16, I60, I99, I999, if_pos c, if_pos cb, nI_clamp hp2, nI_clamp hq2, if_neg hcp, if_neg hcq, e4, e5, ey, if_neg n1, a1, a2, g1, g2]
          rw [a3]
          rfl
        · unfold f_X6_swap
          simp only [t6', X5_isPerson, X6_isPerson, X5_isWithin, X6_in, a64, qb, one0, zero0, if_true, if_false, L0, L1, L2, L4, L5, L6, L9, L10, L15, L16, L60, L99, L999, I0, I1, I6, I9, I16, I60, I99, I999, if_pos c, if_pos cb, nI_clamp hp2, nI_clamp hq2, if_neg hcp, if_neg hcq, f4', f5', ey, if_neg n1, a4, a5, k1, k2]
          rw [show (qup (qup h5 64 p (nI (hd q))) 64 q (nI (hd p))) 60 10 = h5 60 10 from rfl, a6]
          rfl
        · refine J.build hj ⟨wf2.settle w1, SETT.settle _ ((wc.2.eqp.stay w0 (show p < 8 by omega) hp6).stay w0 (show q < 8 by omega) hq6)⟩ (g := (pu, co, wo, so + 2)) wg b3 ?_ b6 ?_ o5 o6
          · have := RG1_so (w := 1) (x := h 1 4 + 2) rg
            rw [show h 1 4 = so from rg.2.2.2] at this o1
            exact this.pc rfl o1
          · have r6' := ((r6.p5 o5).pm c4).pm c5
            have r7 := (RG6.off (RG6.off r6' (P := fun a _ => a = 64) (off_up (v := nI (hd q)) (a := 64) (k := p) rfl) (by omega)) (P := fun a _ => a = 64) (off_up (v := nI (hd p)) (a := 64) (k := q) rfl) (by omega))
            have := RG6_so (x := h5 60 10 + 2) r7
            rw [show h5 60 10 = so from r6'.2.2.2] at this c6
            exact this.pm c6
    · refine ⟨-1, h, h, ?_, ?_, hj⟩
      · unfold f_X5_swap
        simp only [t5, X5_isPerson, X6_isPerson, X5_isWithin, X6_in, a64, qb, one0, zero0, if_true, if_false, L0, L1, L2, L4, L5, L6, L9, L10, L15, L16, L60, L99, L999, I0, I1, I6, I9, I16, I60, I99, I999, if_pos c, if_neg cb]
      · unfold f_X6_swap
        simp only [t6, X5_isPerson, X6_isPerson, X5_isWithin, X6_in, a64, qb, one0, zero0, if_true, if_false, L0, L1, L2, L4, L5, L6, L9, L10, L15, L16, L60, L99, L999, I0, I1, I6, I9, I16, I60, I99, I999, if_pos c, if_neg cb]
  · refine ⟨-1, h, h, ?_, ?_, hj⟩
    · unfold f_X5_swap
      simp only [t5, X5_isPerson, X6_isPerson, X5_isWithin, X6_in, a64, qb, one0, zero0, if_true, if_false, L0, L1, L2, L4, L5, L6, L9, L10, L15, L16, L60, L99, L999, I0, I1, I6, I9, I16, I60, I99, I999, if_neg c]
    · unfold f_X6_swap
      simp only [t6, X5_isPerson, X6_isPerson, X5_isWithin, X6_in, a64, qb, one0, zero0, if_true, if_false, L0, L1, L2, L4, L5, L6, L9, L10, L15, L16, L60, L99, L999, I0, I1, I6, I9, I16, I60, I99, I999, if_neg c]
theorem WF.wed {hd fs sc : Nat → Nat} {ov : Nat → Bool} {T U : Nat} (wf : WF hd fs sc ov T U) {a b : Nat} (ha : a < 6) : WF (wedH hd T a b) (wedS fs U a b) (wedS sc U a b) ov T U := by
  refine ⟨wf.1, wf.2.1, fun k hk => ?_, fun s hs => ?_, wf.2.2.2.2⟩
  · have := wf.2.2.1 k hk
    unfold wedH mapJ rep
    rw [if_pos hk]
    show (if hd k = b then a else hd k) ≤ 6
    split <;> omega
  · obtain ⟨x, y⟩ := wf.2.2.2.1 s hs
    unfold wedS mapJ
    rw [if_pos hs, if_pos hs]
    exact ⟨okS_rep x (Or.inr (by omega)), okS_rep y (Or.inr (by omega))⟩
theorem EQP.wed {fs sc : Nat → Nat} {ov : Nat → Bool} {U : Nat} (q : EQP fs sc ov U) {a b : Nat} (ha : a < 6) : EQP (wedS fs U a b) (wedS sc U a b) ov U := by
  intro s hs ho he
  simp only [wedS, mapJ, if_pos hs, rep] at he ⊢
  by_cases c1 : fs s = 10 + b
  · rw [if_pos c1]; exact ⟨a, ha, rfl⟩
  · rw [if_neg c1] at he ⊢
    by_cases c2 : sc s = 10 + b
    · rw [if_pos c2] at he; exact ⟨a, ha, he⟩
    · rw [if_neg c2] at he; exact q s hs ho he
def wdC (c : Ct) (a b : Nat) : Ct := (wedH c.1 c.2.2.2.2.1 a b, wedS c.2.1 c.2.2.2.2.2.1 a b, wedS c.2.2.1 c.2.2.2.2.2.1 a b,
  setO (wedH c.1 c.2.2.2.2.1 a b) (wedS c.2.1 c.2.2.2.2.2.1 a b) (wedS c.2.2.1 c.2.2.2.2.2.1 a b) c.2.2.2.2.2.2.2 c.2.2.2.1 c.2.2.2.2.2.1, c.2.2.2.2.1, c.2.2.2.2.2.1, c.2.2.2.2.2.2.1, c.2.2.2.2.2.2.2)
def cwC (c : Ct) (a b : Nat) : Nat := came (wedH c.1 c.2.2.2.2.1 a b) (wedS c.2.1 c.2.2.2.2.2.1 a b) (wedS c.2.2.1 c.2.2.2.2.2.1 a b) c.2.2.2.2.2.2.2 c.2.2.2.1 c.2.2.2.2.2.1
theorem WCt.wd {c : Ct} (wc : WCt c) {a b : Nat} (ha : a < 6) : WCt (wdC c a b) := by
  obtain ⟨hd, fs, sc, ov, T, U, w0, w1⟩ := c
  have wf : WF hd fs sc ov T U := wc.1
  exact ⟨(wf.wed ha).settle w1, SETT.settle _ (wc.2.eqp.wed ha)⟩
theorem X0_marryC {N o : Nat} {c : Ct} {h : qN} (wc : WCt c) {a b : Nat} (ha : a < 6) (hb : b < 6) (hN : 12 < N) (hr : RCt o c h) :
    ∃ h1, f_X0_marry N o (nI a) (nI b) h = some (nI (cwC c a b), h1) ∧ RCt o (wdC c a b) h1 ∧ Off (PC o) h h1 := by
  obtain ⟨hd, fs, sc, ov, T, U, w0, w1⟩ := c
  exact X0_marry (o := o) (h := h) wc.1 ha hb hN hr
theorem X6_wedsC {N : Nat} {c : Ct} {h : qN} (wc : WCt c) {a b : Nat} (ha : a < 6) (hb : b < 6) (hN : 12 < N) (hr : RMt c h) :
    ∃ h1, f_X6_weds N (nI a) (nI b) h = some (nI (cwC c a b), h1) ∧ RMt (wdC c a b) h1 ∧ Off PM h h1 := by
  obtain ⟨hd, fs, sc, ov, T, U, w0, w1⟩ := c
  exact X6_weds (h := h) wc.1 ha hb hN hr
theorem call_wed {N : Nat} (hN : 12 < N) (a b : Int32) {h : qN} (hj : J h) : OKC (f_X5_wed N a b) (f_X6_wed N a b) h := by
  obtain ⟨⟨hd, fs, sc, ov, T, U, w0, w1⟩, ⟨pu, co, wo, so⟩, wc, wg, rc, rg, rm, r6⟩ := hj.1
  by_cases c : 0 ≤ a.toInt ∧ a.toInt < 6
  · by_cases cb : 0 ≤ b.toInt ∧ b.toInt < 6
    · obtain ⟨p, hp, rfl, hp2⟩ := ofRange c
      obtain ⟨q, hq, rfl, hq2⟩ := ofRange cb
      have hp3 : p < 6 := by omega
      have hq3 : q < 6 := by omega
      have hcp := nchk2 (j := p) (n := 6) (by omega) (by omega)
      have hcq := nchk2 (j := q) (n := 6) (by omega) (by omega)
      have e4 : h 7 p = nI (pu p) := rg.1 p (by omega)
      have e5 : h 7 q = nI (pu q) := rg.1 q (by omega)
      have f4 : h 61 p = nI (pu p) := r6.1 p (by omega)
      have f5 : h 61 q = nI (pu q) := r6.1 q (by omega)
      have up : pu p ≤ 9999 := wg.1 p hp3
      have uq : pu q ≤ 9999 := wg.1 q hq3
      have ey : (nI p = nI q) = (p = q) := propext (nI_eq (by omega) (by omega))
      by_cases n1 : p = q
      · refine ⟨-1, h, h, ?_, ?_, hj⟩
        · unfold f_X5_wed
          simp only [X5_isPerson, X6_isPerson, X5_isWithin, X6_in, a64, qb, one0, zero0, if_true, if_false, L0, L1, L2, L4, L5, L6, L9, L10, L15, L16, L60, L99, L999, I0, I1, I6, I9, I16, I60, I99, I999, if_pos c, if_pos cb, ey, if_pos n1]
        · unfold f_X6_wed
          simp only [X5_isPerson, X6_isPerson, X5_isWithin, X6_in, a64, qb, one0, zero0, if_true, if_false, L0, L1, L2, L4, L5, L6, L9, L10, L15, L16, L60, L99, L999, I0, I1, I6, I9, I16, I60, I99, I999, if_pos c, if_pos cb, ey, if_pos n1]
      · have r1 := RG1_pu (w := 1) (j := q) (x := 0) (RG1_pu (w := 1) (j := p) (x := min (pu p + pu q) 9999) rg)
        have o0 : Off (fun a _ => a = 7) h (qup (qup h 7 p (nI (min (pu p + pu q) 9999))) 7 q (nI 0)) := Off.up (off_up rfl) rfl
        obtain ⟨h1, a1, b1, c1⟩ := X0_marryC wc hp3 hq3 hN (RC.off rc o0 (by omega))
        have o5 : Off P5 h h1 := Off.tr (o0.weaken (by intro a k x; unfold P5; omega)) (c1.weaken PC2_5)
        have r6' := r6.p5 o5
        have f4' : h1 61 p = nI (pu p) := r6'.1 p (by omega)
        have f5' : h1 61 q = nI (pu q) := r6'.1 q (by omega)
        have r2 := RG6_pu (j := q) (x := 0) (RG6_pu (j := p) (x := min (pu p + pu q) 9999) r6')
        have o1 : Off (fun a _ => a = 61) h1 (qup (qup h1 61 p (nI (min (pu p + pu q) 9999))) 61 q (nI 0)) := Off.up (off_up rfl) rfl
        obtain ⟨h2, a2, b2, c2⟩ := X6_wedsC wc hp3 hq3 hN (RM.off (RM.p5 rm o5) o1 (by intro a k x; unfold PM at x; omega))
        have o6 : Off P6 h1 h2 := Off.tr (o1.weaken (by intro a k x; unfold P6; omega)) (c2.weaken PM_6)
        refine ⟨nI (cwC (hd, fs, sc, ov, T, U, w0, w1) p q), h1, h2, ?_, ?_, hj.bld (wc.wd hp3) (g := (fun k => if k = q then 0 else if k = p then min (pu p + pu q) 9999 else pu k, co, wo, so)) ⟨fun k hk => ?_, wg.2⟩ b1 (r1.pc rfl c1) b2 (r2.pm c2) o5 o6⟩
        · unfold f_X5_wed
          simp only [X5_isPerson, X6_isPerson, X5_isWithin, X6_in, a64, qb, one0, zero0, if_true, if_false, L0, L1, L2, L4, L5, L6, L9, L10, L15, L16, L60, L99, L999, I0, I1, I6, I9, I16, I60, I99, I999, if_pos c, if_pos cb, ey, if_neg n1, nI_clamp hp2, nI_clamp hq2, if_neg hcp, if_neg hcq, e4, e5, nI_add, mn1 (show pu p + pu q < 100000 by omega)]
          rw [show (0 : Int32) = nI 0 from rfl, a1]
          rfl
        · have ec : f_X6_comesTo (nI p) (nI (pu q)) h1 = some (qup h1 61 p (nI (min (pu p + pu q) 9999))) := by
            have en : (nI p = (6 : Int32)) = False := eq_false (by rw [k6, nI_eq (by omega) (by omega)]; omega)
            unfold f_X6_comesTo
            simp only [en, nI_clamp hp2, if_neg hcp, f4', if_false, nI_add, k9999, nI_leI (show pu p + pu q < 2 ^ 31 by omega) (show 9999 < 2 ^ 31 by omega)]
            by_cases c9 : pu p + pu q ≤ 9999
            · rw [if_pos c9, Nat.min_eq_left c9]
            · rw [if_neg c9, Nat.min_eq_right (by omega)]
          unfold f_X6_wed
          simp only [X5_isPerson, X6_isPerson, X5_isWithin, X6_in, a64, qb, one0, zero0, if_true, if_false, L0, L1, L2, L4, L5, L6, L9, L10, L15, L16, L60, L99, L999, I0, I1, I6, I9, I16, I60, I99, I999, if_pos c, if_pos cb, ey, if_neg n1, nI_clamp hq2, if_neg hcq, f5', ec]
          rw [show (0 : Int32) = nI 0 from rfl, a2]
          rfl
        · have := wg.1 k hk
          dsimp only
          split
          · omega
          · split <;> omega
    · refine ⟨-1, h, h, ?_, ?_, hj⟩
      · unfold f_X5_wed
        simp only [X5_isPerson, X6_isPerson, X5_isWithin, X6_in, a64, qb, one0, zero0, if_true, if_false, L0, L1, L2, L4, L5, L6, L9, L10, L15, L16, L60, L99, L999, I0, I1, I6, I9, I16, I60, I99, I999, if_pos c, if_neg cb]
      · unfold f_X6_wed
        simp only [X5_isPerson, X6_isPerson, X5_isWithin, X6_in, a64, qb, one0, zero0, if_true, if_false, L0, L1, L2, L4, L5, L6, L9, L10, L15, L16, L60, L99, L999, I0, I1, I6, I9, I16, I60, I99, I999, if_pos c, if_neg cb]
  · refine ⟨-1, h, h, ?_, ?_, hj⟩
    · unfold f_X5_wed
      simp only [X5_isPerson, X6_isPerson, X5_isWithin, X6_in, a64, qb, one0, zero0, if_true, if_false, L0, L1, L2, L4, L5, L6, L9, L10, L15, L16, L60, L99, L999, I0, I1, I6, I9, I16, I60, I99, I999, if_neg c]
    · unfold f_X6_wed
      simp only [X5_isPerson, X6_isPerson, X5_isWithin, X6_in, a64, qb, one0, zero0, if_true, if_false, L0, L1, L2, L4, L5, L6, L9, L10, L15, L16, L60, L99, L999, I0, I1, I6, I9, I16, I60, I99, I999, if_neg c]
