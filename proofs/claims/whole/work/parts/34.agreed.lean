/-! ===== pure 14: against, pays, agreed, rest ===== -/
theorem call_against {N : Nat} (hN : 12 < N) (a b x : Int32) {h : qN} (hj : J h) : OKC (f_X5_against N a b x) (f_X6_against N a b x) h := by
  obtain ⟨⟨hd, fs, sc, ov, T, U, w0, w1⟩, ⟨pu, co, wo, so⟩, wc, wg, rc, rg, rm, r6⟩ := hj.1
  have wf : WF hd fs sc ov T U := wc.1
  have hT : T ≤ 8 := wf.1
  have t5 := X5_isThing (h := h) (T := T) rc.1 hT a
  have t6 := X6_isThing (h := h) (T := T) rm.1 hT a
  by_cases c : 0 ≤ a.toInt ∧ a.toInt < T
  · by_cases cb : 0 ≤ b.toInt ∧ b.toInt < 6
    · by_cases cx : 0 ≤ x.toInt ∧ x.toInt < 6
      · obtain ⟨t, ht, rfl, ht2⟩ := ofRange c
        obtain ⟨y, hy, rfl, hy2⟩ := ofRange cb
        obtain ⟨p, hp, rfl, hp2⟩ := ofRange cx
        have ht3 : t < T := by omega
        have h6 : hd t ≤ 6 := wf.2.2.1 t ht3
        have ct : (nI t).toNatClampNeg = t := nI_clamp (by omega)
        have hct := nchk2 (j := t) (n := 8) (by omega) (by omega)
        have e4 : h 4 t = nI (hd t) := rc.2.2.2.1 t (by omega)
        have f4 : h 64 t = nI (hd t) := rm.2.2.2.1 t (by omega)
        have ey : (nI (hd t) = nI y) = (hd t = y) := propext (nI_eq (by omega) (by omega))
        have ep : (nI p = nI (hd t)) = (p = hd t) := propext (nI_eq (by omega) (by omega))
        have eq : (nI p = nI y) = (p = y) := propext (nI_eq (by omega) (by omega))
        by_cases n2 : p = hd t
        · refine ⟨-100001, h, h, ?_, ?_, hj⟩
          · unfold f_X5_against
            simp only [t5, X5_isPerson, X6_isPerson, X5_isWithin, X6_in, a64, qb, one0, zero0, if_true, if_false, L0, L1, L2, L4, L5, L6, L9, L10, L15, L16, L60, L99, L999, I0, I1, I6, I9, I16, I60, I99, I999, if_pos c, if_pos cb, if_pos cx, ct, if_neg hct, e4, ep, if_pos n2]
          · unfold f_X6_against
            simp only [t6, X5_isPerson, X6_isPerson, X5_isWithin, X6_in, a64, qb, one0, zero0, if_true, if_false, L0, L1, L2, L4, L5, L6, L9, L10, L15, L16, L60, L99, L999, I0, I1, I6, I9, I16, I60, I99, I999, if_pos c, if_pos cb, if_pos cx, ct, if_neg hct, f4, ep, eq, if_pos n2]
            split <;> rfl
        · by_cases n3 : p = y
          · refine ⟨-100001, h, h, ?_, ?_, hj⟩
            · unfold f_X5_against
              simp only [t5, X5_isPerson, X6_isPerson, X5_isWithin, X6_in, a64, qb, one0, zero0, if_true, if_false, L0, L1, L2, L4, L5, L6, L9, L10, L15, L16, L60, L99, L999, I0, I1, I6, I9, I16, I60, I99, I999, if_pos c, if_pos cb, if_pos cx, ct, if_neg hct, e4, ep, eq, if_neg n2, if_pos n3]
            · unfold f_X6_against
              simp only [t6, X5_isPerson, X6_isPerson, X5_isWithin, X6_in, a64, qb, one0, zero0, if_true, if_false, L0, L1, L2, L4, L5, L6, L9, L10, L15, L16, L60, L99, L999, I0, I1, I6, I9, I16, I60, I99, I999, if_pos c, if_pos cb, if_pos cx, eq, if_pos n3]
          · by_cases n1 : hd t = y
            · refine ⟨-100002, h, h, ?_, ?_, hj⟩
              · unfold f_X5_against
                simp only [t5, X5_isPerson, X6_isPerson, X5_isWithin, X6_in, a64, qb, one0, zero0, if_true, if_false, L0, L1, L2, L4, L5, L6, L9, L10, L15, L16, L60, L99, L999, I0, I1, I6, I9, I16, I60, I99, I999, if_pos c, if_pos cb, if_pos cx, ct, if_neg hct, e4, ep, eq, ey, if_neg n2, if_neg n3, if_pos n1]
              · unfold f_X6_against
                simp only [t6, X5_isPerson, X6_isPerson, X5_isWithin, X6_in, a64, qb, one0, zero0, if_true, if_false, L0, L1, L2, L4, L5, L6, L9, L10, L15, L16, L60, L99, L999, I0, I1, I6, I9, I16, I60, I99, I999, if_pos c, if_pos cb, if_pos cx, ct, if_neg hct, f4, ep, eq, ey, if_neg n2, if_neg n3, if_pos n1]
            · obtain ⟨h1, a1, b1, c1⟩ := X5_trySale (y := y) wc ht3 (by omega) hN rc
              have o5 := c1.weaken PC19_5
              have rm5 : RMt (hd, fs, sc, ov, T, U, w0, w1) h1 := RM.p5 rm o5
              have f4' : h1 64 t = nI (hd t) := rm5.2.2.2.1 t (by omega)
              have t6' := X6_isThing (h := h1) (T := T) rm5.1 hT (nI t)
              obtain ⟨h2, a2, b2, c2, d2⟩ := X6_gainOf (t := t) (y := y) (p := p) wc ht3 (by omega) (by omega) hN rm5 (r6.p5 o5)
              refine ⟨-(zI (gnC (hd, fs, sc, ov, T, U, w0, w1) (pu, co, wo, so) t y p)), h1, h2, ?_, ?_, hj.bld wc wg (rc.p19 c1) (rg.p19 c1) b2 c2 o5 d2⟩
              · unfold f_X5_against
                simp only [t5, X5_isPerson, X6_isPerson, X5_isWithin, X6_in, a64, qb, one0, zero0, if_true, if_false, L0, L1, L2, L4, L5, L6, L9, L10, L15, L16, L60, L99, L999, I0, I1, I6, I9, I16, I60, I99, I999, if_pos c, if_pos cb, if_pos cx, ct, if_neg hct, e4, ep, eq, ey, if_neg n2, if_neg n3, if_neg n1, a1, X5_gainOf wc ht3 (show y ≤ 6 by omega) (show p ≤ 6 by omega) hN (rc.p19 c1) b1 (rg.p19 c1)]
              · unfold f_X6_against
                simp only [t6', X5_isPerson, X6_isPerson, X5_isWithin, X6_in, a64, qb, one0, zero0, if_true, if_false, L0, L1, L2, L4, L5, L6, L9, L10, L15, L16, L60, L99, L999, I0, I1, I6, I9, I16, I60, I99, I999, if_pos c, if_pos cb, if_pos cx, ct, if_neg hct, f4', ep, eq, ey, if_neg n2, if_neg n3, if_neg n1, a2]
      · refine ⟨-100001, h, h, ?_, ?_, hj⟩
        · unfold f_X5_against
          simp only [t5, X5_isPerson, X6_isPerson, X5_isWithin, X6_in, a64, qb, one0, zero0, if_true, if_false, L0, L1, L2, L4, L5, L6, L9, L10, L15, L16, L60, L99, L999, I0, I1, I6, I9, I16, I60, I99, I999, if_pos c, if_pos cb, if_neg cx]
        · unfold f_X6_against
          simp only [t6, X5_isPerson, X6_isPerson, X5_isWithin, X6_in, a64, qb, one0, zero0, if_true, if_false, L0, L1, L2, L4, L5, L6, L9, L10, L15, L16, L60, L99, L999, I0, I1, I6, I9, I16, I60, I99, I999, if_pos c, if_pos cb, if_neg cx]
    · refine ⟨-100001, h, h, ?_, ?_, hj⟩
      · unfold f_X5_against
        simp only [t5, X5_isPerson, X6_isPerson, X5_isWithin, X6_in, a64, qb, one0, zero0, if_true, if_false, L0, L1, L2, L4, L5, L6, L9, L10, L15, L16, L60, L99, L999, I0, I1, I6, I9, I16, I60, I99, I999, if_pos c, if_neg cb]
      · unfold f_X6_against
        simp only [t6, X5_isPerson, X6_isPerson, X5_isWithin, X6_in, a64, qb, one0, zero0, if_true, if_false, L0, L1, L2, L4, L5, L6, L9, L10, L15, L16, L60, L99, L999, I0, I1, I6, I9, I16, I60, I99, I999, if_pos c, if_neg cb]
  · refine ⟨-100001, h, h, ?_, ?_, hj⟩
    · unfold f_X5_against
      simp only [t5, X5_isPerson, X6_isPerson, X5_isWithin, X6_in, a64, qb, one0, zero0, if_true, if_false, L0, L1, L2, L4, L5, L6, L9, L10, L15, L16, L60, L99, L999, I0, I1, I6, I9, I16, I60, I99, I999, if_neg c]
    · unfold f_X6_against
      simp only [t6, X5_isPerson, X6_isPerson, X5_isWithin, X6_in, a64, qb, one0, zero0, if_true, if_false, L0, L1, L2, L4, L5, L6, L9, L10, L15, L16, L60, L99, L999, I0, I1, I6, I9, I16, I60, I99, I999, if_neg c]
def skC (c : Ct) (p : Nat) : Nat := cnt (stF c.1 c.2.1 c.2.2.1 c.2.2.2.1 p) 0 c.2.2.2.2.2.1
theorem X0_stoodC {N o : Nat} {c : Ct} {h : qN} (wc : WCt c) {p : Nat} (hp : p < 6) (hN : 12 < N) (hr : RCt o c h) : f_X0_countStood N o (nI p) h = some (nI (skC c p), h) := by
  obtain ⟨hd, fs, sc, ov, T, U, w0, w1⟩ := c
  exact X0_countStood (w0 := w0) (w1 := w1) wc.1 hp hN hr
theorem X6_stoodC {N : Nat} {c : Ct} {h : qN} (wc : WCt c) {p : Nat} (hp : p < 6) (hN : 12 < N) (hr : RMt c h) : f_X6_standsIn N (nI p) h = some (nI (skC c p), h) := by
  obtain ⟨hd, fs, sc, ov, T, U, w0, w1⟩ := c
  exact X6_standsIn (w0 := w0) (w1 := w1) wc.1 hp hN hr
theorem call_pays {N : Nat} (hN : 12 < N) (a b x z u : Int32) {h : qN} (hj : J h) : OKC (f_X5_pays N a b x z u) (f_X6_pays N a b x z u) h := by
  obtain ⟨⟨hd, fs, sc, ov, T, U, w0, w1⟩, ⟨pu, co, wo, so⟩, wc, wg, rc, rg, rm, r6⟩ := hj.1
  have wf : WF hd fs sc ov T U := wc.1
  have hT : T ≤ 8 := wf.1
  have t5 := X5_isThing (h := h) (T := T) rc.1 hT a
  have t6 := X6_isThing (h := h) (T := T) rm.1 hT a
  by_cases c : 0 ≤ a.toInt ∧ a.toInt < T
  · by_cases cb : 0 ≤ b.toInt ∧ b.toInt < 6
    · by_cases cx : 0 ≤ x.toInt ∧ x.toInt ≤ 999
      · by_cases cz : 1 ≤ z.toInt ∧ z.toInt ≤ 9
        · have z1 : ¬ z < 1 := by rw [i_lt, I1]; omega
          have z9 : ¬ (9 : Int32) < z := by rw [i_lt, I9]; omega
          by_cases cu : 0 ≤ u.toInt ∧ u.toInt ≤ 16
          · obtain ⟨t, ht, rfl, ht2⟩ := ofRange c
            obtain ⟨y, hy, rfl, hy2⟩ := ofRange cb
            have ht3 : t < T := by omega
            have h6 : hd t ≤ 6 := wf.2.2.1 t ht3
            have ct : (nI t).toNatClampNeg = t := nI_clamp (by omega)
            have cy : (nI y).toNatClampNeg = y := nI_clamp (by omega)
            have hct := nchk2 (j := t) (n := 8) (by omega) (by omega)
            have hcy := nchk2 (j := y) (n := 6) (by omega) (by omega)
            have i1 : nI t * (6 : Int32) + nI y = nI (t * 6 + y) := by rw [k6, pk_mul, nI_add]
            have i2 : (6 : Int32) * nI t + nI y = nI (t * 6 + y) := by rw [k6, pk_mul, nI_add, Nat.mul_comm]
            have hcw := nchk2 (j := t * 6 + y) (n := 48) (by omega) (by omega)
            have cw : (nI (t * 6 + y)).toNatClampNeg = t * 6 + y := nI_clamp (by omega)
            have e4 : h 4 t = nI (hd t) := rc.2.2.2.1 t (by omega)
            have f4 : h 64 t = nI (hd t) := rm.2.2.2.1 t (by omega)
            have ey : (nI (hd t) = nI y) = (hd t = y) := propext (nI_eq (by omega) (by omega))
            by_cases n1 : hd t = y
            · refine ⟨-100002, h, h, ?_, ?_, hj⟩
              · unfold f_X5_pays
                simp only [t5, X5_isPerson, X6_isPerson, X5_isWithin, X6_in, a64, qb, one0, zero0, if_true, if_false, L0, L1, L2, L4, L5, L6, L9, L10, L15, L16, L60, L99, L999, I0, I1, I6, I9, I16, I60, I99, I999, if_pos c, if_pos cb, if_pos cx, if_neg z1, if_neg z9, if_pos cu, ct, if_neg hct, e4, ey, if_pos n1]
              · unfold f_X6_pays
                simp only [t6, X5_isPerson, X6_isPerson, X5_isWithin, X6_in, a64, qb, one0, zero0, if_true, if_false, L0, L1, L2, L4, L5, L6, L9, L10, L15, L16, L60, L99, L999, I0, I1, I6, I9, I16, I60, I99, I999, if_pos c, if_pos cb, if_pos cx, if_pos cz, if_pos cu, ct, if_neg hct, f4, ey, if_pos n1]
            · obtain ⟨h1, a1, b1, c1⟩ := X5_trySale (y := y) wc ht3 (by omega) hN rc
              have o5 := c1.weaken PC19_5
              have rc1 := rc.p19 c1
              have rg1 := rg.p19 c1
              have rm5 : RMt (hd, fs, sc, ov, T, U, w0, w1) h1 := RM.p5 rm o5
              have r65 := r6.p5 o5
              have f4' : h1 64 t = nI (hd t) := rm5.2.2.2.1 t (by omega)
              have t6' := X6_isThing (h := h1) (T := T) rm5.1 hT (nI t)
              obtain ⟨h2, a2, b2, c2⟩ := X6_keeps hN rm5
              obtain ⟨h3, a3, b3, c3⟩ := X6_sellsC (y := y) wc ht3 (by omega) hN (RM.pk rm5 c2)
              obtain ⟨h4, a4, b4, c4⟩ := X6_back hN (b2.pm c3) b3 rfl
              have r64 := ((r65.pk c2).pm c3).pm c4
              have g1 : h1 9 (t * 6 + y) = nI (wo (t * 6 + y)) := rg1.2.2.1 _ (by omega)
              have g2 : h1 8 y = nI (co y) := rg1.2.1 y (by omega)
              have g3 : h4 65 (t * 6 + y) = nI (wo (t * 6 + y)) := r64.2.2.1 _ (by omega)
              have g4 : h4 62 y = nI (co y) := r64.2.1 y (by omega)
              have wc' : WCt (mvC (hd, fs, sc, ov, T, U, w0, w1) t y) := wc.mv ht3 (by omega)
              refine ⟨((16 : Int32) * (nI (wo (t * 6 + y)) - x) - (16 : Int32) * (z * nI (co y)) * (nI (skC (mvC (hd, fs, sc, ov, T, U, w0, w1) t y) y) - nI (skC (hd, fs, sc, ov, T, U, w0, w1) y))) - u * (z * nI (co y)), h1, h4, ?_, ?_, hj.bld wc wg rc1 rg1 b4 r64 o5 (((c2.weaken PK_6).tr (c3.weaken PM_6)).tr (c4.weaken PM_6))⟩
              · unfold f_X5_pays
                simp only [t5, X5_isPerson, X6_isPerson, X5_isWithin, X6_in, a64, qb, one0, zero0, if_true, if_false, L0, L1, L2, L4, L5, L6, L9, L10, L15, L16, L60, L99, L999, I0, I1, I6, I9, I16, I60, I99, I999, if_pos c, if_pos cb, if_pos cx, if_neg z1, if_neg z9, if_pos cu, ct, cy, if_neg hct, if_neg hcy, e4, ey, if_neg n1, a1, X0_stoodC wc' (show y < 6 by omega) hN b1, X0_stoodC wc (show y < 6 by omega) hN rc1, i1, if_neg hcw, cw, g1, g2]
              · unfold f_X6_pays
                simp only [t6', X5_isPerson, X6_isPerson, X5_isWithin, X6_in, a64, qb, one0, zero0, if_true, if_false, L0, L1, L2, L4, L5, L6, L9, L10, L15, L16, L60, L99, L999, I0, I1, I6, I9, I16, I60, I99, I999, if_pos c, if_pos cb, if_pos cx, if_pos cz, if_pos cu, ct, cy, if_neg hct, if_neg hcy, f4', ey, if_neg n1, X6_stoodC wc (show y < 6 by omega) hN rm5, a2, a3, X6_stoodC wc' (show y < 6 by omega) hN b3, a4, i2, if_neg hcw, cw, g3, g4, Int32.mul_assoc]
          · refine ⟨-100001, h, h, ?_, ?_, hj⟩
            · unfold f_X5_pays
              simp only [t5, X5_isPerson, X6_isPerson, X5_isWithin, X6_in, a64, qb, one0, zero0, if_true, if_false, L0, L1, L2, L4, L5, L6, L9, L10, L15, L16, L60, L99, L999, I0, I1, I6, I9, I16, I60, I99, I999, if_pos c, if_pos cb, if_pos cx, if_neg z1, if_neg z9, if_neg cu]
            · unfold f_X6_pays
              simp only [t6, X5_isPerson, X6_isPerson, X5_isWithin, X6_in, a64, qb, one0, zero0, if_true, if_false, L0, L1, L2, L4, L5, L6, L9, L10, L15, L16, L60, L99, L999, I0, I1, I6, I9, I16, I60, I99, I999, if_pos c, if_pos cb, if_pos cx, if_pos cz, if_neg cu]
        · refine ⟨-100001, h, h, ?_, ?_, hj⟩
          · unfold f_X5_pays
            simp only [t5, X5_isPerson, X6_isPerson, X5_isWithin, X6_in, a64, qb, one0, zero0, if_true, if_false, L0, L1, L2, L4, L5, L6, L9, L10, L15, L16, L60, L99, L999, I0, I1, I6, I9, I16, I60, I99, I999, if_pos c, if_pos cb, if_pos cx, i_lt]
            by_cases s : z.toInt < 1
            · rw [if_pos s]
            · rw [if_neg s, if_pos (by omega)]
          · unfold f_X6_pays
            simp only [t6, X5_isPerson, X6_isPerson, X5_isWithin, X6_in, a64, qb, one0, zero0, if_true, if_false, L0, L1, L2, L4, L5, L6, L9, L10, L15, L16, L60, L99, L999, I0, I1, I6, I9, I16, I60, I99, I999, if_pos c, if_pos cb, if_pos cx, if_neg cz]
      · refine ⟨-100001, h, h, ?_, ?_, hj⟩
        · unfold f_X5_pays
          simp only [t5, X5_isPerson, X6_isPerson, X5_isWithin, X6_in, a64, qb, one0, zero0, if_true, if_false, L0, L1, L2, L4, L5, L6, L9, L10, L15, L16, L60, L99, L999, I0, I1, I6, I9, I16, I60, I99, I999, if_pos c, if_pos cb, if_neg cx]
        · unfold f_X6_pays
          simp only [t6, X5_isPerson, X6_isPerson, X5_isWithin, X6_in, a64, qb, one0, zero0, if_true, if_false, L0, L1, L2, L4, L5, L6, L9, L10, L15, L16, L60, L99, L999, I0, I1, I6, I9, I16, I60, I99, I999, if_pos c, if_pos cb, if_neg cx]
    · refine ⟨-100001, h, h, ?_, ?_, hj⟩
      · unfold f_X5_pays
        simp only [t5, X5_isPerson, X6_isPerson, X5_isWithin, X6_in, a64, qb, one0, zero0, if_true, if_false, L0, L1, L2, L4, L5, L6, L9, L10, L15, L16, L60, L99, L999, I0, I1, I6, I9, I16, I60, I99, I999, if_pos c, if_neg cb]
      · unfold f_X6_pays
        simp only [t6, X5_isPerson, X6_isPerson, X5_isWithin, X6_in, a64, qb, one0, zero0, if_true, if_false, L0, L1, L2, L4, L5, L6, L9, L10, L15, L16, L60, L99, L999, I0, I1, I6, I9, I16, I60, I99, I999, if_pos c, if_neg cb]
  · refine ⟨-100001, h, h, ?_, ?_, hj⟩
    · unfold f_X5_pays
      simp only [t5, X5_isPerson, X6_isPerson, X5_isWithin, X6_in, a64, qb, one0, zero0, if_true, if_false, L0, L1, L2, L4, L5, L6, L9, L10, L15, L16, L60, L99, L999, I0, I1, I6, I9, I16, I60, I99, I999, if_neg c]
    · unfold f_X6_pays
      simp only [t6, X5_isPerson, X6_isPerson, X5_isWithin, X6_in, a64, qb, one0, zero0, if_true, if_false, L0, L1, L2, L4, L5, L6, L9, L10, L15, L16, L60, L99, L999, I0, I1, I6, I9, I16, I60, I99, I999, if_neg c]
/-! bounds of gains -/
theorem cnt_mono {f g : Nat → Bool} (hfg : ∀ s, f s = true → g s = true) : ∀ (k j : Nat), cnt f j k ≤ cnt g j k := by
  intro k
  induction k with
  | zero => intro j; exact Nat.le_refl _
  | succ k ih =>
    intro j
    have := ih (j + 1)
    have h1 : (f j).toNat ≤ (g j).toNat := by
      cases hf : f j with
      | false => simp
      | true => rw [hfg j hf]; exact Nat.le_refl _
    simp only [cnt]
    omega
theorem vT_le {hd wo : Nat → Nat} {p : Nat} (hw : ∀ k, k < 48 → wo k ≤ 99) (hp : p < 6) : ∀ k, k ≤ 8 → 0 ≤ vT hd wo p k ∧ vT hd wo p k ≤ 99 * k := by
  intro k
  induction k with
  | zero => intro _; simp [vT]
  | succ k ih =>
    intro hk
    have := ih (by omega)
    have h9 := hw (k * 6 + p) (by omega)
    simp only [vT]
    split <;> omega
theorem vaC_le {c : Ct} {g : Gt} (wc : WCt c) (wg : WGt g) {p : Nat} (hp : p < 6) : -1188 ≤ vaC c g p ∧ vaC c g p ≤ 792 := by
  obtain ⟨hd, fs, sc, ov, T, U, w0, w1⟩ := c
  obtain ⟨pu, co, wo, so⟩ := g
  have wf : WF hd fs sc ov T U := wc.1
  have h1 := vT_le (hd := hd) (wo := wo) (p := p) wg.2.2 hp T wf.1
  have h2 : cnt (stF hd fs sc ov p) 0 U ≤ 12 := Nat.le_trans (cnt_le _ _ _) wf.2.1
  have h3 : co p ≤ 99 := wg.2.1 p hp
  have h4 : co p * cnt (stF hd fs sc ov p) 0 U ≤ 99 * 12 := Nat.mul_le_mul h3 h2
  have h5 : T ≤ 8 := wf.1
  show -1188 ≤ vT hd wo p T - (co p : Int) * (cnt (stF hd fs sc ov p) 0 U : Nat) ∧ vT hd wo p T - (co p : Int) * (cnt (stF hd fs sc ov p) 0 U : Nat) ≤ 792
  have h6 : ((co p * cnt (stF hd fs sc ov p) 0 U : Nat) : Int) = (co p : Int) * (cnt (stF hd fs sc ov p) 0 U : Nat) := by push_cast; rfl
  omega
theorem gnC_le {c : Ct} {g : Gt} (wc : WCt c) (wg : WGt g) {t y p : Nat} (ht : t < c.2.2.2.2.1) (hy : y ≤ 6) (hp : p ≤ 6) : -1980 ≤ gnC c g t y p ∧ gnC c g t y p ≤ 1980 := by
  unfold gnC
  by_cases e : p = 6
  · rw [if_pos e]; omega
  · rw [if_neg e]
    have h1 := vaC_le (p := p) wc wg (by omega)
    have h2 := vaC_le (p := p) (wc.mv ht hy) wg (by omega)
    omega
theorem vT_mv {hd wo : Nat → Nat} {t y : Nat} (hne : hd t ≠ y) : ∀ k, vT hd wo (hd t) k = vT (hdU hd t y) wo (hd t) k + (if t < k then (wo (t * 6 + hd t) : Int) else 0) := by
  intro k
  induction k with
  | zero => simp [vT]
  | succ k ih =>
    simp only [vT]
    by_cases e : k = t
    · subst e
      have h1 : hdU hd k y k = y := by simp [hdU]
      rw [ih, h1, if_pos rfl, if_neg (show ¬ y = hd k from fun z => hne z.symm), if_neg (by omega), if_pos (by omega)]
    · have h1 : hdU hd t y k = hd k := by simp [hdU, e]
      rw [ih, h1]
      by_cases c : t < k
      · rw [if_pos c, if_pos (show t < k + 1 by omega)]; omega
      · rw [if_neg c, if_neg (show ¬ t < k + 1 by omega)]; omega
theorem stF_mv {hd fs sc : Nat → Nat} {ov : Nat → Bool} {U t y : Nat} {w0 w1 : Bool} (hT : t < 8) (h6 : hd t < 6) (hne : hd t ≠ y) (s : Nat) :
    stF (hdU hd t y) (stayF w0 hd ov t U fs) (stayF w0 hd ov t U sc) (setO (hdU hd t y) (stayF w0 hd ov t U fs) (stayF w0 hd ov t U sc) w1 ov U) (hd t) s = true → stF hd fs sc ov (hd t) s = true := by
  have side : ∀ f : Nat → Nat, ov s = false → stN (hdU hd t y) (stayF w0 hd ov t U f s) = hd t → stN hd (f s) = hd t := by
    intro f ho h
    by_cases ef : f s = t
    · rw [ef]; unfold stN; rw [if_pos (by omega)]
    · have e : stayF w0 hd ov t U f s = f s := by
        unfold stayF
        split
        · unfold mapJ stG
          split
          · rw [ho]; simp only [Bool.false_eq_true, if_false]; unfold rep; rw [if_neg ef]
          · rfl
        · rfl
      rw [e] at h
      unfold stN at h ⊢
      by_cases c : f s < 10
      · rw [if_pos c] at h ⊢
        unfold hdU at h
        rw [if_neg ef] at h
        exact h
      · rw [if_neg c] at h ⊢
        exact h
  intro h
  unfold stF at h ⊢
  simp only [Bool.and_eq_true, Bool.not_eq_true', Bool.or_eq_true, decide_eq_true_eq] at h ⊢
  obtain ⟨h1, h2⟩ := h
  have ho : ov s = false := by
    unfold setO at h1
    simp only [Bool.or_eq_false_iff] at h1
    exact h1.1
  refine ⟨ho, ?_⟩
  rcases h2 with h2 | h2
  · exact Or.inl (side fs ho h2)
  · exact Or.inr (side sc ho h2)
theorem gnC_seller {c : Ct} {g : Gt} (wc : WCt c) (wg : WGt g) {t y : Nat} (ht : t < c.2.2.2.2.1) (hne : c.1 t ≠ y) (h6 : c.1 t < 6) : -99 ≤ gnC c g t y (c.1 t) := by
  obtain ⟨hd, fs, sc, ov, T, U, w0, w1⟩ := c
  obtain ⟨pu, co, wo, so⟩ := g
  have wf : WF hd fs sc ov T U := wc.1
  have ht : t < T := ht
  have h6 : hd t < 6 := h6
  have hne : hd t ≠ y := hne
  have hT : T ≤ 8 := wf.1
  have v := vT_mv (wo := wo) hne T
  rw [if_pos ht] at v
  have w : wo (t * 6 + hd t) ≤ 99 := wg.2.2 _ (by omega)
  have m := Nat.mul_le_mul_left (co (hd t)) (cnt_mono (fun s => stF_mv (fs := fs) (sc := sc) (ov := ov) (U := U) (w0 := w0) (w1 := w1) (show t < 8 by omega) h6 hne s) U 0)
  show -99 ≤ (if hd t = 6 then (0 : Int) else valN (hdU hd t y) (stayF w0 hd ov t U fs) (stayF w0 hd ov t U sc) (setO (hdU hd t y) (stayF w0 hd ov t U fs) (stayF w0 hd ov t U sc) w1 ov U) T U co wo (hd t) - valN hd fs sc ov T U co wo (hd t))
  rw [if_neg (by omega)]
  unfold valN
  have m' : ((co (hd t) * cnt (stF (hdU hd t y) (stayF w0 hd ov t U fs) (stayF w0 hd ov t U sc) (setO (hdU hd t y) (stayF w0 hd ov t U fs) (stayF w0 hd ov t U sc) w1 ov U) (hd t)) 0 U : Nat) : Int) ≤ ((co (hd t) * cnt (stF hd fs sc ov (hd t)) 0 U : Nat) : Int) := Int.ofNat_le.mpr m
  push_cast at m'
  omega
