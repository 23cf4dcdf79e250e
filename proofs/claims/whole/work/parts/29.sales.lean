/-! ===== pure 9: moves of a state; sale, swap, wed ===== -/
def mvC (c : Ct) (t y : Nat) : Ct := (hdU c.1 t y, stayF c.2.2.2.2.2.2.1 c.1 c.2.2.2.1 t c.2.2.2.2.2.1 c.2.1, stayF c.2.2.2.2.2.2.1 c.1 c.2.2.2.1 t c.2.2.2.2.2.1 c.2.2.1,
  setO (hdU c.1 t y) (stayF c.2.2.2.2.2.2.1 c.1 c.2.2.2.1 t c.2.2.2.2.2.1 c.2.1) (stayF c.2.2.2.2.2.2.1 c.1 c.2.2.2.1 t c.2.2.2.2.2.1 c.2.2.1) c.2.2.2.2.2.2.2 c.2.2.2.1 c.2.2.2.2.2.1, c.2.2.2.2.1, c.2.2.2.2.2.1, c.2.2.2.2.2.2.1, c.2.2.2.2.2.2.2)
def cmC (c : Ct) (t y : Nat) : Nat := came (hdU c.1 t y) (stayF c.2.2.2.2.2.2.1 c.1 c.2.2.2.1 t c.2.2.2.2.2.1 c.2.1) (stayF c.2.2.2.2.2.2.1 c.1 c.2.2.2.1 t c.2.2.2.2.2.1 c.2.2.1) c.2.2.2.2.2.2.2 c.2.2.2.1 c.2.2.2.2.2.1
theorem WCt.mv {c : Ct} (wc : WCt c) {t y : Nat} (ht : t < c.2.2.2.2.1) (hy : y ≤ 6) : WCt (mvC c t y) := by
  obtain ⟨hd, fs, sc, ov, T, U, w0, w1⟩ := c
  have wf : WF hd fs sc ov T U := wc.1
  have hT : T ≤ 8 := wf.1
  have ht : t < T := ht
  exact ⟨((wf.stay w0 ht).hand (t := t) hy).settle w1, SETT.settle _ (wc.2.eqp.stay w0 (show t < 8 by omega) (wf.2.2.1 t ht))⟩
theorem X0_moveC {N o : Nat} {c : Ct} {h : qN} (wc : WCt c) {t y : Nat} (ht : t < c.2.2.2.2.1) (hy : y ≤ 6) (hN : 12 < N) (hr : RCt o c h) :
    ∃ h1, f_X0_move N o (nI t) (nI y) h = some (nI (cmC c t y), h1) ∧ RCt o (mvC c t y) h1 ∧ Off (PC o) h h1 := by
  obtain ⟨hd, fs, sc, ov, T, U, w0, w1⟩ := c
  exact X0_move (o := o) (h := h) wc.1 ht hy hN hr
theorem X6_sellsC {N : Nat} {c : Ct} {h : qN} (wc : WCt c) {t y : Nat} (ht : t < c.2.2.2.2.1) (hy : y ≤ 6) (hN : 12 < N) (hr : RMt c h) :
    ∃ h1, f_X6_sells N (nI t) (nI y) h = some (nI (cmC c t y), h1) ∧ RMt (mvC c t y) h1 ∧ Off PM h h1 := by
  obtain ⟨hd, fs, sc, ov, T, U, w0, w1⟩ := c
  exact X6_sells (h := h) wc.1 ht hy hN hr
theorem J.bld {c : Ct} {g : Gt} {h h1 h2 : qN} (hj : J h) (wc : WCt c) (wg : WGt g) (rc : RCt 2 c h1) (rg : RG1 1 g h1) (rm : RMt c h2) (r6 : RG6 g h2) (o1 : Off P5 h h1) (o2 : Off P6 h1 h2) : J h2 := by
  obtain ⟨hd, fs, sc, ov, T, U, w0, w1⟩ := c
  exact hj.build wc wg rc rg rm r6 o1 o2
theorem mn1 {x : Nat} (hx : x < 100000) : (if nI x < (9999 : Int32) then nI x else (9999 : Int32)) = nI (min x 9999) := by
  rw [k9999]
  by_cases c : x < 9999
  · rw [if_pos (nI_lt c (by omega)), Nat.min_eq_left (by omega)]
  · rw [if_neg (nI_nlt (by omega) (by omega)), Nat.min_eq_right (by omega)]
/-- the purses behind a sale -/
def puS (hd pu : Nat → Nat) (t y q : Nat) : Nat → Nat :=
  if hd t = 6 then (fun k => if k = y then pu y - q else pu k)
  else fun k => if k = hd t then min (pu (hd t) + q) 9999 else if k = y then pu y - q else pu k
theorem puS_le {hd pu : Nat → Nat} {t y q : Nat} (hp : ∀ k, k < 6 → pu k ≤ 9999) (hy : y < 6) : ∀ k, k < 6 → puS hd pu t y q k ≤ 9999 := by
  intro k hk
  have := hp k hk
  have := hp y hy
  unfold puS
  by_cases e : hd t = 6
  · rw [if_pos e]; split <;> omega
  · rw [if_neg e]; split
    · omega
    · split <;> omega
section Sales
variable {N : Nat} {hd fs sc : Nat → Nat} {ov : Nat → Bool} {T U : Nat} {w0 w1 : Bool} {pu co wo : Nat → Nat} {so : Int32} {h : qN}
theorem X4_sell_ok {t y q : Nat} (wc : WCt (hd, fs, sc, ov, T, U, w0, w1)) (wg : WGt (pu, co, wo, so)) (ht : t < T) (hy : y < 6) (hne : hd t ≠ y) (hq : q ≤ pu y) (hN : 12 < N) (rc : RCt 2 (hd, fs, sc, ov, T, U, w0, w1) h) (rg : RG1 1 (pu, co, wo, so) h) :
    ∃ h1, f_X4_sell N 1 (nI t) (nI y) (nI q) h = some (nI (cmC (hd, fs, sc, ov, T, U, w0, w1) t y), h1) ∧ RCt 2 (mvC (hd, fs, sc, ov, T, U, w0, w1) t y) h1 ∧ RG1 1 (puS hd pu t y q, co, wo, so + 1) h1 ∧ Off P5 h h1 := by
  have wf : WF hd fs sc ov T U := wc.1
  have hT : T ≤ 8 := wf.1
  have h6 : hd t ≤ 6 := wf.2.2.1 t ht
  have py : pu y ≤ 9999 := wg.1 y hy
  have ct : (nI t).toNatClampNeg = t := nI_clamp (by omega)
  have cy : (nI y).toNatClampNeg = y := nI_clamp (by omega)
  have ch : (nI (hd t)).toNatClampNeg = hd t := nI_clamp (by omega)
  have hct := nchk2 (j := t) (n := 8) (by omega) (by omega)
  have hcy := nchk2 (j := y) (n := 6) (by omega) (by omega)
  have e4 : h 4 t = nI (hd t) := rc.2.2.2.1 t (by omega)
  have e7 : h 7 y = nI (pu y) := rg.1 y hy
  have en : (nI (hd t) = (6 : Int32)) = (hd t = 6) := propext (nI_eq (a := hd t) (b := 6) (by omega) (by omega))
  obtain ⟨h0, p0, q0, r0⟩ : ∃ h0, (if nI (hd t) = (6 : Int32) then some (qup h 7 y (nI (pu y - q))) else if nI (hd t) < 0 ∨ 6 ≤ hd t then none else if nI (hd t) < 0 ∨ 6 ≤ hd t then none else some (qup (qup h 7 y (nI (pu y - q))) 7 (hd t) (nI (min (pu (hd t) + q) 9999)))) = some h0 ∧ RG1 1 (puS hd pu t y q, co, wo, so) h0 ∧ Off (fun a _ => a = 7) h h0 := by
    by_cases e : hd t = 6
    · rw [if_pos (by rw [en]; exact e)]
      refine ⟨_, rfl, ?_, off_up rfl⟩
      have := RG1_pu (j := y) (x := pu y - q) rg
      unfold puS
      rw [if_pos e]
      exact this
    · rw [if_neg (by rw [en]; exact e), if_neg (nchk2 (j := hd t) (n := 6) (by omega) (by omega)), if_neg (nchk2 (j := hd t) (n := 6) (by omega) (by omega))]
      refine ⟨_, rfl, ?_, Off.up (off_up rfl) rfl⟩
      have := RG1_pu (j := hd t) (x := min (pu (hd t) + q) 9999) (RG1_pu (j := y) (x := pu y - q) rg)
      unfold puS
      rw [if_neg e]
      exact this
  have rc0 : RCt 2 (hd, fs, sc, ov, T, U, w0, w1) (qup h0 1 4 (h0 1 4 + 1)) := RC.off (RC.off rc r0 (by omega)) (P := fun a k => a = 1) (off_up (by simp)) (by omega)
  obtain ⟨h1, a1, b1, c1⟩ := X0_moveC (y := y) wc ht (by omega) hN rc0
  refine ⟨h1, ?_, b1, ?_, Off.tr (Off.up (r0.weaken (by intro a k x; unfold P5; omega)) (by unfold P5; omega)) (c1.weaken PC2_5)⟩
  · unfold f_X4_sell
    simp only [ct, cy, if_neg hct, if_neg hcy, e4, ch, e7, pk_sub hq]
    have ex : nI (hd t) ≠ 6 → (if qup h (1 + 6) y (nI (pu y - q)) (1 + 6) (hd t) + nI q < (9999 : Int32) then qup h (1 + 6) y (nI (pu y - q)) (1 + 6) (hd t) + nI q else (9999 : Int32)) = nI (min (pu (hd t) + q) 9999) := by
      intro z
      have e : hd t ≠ 6 := fun z2 => z (by rw [z2]; rfl)
      have hh : pu (hd t) ≤ 9999 := wg.1 _ (by omega)
      have : qup h (1 + 6) y (nI (pu y - q)) (1 + 6) (hd t) = nI (pu (hd t)) := by
        simp only [qup, if_true, if_neg hne]
        exact rg.1 _ (by omega)
      rw [this, nI_add, mn1 (by omega)]
    have ey : (if nI (hd t) = (6 : Int32) then some (qup h 7 y (nI (pu y - q))) else if nI (hd t) < 0 ∨ 6 ≤ hd t then none else if nI (hd t) < 0 ∨ 6 ≤ hd t then none else some (qup (qup h (1 + 6) y (nI (pu y - q))) (1 + 6) (hd t) (if qup h (1 + 6) y (nI (pu y - q)) (1 + 6) (hd t) + nI q < (9999 : Int32) then qup h (1 + 6) y (nI (pu y - q)) (1 + 6) (hd t) + nI q else (9999 : Int32)))) = some h0 := by
      rw [← p0]
      by_cases z : nI (hd t) = (6 : Int32)
      · rw [if_pos z, if_pos z]
      · rw [if_neg z, if_neg z, ex z]
    rw [ey, qb, a1, qb]
  · have := RG1_so (w := 1) (x := h0 1 4 + 1) q0
    rw [show h0 1 4 = so from q0.2.2.2] at this c1
    exact this.pc rfl c1
theorem X6_sale_ok {t y q : Nat} (wc : WCt (hd, fs, sc, ov, T, U, w0, w1)) (wg : WGt (pu, co, wo, so)) (ht : t < T) (hy : y < 6) (hne : hd t ≠ y) (hq : q ≤ pu y) (hq9 : q ≤ 999) (hN : 12 < N) (rm : RMt (hd, fs, sc, ov, T, U, w0, w1) h) (r6 : RG6 (pu, co, wo, so) h) :
    ∃ h1, f_X6_sale N (nI t) (nI y) (nI q) h = some (nI (cmC (hd, fs, sc, ov, T, U, w0, w1) t y), h1) ∧ RMt (mvC (hd, fs, sc, ov, T, U, w0, w1) t y) h1 ∧ RG6 (puS hd pu t y q, co, wo, so + 1) h1 ∧ Off P6 h h1 := by
  have wf : WF hd fs sc ov T U := wc.1
  have hT : T ≤ 8 := wf.1
  have h6 : hd t ≤ 6 := wf.2.2.1 t ht
  have py : pu y ≤ 9999 := wg.1 y hy
  have ct : (nI t).toNatClampNeg = t := nI_clamp (by omega)
  have cy : (nI y).toNatClampNeg = y := nI_clamp (by omega)
  have ch : (nI (hd t)).toNatClampNeg = hd t := nI_clamp (by omega)
  have hct := nchk2 (j := t) (n := 8) (by omega) (by omega)
  have hcy := nchk2 (j := y) (n := 6) (by omega) (by omega)
  have e4 : h 64 t = nI (hd t) := rm.2.2.2.1 t (by omega)
  have e7 : h 61 y = nI (pu y) := r6.1 y hy
  have en : (nI (hd t) = (6 : Int32)) = (hd t = 6) := propext (nI_eq (a := hd t) (b := 6) (by omega) (by omega))
  have ey : (nI (hd t) = nI y) = False := eq_false (by rw [nI_eq (by omega) (by omega)]; exact hne)
  have t6 := X6_isThing (h := h) (T := T) rm.1 hT (nI t)
  have at1 : 0 ≤ (nI t).toInt ∧ (nI t).toInt < (T : Int) := by rw [nI_toInt (by omega)]; omega
  have ay1 : 0 ≤ (nI y).toInt ∧ (nI y).toInt < 6 := by rw [nI_toInt (by omega)]; omega
  have aq1 : 0 ≤ (nI q).toInt ∧ (nI q).toInt ≤ 999 := by rw [nI_toInt (by omega)]; omega
  obtain ⟨h0, p0, q0, r0⟩ : ∃ h0, f_X6_comesTo (nI (hd t)) (nI q) (qup h 61 y (nI (pu y - q))) = some h0 ∧ RG6 (puS hd pu t y q, co, wo, so) h0 ∧ Off (fun a _ => a = 61) h h0 := by
    unfold f_X6_comesTo
    simp only [en, ch]
    by_cases e : hd t = 6
    · rw [if_pos e]
      refine ⟨_, rfl, ?_, off_up rfl⟩
      have := RG6_pu (j := y) (x := pu y - q) r6
      unfold puS
      rw [if_pos e]
      exact this
    · have hch := nchk2 (j := hd t) (n := 6) (by omega) (by omega)
      have hh : pu (hd t) ≤ 9999 := wg.1 _ (by omega)
      have ev : qup h 61 y (nI (pu y - q)) 61 (hd t) = nI (pu (hd t)) := by
        simp only [qup, if_true, if_neg hne]
        exact r6.1 _ (by omega)
      simp only [if_neg e, if_neg hch, ev, nI_add, k9999, nI_leI (show pu (hd t) + q < 2 ^ 31 by omega) (show 9999 < 2 ^ 31 by omega)]
      have := RG6_pu (j := hd t) (x := min (pu (hd t) + q) 9999) (RG6_pu (j := y) (x := pu y - q) r6)
      have hs : puS hd pu t y q = (fun k => if k = hd t then min (pu (hd t) + q) 9999 else (fun k => if k = y then pu y - q else pu k) k) := by
        unfold puS; rw [if_neg e]
      rw [hs]
      by_cases c9 : pu (hd t) + q ≤ 9999
      · rw [if_pos c9]
        rw [Nat.min_eq_left c9] at this ⊢
        exact ⟨_, rfl, this, Off.up (off_up rfl) rfl⟩
      · rw [if_neg c9]
        rw [Nat.min_eq_right (by omega)] at this ⊢
        exact ⟨_, rfl, this, Off.up (off_up rfl) rfl⟩
  have rm0 : RMt (hd, fs, sc, ov, T, U, w0, w1) (qup h0 60 10 (h0 60 10 + 1)) := RM.off (RM.off rm r0 (by intro a k x; unfold PM at x; omega)) (P := fun a k => a = 60 ∧ k = 10) (off_up (by simp)) (by intro a k x; unfold PM at x; omega)
  obtain ⟨h1, a1, b1, c1⟩ := X6_sellsC (y := y) wc ht (by omega) hN rm0
  refine ⟨h1, ?_, b1, ?_, Off.tr (Off.up (r0.weaken (by intro a k x; unfold P6; omega)) (by unfold P6; omega)) (c1.weaken PM_6)⟩
  · unfold f_X6_sale
    simp only [t6, X5_isPerson, X6_isPerson, X5_isWithin, X6_in, a64, qb, one0, zero0, if_true, if_false, L0, L1, L2, L4, L5, L6, L9, L10, L15, L16, L60, L99, L999, I0, I1, I6, I9, I16, I60, I99, I999, if_pos at1, if_pos ay1, if_pos aq1, ct, cy, if_neg hct, if_neg hcy, e4, e7, ey, nI_leI (show q < 2 ^ 31 by omega) (show pu y < 2 ^ 31 by omega), if_pos hq, pk_sub hq, show qup h 61 y (nI (pu y - q)) 64 t = nI (hd t) from e4, p0, a1]
  · have := RG6_so (x := h0 60 10 + 1) q0
    rw [show h0 60 10 = so from q0.2.2.2] at this c1
    exact this.pm c1
end Sales
theorem call_sale {N : Nat} (hN : 12 < N) (a b x : Int32) {h : qN} (hj : J h) : OKC (f_X5_sale N a b x) (f_X6_sale N a b x) h := by
  obtain ⟨⟨hd, fs, sc, ov, T, U, w0, w1⟩, ⟨pu, co, wo, so⟩, wc, wg, rc, rg, rm, r6⟩ := hj.1
  have wf : WF hd fs sc ov T U := wc.1
  have hT : T ≤ 8 := wf.1
  have t5 := X5_isThing (h := h) (T := T) rc.1 hT a
  have t6 := X6_isThing (h := h) (T := T) rm.1 hT a
  by_cases c : 0 ≤ a.toInt ∧ a.toInt < T
  · by_cases cb : 0 ≤ b.toInt ∧ b.toInt < 6
    · by_cases cx : 0 ≤ x.toInt ∧ x.toInt ≤ 999
      · obtain ⟨t, ht, rfl, ht2⟩ := ofRange c
        obtain ⟨y, hy, rfl, hy2⟩ := ofRange cb
        obtain ⟨q, hq, rfl, hq2⟩ := ofRangeLe cx
        have h6 : hd t ≤ 6 := wf.2.2.1 t (by omega)
        have py : pu y ≤ 9999 := wg.1 y (by omega)
        have ct : (nI t).toNatClampNeg = t := nI_clamp (by omega)
        have cy : (nI y).toNatClampNeg = y := nI_clamp (by omega)
        have hct := nchk2 (j := t) (n := 8) (by omega) (by omega)
        have hcy := nchk2 (j := y) (n := 6) (by omega) (by omega)
        have e4 : h 4 t = nI (hd t) := rc.2.2.2.1 t (by omega)
        have e7 : h 7 y = nI (pu y) := rg.1 y (by omega)
        have f4 : h 64 t = nI (hd t) := rm.2.2.2.1 t (by omega)
        have f7 : h 61 y = nI (pu y) := r6.1 y (by omega)
        have ey : (nI (hd t) = nI y) = (hd t = y) := propext (nI_eq (by omega) (by omega))
        have el : (nI q ≤ nI (pu y)) = (q ≤ pu y) := propext (nI_leI (by omega) (by omega))
        by_cases n1 : hd t = y
        · refine ⟨-2, h, h, ?_, ?_, hj⟩
          · unfold f_X5_sale
            simp only [t5, X5_isPerson, X6_isPerson, X5_isWithin, X6_in, a64, qb, one0, zero0, if_true, if_false, L0, L1, L2, L4, L5, L6, L9, L10, L15, L16, L60, L99, L999, I0, I1, I6, I9, I16, I60, I99, I999, if_pos c, if_pos cb, if_pos cx, ct, if_neg hct, e4, ey, if_pos n1]
          · unfold f_X6_sale
            simp only [t6, X5_isPerson, X6_isPerson, X5_isWithin, X6_in, a64, qb, one0, zero0, if_true, if_false, L0, L1, L2, L4, L5, L6, L9, L10, L15, L16, L60, L99, L999, I0, I1, I6, I9, I16, I60, I99, I999, if_pos c, if_pos cb, if_pos cx, ct, if_neg hct, f4, ey, if_pos n1]
        · by_cases n2 : q ≤ pu y
          · obtain ⟨h1, a1, b1, c1, d1⟩ := X4_sell_ok (t := t) (y := y) (q := q) wc wg (by omega) (by omega) n1 n2 hN rc rg
            obtain ⟨h2, a2, b2, c2, d2⟩ := X6_sale_ok (t := t) (y := y) (q := q) wc wg (by omega) (by omega) n1 n2 (by omega) hN (RM.p5 rm d1) (r6.p5 d1)
            refine ⟨_, h1, h2, ?_, a2, hj.bld (wc.mv (show t < T by omega) (by omega)) (g := (puS hd pu t y q, co, wo, so + 1)) ⟨puS_le wg.1 (show y < 6 by omega), wg.2⟩ b1 c1 b2 c2 d1 d2⟩
            unfold f_X5_sale
            simp only [t5, X5_isPerson, X6_isPerson, X5_isWithin, X6_in, a64, qb, one0, zero0, if_true, if_false, L0, L1, L2, L4, L5, L6, L9, L10, L15, L16, L60, L99, L999, I0, I1, I6, I9, I16, I60, I99, I999, if_pos c, if_pos cb, if_pos cx, ct, cy, if_neg hct, if_neg hcy, e4, e7, ey, if_neg n1, el, if_pos n2, a1]
          · refine ⟨-2, h, h, ?_, ?_, hj⟩
            · unfold f_X5_sale
              simp only [t5, X5_isPerson, X6_isPerson, X5_isWithin, X6_in, a64, qb, one0, zero0, if_true, if_false, L0, L1, L2, L4, L5, L6, L9, L10, L15, L16, L60, L99, L999, I0, I1, I6, I9, I16, I60, I99, I999, if_pos c, if_pos cb, if_pos cx, ct, cy, if_neg hct, if_neg hcy, e4, e7, ey, if_neg n1, el, if_neg n2]
            · unfold f_X6_sale
              simp only [t6, X5_isPerson, X6_isPerson, X5_isWithin, X6_in, a64, qb, one0, zero0, if_true, if_false, L0, L1, L2, L4, L5, L6, L9, L10, L15, L16, L60, L99, L999, I0, I1, I6, I9, I16, I60, I99, I999, if_pos c, if_pos cb, if_pos cx, ct, cy, if_neg hct, if_neg hcy, f4, f7, ey, if_neg n1, el, if_neg n2]
      · refine ⟨-1, h, h, ?_, ?_, hj⟩
        · unfold f_X5_sale
          simp only [t5, X5_isPerson, X6_isPerson, X5_isWithin, X6_in, a64, qb, one0, zero0, if_true, if_false, L0, L1, L2, L4, L5, L6, L9, L10, L15, L16, L60, L99, L999, I0, I1, I6, I9, I16, I60, I99, I999, if_pos c, if_pos cb, if_neg cx]
        · unfold f_X6_sale
          simp only [t6, X5_isPerson, X6_isPerson, X5_isWithin, X6_in, a64, qb, one0, zero0, if_true, if_false, L0, L1, L2, L4, L5, L6, L9, L10, L15, L16, L60, L99, L999, I0, I1, I6, I9, I16, I60, I99, I999, if_pos c, if_pos cb, if_neg cx]
    · refine ⟨-1, h, h, ?_, ?_, hj⟩
      · unfold f_X5_sale
        simp only [t5, X5_isPerson, X6_isPerson, X5_isWithin, X6_in, a64, qb, one0, zero0, if_true, if_false, L0, L1, L2, L4, L5, L6, L9, L10, L15, L16, L60, L99, L999, I0, I1, I6, I9, I16, I60, I99, I999, if_pos c, if_neg cb]
      · unfold f_X6_sale
        simp only [t6, X5_isPerson, X6_isPerson, X5_isWithin, X6_in, a64, qb, one0, zero0, if_true, if_false, L0, L1, L2, L4, L5, L6, L9, L10, L15, L16, L60, L99, L999, I0, I1, I6, I9, I16, I60, I99, I999, if_pos c, if_neg cb]
  · refine ⟨-1, h, h, ?_, ?_, hj⟩
    · unfold f_X5_sale
      simp only [t5, X5_isPerson, X6_isPerson, X5_isWithin, X6_in, a64, qb, one0, zero0, if_true, if_false, L0, L1, L2, L4, L5, L6, L9, L10, L15, L16, L60, L99, L999, I0, I1, I6, I9, I16, I60, I99, I999, if_neg c]
    · unfold f_X6_sale
      simp only [t6, X5_isPerson, X6_isPerson, X5_isWithin, X6_in, a64, qb, one0, zero0, if_true, if_false, L0, L1, L2, L4, L5, L6, L9, L10, L15, L16, L60, L99, L999, I0, I1, I6, I9, I16, I60, I99, I999, if_neg c]
