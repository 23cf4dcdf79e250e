/-! ===== pure 6: calls: purses, hands, worths, laws, gifts, swaps, weddings, sales ===== -/
theorem RG1_pu {w j x : Nat} {pu co wo : Nat → Nat} {so : Int32} {h : qN} (hr : RG1 w (pu, co, wo, so) h) : RG1 w ((fun k => if k = j then x else pu k), co, wo, so) (qup h (w + 6) j (nI x)) := by
  obtain ⟨e1, e2, e3, e4⟩ := hr
  refine ⟨fun k hk => ?_, fun k hk => ?_, fun k hk => ?_, ?_⟩ <;> simp [qup]
  · by_cases e : k = j
    · simp [e]
    · simp [e]; exact e1 k hk
  · exact e2 k hk
  · exact e3 k hk
  · exact e4
theorem RG1_co {w j x : Nat} {pu co wo : Nat → Nat} {so : Int32} {h : qN} (hr : RG1 w (pu, co, wo, so) h) : RG1 w (pu, (fun k => if k = j then x else co k), wo, so) (qup h (w + 7) j (nI x)) := by
  obtain ⟨e1, e2, e3, e4⟩ := hr
  refine ⟨fun k hk => ?_, fun k hk => ?_, fun k hk => ?_, ?_⟩ <;> simp [qup]
  · exact e1 k hk
  · by_cases e : k = j
    · simp [e]
    · simp [e]; exact e2 k hk
  · exact e3 k hk
  · exact e4
theorem RG1_wo {w j x : Nat} {pu co wo : Nat → Nat} {so : Int32} {h : qN} (hr : RG1 w (pu, co, wo, so) h) : RG1 w (pu, co, (fun k => if k = j then x else wo k), so) (qup h (w + 8) j (nI x)) := by
  obtain ⟨e1, e2, e3, e4⟩ := hr
  refine ⟨fun k hk => ?_, fun k hk => ?_, fun k hk => ?_, ?_⟩ <;> simp [qup]
  · exact e1 k hk
  · exact e2 k hk
  · by_cases e : k = j
    · simp [e]
    · simp [e]; exact e3 k hk
  · exact e4
theorem RG1_so {w : Nat} {x : Int32} {pu co wo : Nat → Nat} {so : Int32} {h : qN} (hr : RG1 w (pu, co, wo, so) h) : RG1 w (pu, co, wo, x) (qup h w 4 x) := by
  obtain ⟨e1, e2, e3, e4⟩ := hr
  refine ⟨fun k hk => ?_, fun k hk => ?_, fun k hk => ?_, ?_⟩ <;> simp [qup]
  · exact e1 k hk
  · exact e2 k hk
  · exact e3 k hk
theorem RG6_pu {j x : Nat} {pu co wo : Nat → Nat} {so : Int32} {h : qN} (hr : RG6 (pu, co, wo, so) h) : RG6 ((fun k => if k = j then x else pu k), co, wo, so) (qup h 61 j (nI x)) := by
  obtain ⟨e1, e2, e3, e4⟩ := hr
  refine ⟨fun k hk => ?_, fun k hk => ?_, fun k hk => ?_, ?_⟩ <;> simp [qup]
  · by_cases e : k = j
    · simp [e]
    · simp [e]; exact e1 k hk
  · exact e2 k hk
  · exact e3 k hk
  · exact e4
theorem RG6_co {j x : Nat} {pu co wo : Nat → Nat} {so : Int32} {h : qN} (hr : RG6 (pu, co, wo, so) h) : RG6 (pu, (fun k => if k = j then x else co k), wo, so) (qup h 62 j (nI x)) := by
  obtain ⟨e1, e2, e3, e4⟩ := hr
  refine ⟨fun k hk => ?_, fun k hk => ?_, fun k hk => ?_, ?_⟩ <;> simp [qup]
  · exact e1 k hk
  · by_cases e : k = j
    · simp [e]
    · simp [e]; exact e2 k hk
  · exact e3 k hk
  · exact e4
theorem RG6_wo {j x : Nat} {pu co wo : Nat → Nat} {so : Int32} {h : qN} (hr : RG6 (pu, co, wo, so) h) : RG6 (pu, co, (fun k => if k = j then x else wo k), so) (qup h 65 j (nI x)) := by
  obtain ⟨e1, e2, e3, e4⟩ := hr
  refine ⟨fun k hk => ?_, fun k hk => ?_, fun k hk => ?_, ?_⟩ <;> simp [qup]
  · exact e1 k hk
  · exact e2 k hk
  · by_cases e : k = j
    · simp [e]
    · simp [e]; exact e3 k hk
  · exact e4
theorem RG6_so {x : Int32} {pu co wo : Nat → Nat} {so : Int32} {h : qN} (hr : RG6 (pu, co, wo, so) h) : RG6 (pu, co, wo, x) (qup h 60 10 x) := by
  obtain ⟨e1, e2, e3, e4⟩ := hr
  refine ⟨fun k hk => ?_, fun k hk => ?_, fun k hk => ?_, ?_⟩ <;> simp [qup]
  · exact e1 k hk
  · exact e2 k hk
  · exact e3 k hk
theorem L0 : (0 : Int64).toInt = 0 := rfl
theorem L1 : (1 : Int64).toInt = 1 := rfl
theorem L2 : (2 : Int64).toInt = 2 := rfl
theorem L4 : (4 : Int64).toInt = 4 := rfl
theorem L5 : (5 : Int64).toInt = 5 := rfl
theorem L6 : (6 : Int64).toInt = 6 := rfl
theorem L9 : (9 : Int64).toInt = 9 := rfl
theorem L10 : (10 : Int64).toInt = 10 := rfl
theorem L15 : (15 : Int64).toInt = 15 := rfl
theorem L16 : (16 : Int64).toInt = 16 := rfl
theorem L60 : (60 : Int64).toInt = 60 := rfl
theorem L99 : (99 : Int64).toInt = 99 := rfl
theorem L999 : (999 : Int64).toInt = 999 := rfl
theorem I0 : (0 : Int32).toInt = 0 := rfl
theorem I1 : (1 : Int32).toInt = 1 := rfl
theorem I6 : (6 : Int32).toInt = 6 := rfl
theorem I9 : (9 : Int32).toInt = 9 := rfl
theorem I16 : (16 : Int32).toInt = 16 := rfl
theorem I60 : (60 : Int32).toInt = 60 := rfl
theorem I99 : (99 : Int32).toInt = 99 := rfl
theorem I999 : (999 : Int32).toInt = 999 := rfl
theorem one0 : ((1 : Int32) = 0) = False := by simp
theorem zero0 : ((0 : Int32) = 0) = True := by simp
def OKC (f5 f6 : qN → Option (Int32 × qN)) (h : qN) : Prop := ∃ (v : Int32) (h1 h2 : qN), f5 h = some (v, h1) ∧ f6 h1 = some (v, h2) ∧ J h2
theorem WGt.pu {pu co wo : Nat → Nat} {so so' : Int32} (hg : WGt (pu, co, wo, so)) {j x : Nat} (hx : x ≤ 9999) : WGt ((fun k => if k = j then x else pu k), co, wo, so') := by
  refine ⟨fun k hk => ?_, hg.2.1, hg.2.2⟩
  dsimp only
  by_cases e : k = j
  · rw [if_pos e]; exact hx
  · rw [if_neg e]; exact hg.1 k hk
theorem WGt.co {pu co wo : Nat → Nat} {so so' : Int32} (hg : WGt (pu, co, wo, so)) {j x : Nat} (hx : x ≤ 99) : WGt (pu, (fun k => if k = j then x else co k), wo, so') := by
  refine ⟨hg.1, fun k hk => ?_, hg.2.2⟩
  dsimp only
  by_cases e : k = j
  · rw [if_pos e]; exact hx
  · rw [if_neg e]; exact hg.2.1 k hk
theorem WGt.wo {pu co wo : Nat → Nat} {so so' : Int32} (hg : WGt (pu, co, wo, so)) {j x : Nat} (hx : x ≤ 99) : WGt (pu, co, (fun k => if k = j then x else wo k), so') := by
  refine ⟨hg.1, hg.2.1, fun k hk => ?_⟩
  dsimp only
  by_cases e : k = j
  · rw [if_pos e]; exact hx
  · rw [if_neg e]; exact hg.2.2 k hk
theorem X5_put {a n : Nat} {h : qN} {p : Nat} {v : Int32} (hp : p < n) (hn : n ≤ 100) : f_X5_put a n (nI p) v h = some (h a p, qup h a p v) := by
  unfold f_X5_put
  have e : (nI p).toNatClampNeg = p := nI_clamp (by omega)
  have hc := nchk2 (j := p) (n := n) hp (by omega)
  simp only [e, if_neg hc, if_neg (nI_pos (show p < 2 ^ 31 by omega)), show Int32.ofNat n = nI n from rfl, if_pos (nI_lt hp (show n < 2 ^ 31 by omega))]
theorem call_purse (a : Int32) {h : qN} (hj : J h) : OKC (f_X5_purse a) (f_X6_purse a) h := by
  obtain ⟨⟨hd, fs, sc, ov, T, U, w0, w1⟩, ⟨pu, co, wo, so⟩, wc, wg, rc, rg, rm, r6⟩ := hj.1
  by_cases c : 0 ≤ a.toInt ∧ a.toInt < 6
  · obtain ⟨p, hp, rfl, hp2⟩ := ofRange c
    have hc := nchk2 (j := p) (n := 6) (by omega) (by omega)
    refine ⟨nI (pu p), h, h, ?_, ?_, hj⟩
    · unfold f_X5_purse
      simp only [X5_isPerson, X6_isPerson, X5_isWithin, X6_in, a64, qb, one0, zero0, if_true, if_false, L0, L1, L2, L4, L5, L6, L9, L10, L15, L16, L60, L99, L999, I0, I1, I6, I9, I16, I60, I99, I999, if_pos c, nI_clamp hp2, if_neg hc]
      rw [show h 7 p = nI (pu p) from rg.1 p (by omega)]
    · unfold f_X6_purse
      simp only [X5_isPerson, X6_isPerson, X5_isWithin, X6_in, a64, qb, one0, zero0, if_true, if_false, L0, L1, L2, L4, L5, L6, L9, L10, L15, L16, L60, L99, L999, I0, I1, I6, I9, I16, I60, I99, I999, if_pos c, nI_clamp hp2, if_neg hc]
      rw [show h 61 p = nI (pu p) from r6.1 p (by omega)]
  · refine ⟨-1, h, h, ?_, ?_, hj⟩
    · unfold f_X5_purse
      simp only [X5_isPerson, X6_isPerson, X5_isWithin, X6_in, a64, qb, one0, zero0, if_true, if_false, L0, L1, L2, L4, L5, L6, L9, L10, L15, L16, L60, L99, L999, I0, I1, I6, I9, I16, I60, I99, I999, if_neg c]
    · unfold f_X6_purse
      simp only [X5_isPerson, X6_isPerson, X5_isWithin, X6_in, a64, qb, one0, zero0, if_true, if_false, L0, L1, L2, L4, L5, L6, L9, L10, L15, L16, L60, L99, L999, I0, I1, I6, I9, I16, I60, I99, I999, if_neg c]
theorem call_hand (a : Int32) {h : qN} (hj : J h) : OKC (f_X5_hand a) (f_X6_hand a) h := by
  obtain ⟨⟨hd, fs, sc, ov, T, U, w0, w1⟩, ⟨pu, co, wo, so⟩, wc, wg, rc, rg, rm, r6⟩ := hj.1
  have hT : T ≤ 8 := wc.1.1
  have t5 := X5_isThing (h := h) (T := T) rc.1 hT a
  have t6 := X6_isThing (h := h) (T := T) rm.1 hT a
  by_cases c : 0 ≤ a.toInt ∧ a.toInt < T
  · obtain ⟨p, hp, rfl, hp2⟩ := ofRange c
    have hc := nchk2 (j := p) (n := 8) (by omega) (by omega)
    refine ⟨nI (hd p), h, h, ?_, ?_, hj⟩
    · unfold f_X5_hand
      simp only [t5, X5_isPerson, X6_isPerson, X5_isWithin, X6_in, a64, qb, one0, zero0, if_true, if_false, L0, L1, L2, L4, L5, L6, L9, L10, L15, L16, L60, L99, L999, I0, I1, I6, I9, I16, I60, I99, I999, if_pos c, nI_clamp hp2, if_neg hc]
      rw [show h 4 p = nI (hd p) from rc.2.2.2.1 p (by omega)]
    · unfold f_X6_hand
      simp only [t6, X5_isPerson, X6_isPerson, X5_isWithin, X6_in, a64, qb, one0, zero0, if_true, if_false, L0, L1, L2, L4, L5, L6, L9, L10, L15, L16, L60, L99, L999, I0, I1, I6, I9, I16, I60, I99, I999, if_pos c, nI_clamp hp2, if_neg hc]
      rw [show h 64 p = nI (hd p) from rm.2.2.2.1 p (by omega)]
  · refine ⟨-1, h, h, ?_, ?_, hj⟩
    · unfold f_X5_hand
      simp only [t5, X5_isPerson, X6_isPerson, X5_isWithin, X6_in, a64, qb, one0, zero0, if_true, if_false, L0, L1, L2, L4, L5, L6, L9, L10, L15, L16, L60, L99, L999, I0, I1, I6, I9, I16, I60, I99, I999, if_neg c]
    · unfold f_X6_hand
      simp only [t6, X5_isPerson, X6_isPerson, X5_isWithin, X6_in, a64, qb, one0, zero0, if_true, if_false, L0, L1, L2, L4, L5, L6, L9, L10, L15, L16, L60, L99, L999, I0, I1, I6, I9, I16, I60, I99, I999, if_neg c]
theorem off_up {P : Nat → Nat → Prop} {h : qN} {a k : Nat} {v : Int32} (hp : P a k) : Off P h (qup h a k v) := Off.up Off.rf hp
theorem call_person (a b x : Int32) {h : qN} (hj : J h) : OKC (f_X5_person a b x) (f_X6_person a b x) h := by
  obtain ⟨⟨hd, fs, sc, ov, T, U, w0, w1⟩, ⟨pu, co, wo, so⟩, wc, wg, rc, rg, rm, r6⟩ := hj.1
  by_cases c : 0 ≤ a.toInt ∧ a.toInt < 6
  · obtain ⟨p, hp, rfl, hp2⟩ := ofRange c
    have hc := nchk2 (j := p) (n := 6) (by omega) (by omega)
    by_cases b0 : b = 0
    · subst b0
      by_cases cx : 0 ≤ x.toInt ∧ x.toInt ≤ 999
      · obtain ⟨q, hq, rfl, hq2⟩ := ofRangeLe cx
        refine ⟨nI (pu p), qup h 7 p (nI q), qup (qup h 7 p (nI q)) 61 p (nI q), ?_, ?_, ?_⟩
        · unfold f_X5_person
          simp only [X5_isPerson, X6_isPerson, X5_isWithin, X6_in, a64, qb, one0, zero0, if_true, if_false, L0, L1, L2, L4, L5, L6, L9, L10, L15, L16, L60, L99, L999, I0, I1, I6, I9, I16, I60, I99, I999, if_pos c, if_pos cx, X5_put (a := 7) (n := 6) (p := p) (by omega) (by omega)]
          rw [show h 7 p = nI (pu p) from rg.1 p (by omega)]
        · unfold f_X6_person
          simp only [X5_isPerson, X6_isPerson, X5_isWithin, X6_in, a64, qb, one0, zero0, if_true, if_false, L0, L1, L2, L4, L5, L6, L9, L10, L15, L16, L60, L99, L999, I0, I1, I6, I9, I16, I60, I99, I999, if_pos c, if_pos cx, nI_clamp hp2, if_neg hc, show ((0 : Int) ≤ 0 ∧ (0 : Int) ≤ 1) = True from eq_true (by omega)]
          simp only [qup, show ¬ (61 : Nat) = 7 by omega, if_false]
          rw [show h 61 p = nI (pu p) from r6.1 p (by omega)]
        · refine hj.pv ⟨(hd, fs, sc, ov, T, U, w0, w1), (_, co, wo, so), wc, wg.pu (j := p) (x := q) (by omega), ?_, ?_, ?_, RG6_pu (r6.off (P := fun a k => a = 7) (off_up (by simp)) (by omega))⟩ (Off.up (off_up (by unfold PV; omega)) (by unfold PV; omega))
          · exact RC.off (RC.off rc (P := fun a k => a = 7) (off_up (by simp)) (by omega)) (P := fun a k => a = 61) (off_up (by simp)) (by omega)
          · exact (RG1_pu (w := 1) rg).off (P := fun a k => a = 61) (off_up (by simp)) (by omega)
          · exact RM.off (RM.off rm (P := fun a k => a = 7) (off_up (by simp)) (by unfold PM; omega)) (P := fun a k => a = 61) (off_up (by simp)) (by unfold PM; omega)
      · refine ⟨-1, h, h, ?_, ?_, hj⟩
        · unfold f_X5_person
          simp only [X5_isPerson, X6_isPerson, X5_isWithin, X6_in, a64, qb, one0, zero0, if_true, if_false, L0, L1, L2, L4, L5, L6, L9, L10, L15, L16, L60, L99, L999, I0, I1, I6, I9, I16, I60, I99, I999, if_pos c, if_neg cx, show ((0 : Int32) = 1) = False from eq_false (by decide)]
        · unfold f_X6_person
          simp only [X5_isPerson, X6_isPerson, X5_isWithin, X6_in, a64, qb, one0, zero0, if_true, if_false, L0, L1, L2, L4, L5, L6, L9, L10, L15, L16, L60, L99, L999, I0, I1, I6, I9, I16, I60, I99, I999, if_pos c, if_neg cx, show ((0 : Int) ≤ 0 ∧ (0 : Int) ≤ 1) = True from eq_true (by omega)]
    · by_cases b1 : b = 1
      · subst b1
        by_cases cx : 0 ≤ x.toInt ∧ x.toInt ≤ 99
        · obtain ⟨q, hq, rfl, hq2⟩ := ofRangeLe cx
          refine ⟨nI (co p), qup h 8 p (nI q), qup (qup h 8 p (nI q)) 62 p (nI q), ?_, ?_, ?_⟩
          · unfold f_X5_person
            simp only [X5_isPerson, X6_isPerson, X5_isWithin, X6_in, a64, qb, one0, zero0, if_true, if_false, L0, L1, L2, L4, L5, L6, L9, L10, L15, L16, L60, L99, L999, I0, I1, I6, I9, I16, I60, I99, I999, if_pos c, if_pos cx, X5_put (a := 8) (n := 6) (p := p) (by omega) (by omega)]
            rw [show h 8 p = nI (co p) from rg.2.1 p (by omega)]
          · unfold f_X6_person
            simp only [X5_isPerson, X6_isPerson, X5_isWithin, X6_in, a64, qb, one0, zero0, if_true, if_false, L0, L1, L2, L4, L5, L6, L9, L10, L15, L16, L60, L99, L999, I0, I1, I6, I9, I16, I60, I99, I999, if_pos c, if_pos cx, nI_clamp hp2, if_neg hc, show ((0 : Int) ≤ 1 ∧ (1 : Int) ≤ 1) = True from eq_true (by omega)]
            simp only [qup, show ¬ (62 : Nat) = 8 by omega, if_false]
            rw [show h 62 p = nI (co p) from r6.2.1 p (by omega)]
          · refine hj.pv ⟨(hd, fs, sc, ov, T, U, w0, w1), (pu, _, wo, so), wc, wg.co (j := p) (x := q) (by omega), ?_, ?_, ?_, RG6_co (r6.off (P := fun a k => a = 8) (off_up (by simp)) (by omega))⟩ (Off.up (off_up (by unfold PV; omega)) (by unfold PV; omega))
            · exact RC.off (RC.off rc (P := fun a k => a = 8) (off_up (by simp)) (by omega)) (P := fun a k => a = 62) (off_up (by simp)) (by omega)
            · exact (RG1_co (w := 1) rg).off (P := fun a k => a = 62) (off_up (by simp)) (by omega)
            · exact RM.off (RM.off rm (P := fun a k => a = 8) (off_up (by simp)) (by unfold PM; omega)) (P := fun a k => a = 62) (off_up (by simp)) (by unfold PM; omega)
        · refine ⟨-1, h, h, ?_, ?_, hj⟩
          · unfold f_X5_person
            simp only [X5_isPerson, X6_isPerson, X5_isWithin, X6_in, a64, qb, one0, zero0, if_true, if_false, L0, L1, L2, L4, L5, L6, L9, L10, L15, L16, L60, L99, L999, I0, I1, I6, I9, I16, I60, I99, I999, if_pos c, if_neg cx]
          · unfold f_X6_person
            simp only [X5_isPerson, X6_isPerson, X5_isWithin, X6_in, a64, qb, one0, zero0, if_true, if_false, L0, L1, L2, L4, L5, L6, L9, L10, L15, L16, L60, L99, L999, I0, I1, I6, I9, I16, I60, I99, I999, if_pos c, if_neg cx, show ((0 : Int) ≤ 1 ∧ (1 : Int) ≤ 1) = True from eq_true (by omega)]
      · have nb : ¬ (0 ≤ b.toInt ∧ b.toInt ≤ 1) := by
          intro z
          obtain ⟨q, hq, rfl, hq2⟩ := ofRangeLe z
          rcases (show q = 0 ∨ q = 1 by omega) with rfl | rfl
          · exact b0 rfl
          · exact b1 rfl
        refine ⟨-1, h, h, ?_, ?_, hj⟩
        · unfold f_X5_person
          simp only [X5_isPerson, X6_isPerson, X5_isWithin, X6_in, a64, qb, one0, zero0, if_true, if_false, L0, L1, L2, L4, L5, L6, L9, L10, L15, L16, L60, L99, L999, I0, I1, I6, I9, I16, I60, I99, I999, if_pos c, if_neg b0, if_neg b1]
        · unfold f_X6_person
          simp only [X5_isPerson, X6_isPerson, X5_isWithin, X6_in, a64, qb, one0, zero0, if_true, if_false, L0, L1, L2, L4, L5, L6, L9, L10, L15, L16, L60, L99, L999, I0, I1, I6, I9, I16, I60, I99, I999, if_pos c, if_neg nb]
  · refine ⟨-1, h, h, ?_, ?_, hj⟩
    · unfold f_X5_person
      simp only [X5_isPerson, X6_isPerson, X5_isWithin, X6_in, a64, qb, one0, zero0, if_true, if_false, L0, L1, L2, L4, L5, L6, L9, L10, L15, L16, L60, L99, L999, I0, I1, I6, I9, I16, I60, I99, I999, if_neg c]
    · unfold f_X6_person
      simp only [X5_isPerson, X6_isPerson, X5_isWithin, X6_in, a64, qb, one0, zero0, if_true, if_false, L0, L1, L2, L4, L5, L6, L9, L10, L15, L16, L60, L99, L999, I0, I1, I6, I9, I16, I60, I99, I999, if_neg c]
