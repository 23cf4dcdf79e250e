/-! ===== pure 20: sheets ===== -/
def PS : Nat → Nat → Prop := fun a _ => (52 ≤ a ∧ a < 60) ∨ (76 ≤ a ∧ a < 80)
theorem J.sh {h h1 : qN} (hj : J h) (hs : JS h1) (o : Off PS h h1) : J h1 := by
  obtain ⟨c, g, wc, wg, rc, rg, rm, r6⟩ := hj.1
  refine ⟨⟨c, g, wc, wg, RC.off rc o (fun a k x y z => by unfold PS at z; omega), rg.off o (fun a k x y => by unfold PS at y; omega), RM.off rm o (fun a k x y => by unfold PM at x; unfold PS at y; omega), r6.off o (fun a k x y => by unfold PS at y; omega)⟩, hj.2.1.off o (fun a k x y => by unfold PS at y; omega), hj.2.2.1.off o (fun a k x y => by unfold PS at y; omega), hs⟩
/-- a sheet at i -/
def SHt (h : qN) (i : Nat) (b : Bool) (l n : Nat) : Prop := h (52 + 2 * i) 1 = nI b.toNat ∧ h (52 + 2 * i) 2 = nI l ∧ h (52 + 2 * i) 3 = nI n ∧ h 76 i = (if b = true then (-1 : Int32) else nI l) ∧ h 77 i = nI n ∧ ∀ k, k < 24 → h (52 + 2 * i + 1) k = h 78 (24 * i + k)
theorem JS.at {h : qN} (hs : JS h) {i : Nat} (hi : i < 4) : ∃ b l n, l < 3 ∧ n ≤ 24 ∧ SHt h i b l n := hs i hi
theorem JS.mk {h h1 : qN} (hs : JS h) {p : Nat} (hp4 : p < 4) {b : Bool} {l n : Nat} (hl : l < 3) (hn : n ≤ 24) (hp : SHt h1 p b l n) (o : Off (fun a k => a = 52 + 2 * p ∨ a = 52 + 2 * p + 1 ∨ ((a = 76 ∨ a = 77) ∧ k = p) ∨ (a = 78 ∧ 24 * p ≤ k ∧ k < 24 * p + 24) ∨ a = 79) h h1) : JS h1 := by
  intro i hi
  by_cases e : i = p
  · subst e; exact ⟨b, l, n, hl, hn, hp⟩
  · obtain ⟨b', l', n', a1, a2, a3, a4, a5, a6, a7, a8⟩ := hs i hi
    refine ⟨b', l', n', a1, a2, ?_, ?_, ?_, ?_, ?_, fun k hk => ?_⟩
    · rw [o _ _ (by omega)]; exact a3
    · rw [o _ _ (by omega)]; exact a4
    · rw [o _ _ (by omega)]; exact a5
    · rw [o _ _ (by omega)]; exact a6
    · rw [o _ _ (by omega)]; exact a7
    · rw [o _ _ (by omega), o _ _ (by omega)]; exact a8 k hk
theorem call_drop (a : Int32) {h : qN} (hj : J h) : OKC (f_X5_drop a) (f_X6_drop a) h := by
  by_cases c : 0 ≤ a.toInt ∧ a.toInt < 4
  · obtain ⟨p, hp, rfl, hp2⟩ := ofRange c
    have hc := nchk2 (j := p) (n := 4) (by omega) (by omega)
    obtain ⟨b, l, n, hl, hn, s1, s2, s3, s4, s5, s6⟩ := hj.2.2.2.at (show p < 4 by omega)
    cases b with
    | true =>
      refine ⟨-11, h, h, ?_, ?_, hj⟩
      · unfold f_X5_drop
        simp only [X5_isSheet, qb, if_pos c, one0, if_false, nI_clamp hp2, if_neg hc, s1, if_neg bT]
      · unfold f_X6_drop
        simp only [X6_isSheet, qb, if_pos c, one0, if_false, nI_clamp hp2, if_neg hc, s4, if_true]
        rw [if_neg (by decide)]
    | false =>
      have s4' : h 76 p = nI l := s4
      refine ⟨nI n, qup h (52 + 2 * p) 1 1, qup (qup h (52 + 2 * p) 1 1) 76 p (-1), ?_, ?_, ?_⟩
      · unfold f_X5_drop
        simp only [X5_isSheet, qb, if_pos c, one0, if_false, nI_clamp hp2, if_neg hc, s1, if_pos bF]
        simp only [qup, if_true, if_neg (show ¬ (3 : Nat) = 1 by omega), s3]
      · unfold f_X6_drop
        have q : (qup h (52 + 2 * p) 1 1) 76 p = nI l := by
          simp only [qup, if_neg (show ¬ 76 = 52 + 2 * p by omega)]; exact s4'
        simp only [X6_isSheet, qb, if_pos c, one0, if_false, nI_clamp hp2, if_neg hc, q, if_pos (nI_pos' (show l < 2 ^ 31 by omega))]
        have q2 : (qup (qup h (52 + 2 * p) 1 1) 76 p (-1)) 77 p = nI n := by
          simp only [qup, if_neg (show ¬ 77 = 52 + 2 * p by omega), if_neg (show ¬ (77 : Nat) = 76 by omega)]; exact s5
        rw [q2]
      · refine hj.sh (hj.2.2.2.mk (p := p) (show p < 4 by omega) (b := true) (l := l) (n := n) hl hn ⟨?_, ?_, ?_, ?_, ?_, fun k hk => ?_⟩ (Off.up (off_up (by omega)) (by omega))) (Off.up (off_up (by unfold PS; omega)) (by unfold PS; omega))
        · simp only [qup, if_true, if_neg (show ¬ 52 + 2 * p = 76 by omega)]; rfl
        · simp only [qup, if_true, if_neg (show ¬ 52 + 2 * p = 76 by omega), if_neg (show ¬ (2 : Nat) = 1 by omega)]; exact s2
        · simp only [qup, if_true, if_neg (show ¬ 52 + 2 * p = 76 by omega), if_neg (show ¬ (3 : Nat) = 1 by omega)]; exact s3
        · simp only [qup, if_true]
        · simp only [qup, if_neg (show ¬ 77 = 52 + 2 * p by omega), if_neg (show ¬ (77 : Nat) = 76 by omega)]; exact s5
        · simp only [qup, if_neg (show ¬ 52 + 2 * p + 1 = 76 by omega), if_neg (show ¬ 52 + 2 * p + 1 = 52 + 2 * p by omega), if_neg (show ¬ 78 = 52 + 2 * p by omega), if_neg (show ¬ (78 : Nat) = 76 by omega)]; exact s6 k hk
  · refine ⟨-1, h, h, ?_, ?_, hj⟩
    · unfold f_X5_drop
      simp only [X5_isSheet, qb, if_neg c, zero0, if_true]
    · unfold f_X6_drop
      simp only [X6_isSheet, qb, if_neg c, zero0, if_true]
theorem X2_begin_L {N t : Nat} (hN : 24 < N) (h : qN) : ∃ h1, f_X2_begin_L17 N t N (nI 0) h = some h1 ∧ (∀ k, k < 24 → h1 (t + 1) k = 0) ∧ Off (fun a _ => a = t + 1) h h1 := by
  obtain ⟨h1, a, b, c⟩ := loopV (F := f_X2_begin_L17 N t) (U := 24) (Inv := fun j h1 => (∀ k, k < j → h1 (t + 1) k = 0) ∧ Off (fun a _ => a = t + 1) h h1)
    (fun n h hi => by rw [f_X2_begin_L17.eq_2, if_pos (by decide)])
    (fun n j h2 hj hi => by
      have hc := nchk2 (j := j) (n := 24) hj (by omega)
      rw [f_X2_begin_L17.eq_2, k24, if_neg (nI_ge hj (by omega))]
      simp only [nI_clamp (show j < 2 ^ 31 by omega), if_neg hc, nI_1]
      refine ⟨_, rfl, fun k hk => ?_, Off.up hi.2 rfl⟩
      by_cases q : k = j
      · subst q; simp only [qup, if_true]
      · simp only [qup, if_true, if_neg q]; exact hi.1 k (by omega))
    24 0 N h (by omega) (by omega) ⟨fun k hk => by omega, Off.rf⟩
  exact ⟨h1, a, b, c⟩
theorem X6_sheet_L {N p : Nat} {x : Int32} (hp : p < 4) (hN : 24 < N) (h : qN) : ∃ h1, f_X6_sheet_L46 N (nI p) x N (nI 0) h = some h1 ∧ (∀ k, k < 24 → h1 78 (24 * p + k) = 0) ∧ Off (fun a k => a = 78 ∧ 24 * p ≤ k ∧ k < 24 * p + 24) h h1 := by
  obtain ⟨h1, a, b, c⟩ := loopV (F := f_X6_sheet_L46 N (nI p) x) (U := 24) (Inv := fun j h1 => (∀ k, k < j → h1 78 (24 * p + k) = 0) ∧ Off (fun a k => a = 78 ∧ 24 * p ≤ k ∧ k < 24 * p + 24) h h1)
    (fun n h hi => by rw [f_X6_sheet_L46.eq_2, if_pos (by decide)])
    (fun n j h2 hj hi => by
      have i1 : (24 : Int32) * nI p + nI j = nI (24 * p + j) := by rw [k24, pk_mul, nI_add]
      have hc := nchk2 (j := 24 * p + j) (n := 96) (by omega) (by omega)
      rw [f_X6_sheet_L46.eq_2, k24, if_neg (nI_ge hj (by omega)), ← k24]
      simp only [i1, nI_clamp (show 24 * p + j < 2 ^ 31 by omega), if_neg hc, nI_1]
      refine ⟨_, rfl, fun k hk => ?_, Off.up hi.2 (by omega)⟩
      by_cases q : k = j
      · subst q; simp only [qup, if_true]
      · simp only [qup, if_true, if_neg (show ¬ 24 * p + k = 24 * p + j by omega)]; exact hi.1 k (by omega))
    24 0 N h (by omega) (by omega) ⟨fun k hk => by omega, Off.rf⟩
  exact ⟨h1, a, b, c⟩
theorem call_sheet {N : Nat} (hN : 24 < N) (a b x : Int32) {h : qN} (hj : J h) : OKC (f_X5_sheet N a b x) (f_X6_sheet N a b x) h := by
  by_cases c : 0 ≤ a.toInt ∧ a.toInt < 4
  · by_cases cb : 0 ≤ b.toInt ∧ b.toInt < 3
    · by_cases x24 : x ≤ 24
      · by_cases x0 : 0 ≤ x
        · obtain ⟨p, hp, rfl, hp2⟩ := ofRange c
          obtain ⟨l, hl, rfl, hl2⟩ := ofRange cb
          have cx : 0 ≤ x.toInt ∧ x.toInt ≤ 24 := by
            rw [i_le] at x24 x0
            have e1 : (24 : Int32).toInt = 24 := rfl
            have e2 : (0 : Int32).toInt = 0 := rfl
            omega
          obtain ⟨n, hn, rfl, hn2⟩ := ofRangeLe cx
          have hc := nchk2 (j := p) (n := 4) (by omega) (by omega)
          obtain ⟨h1, a1, b1, c1⟩ := X2_begin_L (t := 52 + 2 * p) hN (qup (qup (qup h (52 + 2 * p) 1 0) (52 + 2 * p) 2 (nI l)) (52 + 2 * p) 3 (nI n))
          obtain ⟨h2, a2, b2, c2⟩ := X6_sheet_L (x := nI n) (show p < 4 by omega) hN (qup (qup h1 76 p (nI l)) 77 p (nI n))
          refine ⟨nI n, h1, h2, ?_, ?_, ?_⟩
          · unfold f_X5_sheet f_X2_begin
            simp only [X5_isSheet, X5_isLane, qb, if_pos c, if_pos cb, one0, if_false, if_pos x24, if_pos x0, nI_clamp hp2, if_neg hc]
            rw [show f_X2_begin_L17 N (52 + 2 * p) N 0 _ = _ from a1]
            rfl
          · unfold f_X6_sheet
            simp only [X6_isSheet, X6_isLane, qb, if_pos c, if_pos cb, one0, if_false, if_pos x24, if_pos x0, nI_clamp hp2, if_neg hc]
            rw [k0, a2, qb]
          · have e1 : ∀ k, k = 1 ∨ k = 2 ∨ k = 3 → h2 (52 + 2 * p) k = (qup (qup (qup h (52 + 2 * p) 1 0) (52 + 2 * p) 2 (nI l)) (52 + 2 * p) 3 (nI n)) (52 + 2 * p) k := by
              intro k hk
              have q : (qup (qup h1 76 p (nI l)) 77 p (nI n)) (52 + 2 * p) k = h1 (52 + 2 * p) k := by
                simp only [qup, if_neg (show ¬ 52 + 2 * p = 76 by omega), if_neg (show ¬ 52 + 2 * p = 77 by omega)]
              rw [c2 _ _ (by omega), q, c1 _ _ (by omega)]
            refine hj.sh (hj.2.2.2.mk (p := p) (show p < 4 by omega) (b := false) (l := l) (n := n) (by omega) (by omega) ⟨?_, ?_, ?_, ?_, ?_, fun k hk => ?_⟩ ?_) ?_
            · rw [e1 1 (by omega)]
              simp only [qup, if_true, if_neg (show ¬ (1 : Nat) = 3 by omega), if_neg (show ¬ (1 : Nat) = 2 by omega)]
              rfl
            · rw [e1 2 (by omega)]
              simp only [qup, if_true, if_neg (show ¬ (2 : Nat) = 3 by omega)]
            · rw [e1 3 (by omega)]
              simp only [qup, if_true]
            · rw [c2 _ _ (by omega)]
              simp only [qup, if_true, if_neg (show ¬ (76 : Nat) = 77 by omega)]
              rfl
            · rw [c2 _ _ (by omega)]
              simp only [qup, if_true]
            · rw [b2 k hk, c2 _ _ (by omega)]
              simp only [qup, if_neg (show ¬ 52 + 2 * p + 1 = 76 by omega), if_neg (show ¬ 52 + 2 * p + 1 = 77 by omega)]
              exact b1 k hk
            · exact Off.tr (Off.up (Off.up (Off.tr (Off.up (Off.up (off_up (by omega)) (by omega)) (by omega)) (c1.weaken (by omega))) (by omega)) (by omega)) (c2.weaken (by omega))
            · exact Off.tr (Off.up (Off.up (Off.tr (Off.up (Off.up (off_up (by unfold PS; omega)) (by unfold PS; omega)) (by unfold PS; omega)) (c1.weaken (fun a k x => by unfold PS; omega))) (by unfold PS; omega)) (by unfold PS; omega)) (c2.weaken (fun a k x => by unfold PS; omega))
        · refine ⟨-14, h, h, ?_, ?_, hj⟩
          · unfold f_X5_sheet
            simp only [X5_isSheet, X5_isLane, qb, if_pos c, if_pos cb, one0, if_false, if_pos x24, if_neg x0]
          · unfold f_X6_sheet
            simp only [X6_isSheet, X6_isLane, qb, if_pos c, if_pos cb, one0, if_false, if_pos x24, if_neg x0]
      · refine ⟨-1, h, h, ?_, ?_, hj⟩
        · unfold f_X5_sheet
          simp only [X5_isSheet, X5_isLane, qb, if_pos c, if_pos cb, one0, if_false, if_neg x24]
        · unfold f_X6_sheet
          simp only [X6_isSheet, X6_isLane, qb, if_pos c, if_pos cb, one0, if_false, if_neg x24]
    · refine ⟨-1, h, h, ?_, ?_, hj⟩
      · unfold f_X5_sheet
        simp only [X5_isSheet, X5_isLane, qb, if_pos c, if_neg cb, one0, zero0, if_true, if_false]
      · unfold f_X6_sheet
        simp only [X6_isSheet, X6_isLane, qb, if_pos c, if_neg cb, one0, zero0, if_true, if_false]
  · refine ⟨-1, h, h, ?_, ?_, hj⟩
    · unfold f_X5_sheet
      simp only [X5_isSheet, qb, if_neg c, zero0, if_true]
    · unfold f_X6_sheet
      simp only [X6_isSheet, qb, if_neg c, zero0, if_true]
/-! holds, finds -/
theorem X2_holds {t n : Nat} {h : qN} (h3 : h t 3 = nI n) (hn : n ≤ 24) (a k : Int32) : f_X2_holds t a k h = some ((if 0 ≤ a.toInt ∧ 0 ≤ k.toInt ∧ a.toInt + k.toInt ≤ n then (1 : Int32) else 0), h) := by
  unfold f_X2_holds
  rw [h3]
  simp only [i_lt, show (0 : Int32).toInt = 0 from rfl]
  by_cases c1 : a.toInt < 0
  · rw [if_pos c1, if_neg (by omega)]
  · rw [if_neg c1]
    by_cases c2 : k.toInt < 0
    · rw [if_pos c2, if_neg (by omega)]
    · rw [if_neg c2]
      have e : (nI n - k).toInt = (n : Int) - k.toInt := by
        rw [Int32.toInt_sub, nI_toInt (by omega)]
        have := Int32.toInt_lt k
        rw [Int.bmod_def]
        split <;> omega
      rw [e]
      by_cases c3 : (n : Int) - k.toInt < a.toInt
      · rw [if_pos c3, if_neg (by omega)]
      · rw [if_neg c3, if_pos (by omega)]
theorem lgle {x y : Int64} : lg_cmp x y ≤ 0 ↔ x.toInt ≤ y.toInt := by
  have h1 := lg_cmp_gt (x := x) (y := y)
  have : (lg_cmp x y ≤ 0) ↔ ¬ (0 < lg_cmp x y) := by rw [Int32.not_lt]
  rw [this, h1, Int64.lt_iff_toInt_lt]
  omega
theorem X6_finds {p l n : Nat} {h : qN} (hp : p < 4) (h76 : h 76 p = nI l) (h77 : h 77 p = nI n) (hl : l < 3) (hn : n ≤ 24) {b : Int32} (a k : Int32) (hk : 0 ≤ k.toInt) : f_X6_finds (nI p) b a k h = some ((if nI l = b then (if 0 ≤ a.toInt ∧ a.toInt + k.toInt ≤ n then (0 : Int32) else -13) else -12), h) := by
  have cp : (nI p).toNatClampNeg = p := nI_clamp (by omega)
  have hc := nchk2 (j := p) (n := 4) hp (by omega)
  unfold f_X6_finds
  simp only [cp, if_neg hc, h76, h77, if_pos (nI_pos' (show l < 2 ^ 31 by omega))]
  by_cases e : nI l = b
  · rw [if_pos e, if_pos e]
    simp only [i_lt, show (0 : Int32).toInt = 0 from rfl]
    by_cases c1 : a.toInt < 0
    · rw [if_pos c1, if_neg (by omega)]
    · rw [if_neg c1]
      have e2 : (a.toInt64 + k.toInt64).toInt = a.toInt + k.toInt := by
        rw [Int64.toInt_add, a64, a64]
        have h1 := Int32.toInt_lt a
        have h2 := Int32.toInt_lt k
        rw [Int.bmod_def]
        split <;> omega
      have e3 : (lg_cmp (a.toInt64 + k.toInt64) (nI n).toInt64 ≤ 0) = (a.toInt + k.toInt ≤ n) := propext (by rw [lgle, e2, a64, nI_toInt (by omega)])
      by_cases c3 : a.toInt + k.toInt ≤ n
      · rw [if_pos (by rw [e3]; exact c3), if_pos (by omega)]
      · rw [if_neg (by rw [e3]; exact c3), if_neg (by omega)]
  · rw [if_neg e, if_neg e]
theorem X6_finds11 {p : Nat} {h : qN} (hp : p < 4) (h76 : h 76 p = -1) (b a k : Int32) : f_X6_finds (nI p) b a k h = some (-11, h) := by
  have cp : (nI p).toNatClampNeg = p := nI_clamp (by omega)
  have hc := nchk2 (j := p) (n := 4) hp (by omega)
  unfold f_X6_finds
  simp only [cp, if_neg hc, h76]
  rw [if_neg (by decide)]
theorem X2_refuses {t l : Nat} {bb : Bool} {h : qN} (h1 : h t 1 = nI bb.toNat) (h2 : h t 2 = nI l) (b : Int32) : f_X2_refuses t b h = some ((if bb = true then (-11 : Int32) else if nI l = b then 0 else -12), h) := by
  unfold f_X2_refuses
  rw [h1, h2]
  cases bb with
  | true => rw [if_neg bT, if_pos rfl]
  | false =>
    rw [if_pos bF]
    by_cases e : nI l = b
    · rw [if_pos e]; simp [e]
    · rw [if_neg e]; simp [e]
theorem call_item (a b x z : Int32) {h : qN} (hj : J h) : OKC (f_X5_item a b x z) (f_X6_item a b x z) h := by
  by_cases c : 0 ≤ a.toInt ∧ a.toInt < 4
  · by_cases cb : 0 ≤ b.toInt ∧ b.toInt < 3
    · obtain ⟨p, hp, rfl, hp2⟩ := ofRange c
      have hp4 : p < 4 := by omega
      have cp : (nI p).toNatClampNeg = p := nI_clamp (by omega)
      have hc := nchk2 (j := p) (n := 4) hp4 (by omega)
      obtain ⟨bb, l, n, hl, hn, s1, s2, s3, s4, s5, s6⟩ := hj.2.2.2.at hp4
      cases bb with
      | true =>
        refine ⟨-11, h, h, ?_, ?_, hj⟩
        · unfold f_X5_item
          simp only [X5_isSheet, X5_isLane, qb, if_pos c, if_pos cb, one0, if_false, cp, if_neg hc, X2_refuses s1 s2, if_true]
          rw [if_neg (by decide)]
        · unfold f_X6_item
          simp only [X6_isSheet, X6_isLane, qb, if_pos c, if_pos cb, one0, if_false, X6_finds11 hp4 s4]
          rw [if_neg (by decide)]
      | false =>
        have s4' : h 76 p = nI l := s4
        have one : (1 : Int32).toInt = 1 := rfl
        have f6 := X6_finds (b := b) hp4 s4' s5 hl hn x 1 (by decide)
        by_cases el : nI l = b
        · by_cases cx : 0 ≤ x.toInt ∧ x.toInt + 1 ≤ n
          · have cx3 : 0 ≤ x.toInt ∧ (0 : Int) ≤ 1 ∧ x.toInt + 1 ≤ n := by omega
            rw [one, if_pos el, if_pos cx] at f6
            obtain ⟨q, hq, rfl, hq2⟩ := ofRange (a := x) (n := 24) (by omega)
            subst el
            have cq : (nI q).toNatClampNeg = q := nI_clamp (by omega)
            have hcq := nchk2 (j := q) (n := 24) (by omega) (by omega)
            have i1 : (24 : Int32) * nI p + nI q = nI (24 * p + q) := by rw [k24, pk_mul, nI_add]
            have ci : (nI (24 * p + q)).toNatClampNeg = 24 * p + q := nI_clamp (by omega)
            have hci := nchk2 (j := 24 * p + q) (n := 96) (by omega) (by omega)
            have key : ∀ v, f_X2_lowestBits (nI l) z h = some (v, h) → (f_X6_item (nI p) (nI l) (nI q) z (qup h (52 + 2 * p + 1) q v) = some (1, qup (qup h (52 + 2 * p + 1) q v) 78 (24 * p + q) v)) → OKC (f_X5_item (nI p) (nI l) (nI q) z) (f_X6_item (nI p) (nI l) (nI q) z) h := by
              intro v hv h6
              refine ⟨1, _, _, ?_, h6, ?_⟩
              · unfold f_X5_item
                simp only [X5_isSheet, X5_isLane, qb, if_pos c, if_pos cb, one0, if_false, cp, if_neg hc, X2_refuses s1 s2, Bool.false_eq_true, if_true, X2_holds s3 hn, one, if_pos cx3, hv, cq, if_neg hcq]
              · refine hj.sh (hj.2.2.2.mk (p := p) (show p < 4 by omega) (b := false) (l := l) (n := n) hl hn ⟨?_, ?_, ?_, ?_, ?_, fun k hk => ?_⟩ (Off.up (off_up (by omega)) (by omega))) (Off.up (off_up (by unfold PS; omega)) (by unfold PS; omega))
                · simp only [qup, if_neg (show ¬ 52 + 2 * p = 78 by omega), if_neg (show ¬ 52 + 2 * p = 52 + 2 * p + 1 by omega)]; exact s1
                · simp only [qup, if_neg (show ¬ 52 + 2 * p = 78 by omega), if_neg (show ¬ 52 + 2 * p = 52 + 2 * p + 1 by omega)]; exact s2
                · simp only [qup, if_neg (show ¬ 52 + 2 * p = 78 by omega), if_neg (show ¬ 52 + 2 * p = 52 + 2 * p + 1 by omega)]; exact s3
                · simp only [qup, if_neg (show ¬ (76 : Nat) = 78 by omega), if_neg (show ¬ 76 = 52 + 2 * p + 1 by omega)]; exact s4
                · simp only [qup, if_neg (show ¬ (77 : Nat) = 78 by omega), if_neg (show ¬ 77 = 52 + 2 * p + 1 by omega)]; exact s5
                · simp only [qup, if_true, if_neg (show ¬ 52 + 2 * p + 1 = 78 by omega), if_neg (show ¬ 78 = 52 + 2 * p + 1 by omega)]
                  by_cases e : k = q
                  · rw [if_pos e, if_pos (by omega)]
                  · rw [if_neg e, if_neg (by omega)]; exact s6 k hk
            have fr : ∀ v, f_X6_finds (nI p) (nI l) (nI q) 1 (qup h (52 + 2 * p + 1) q v) = some (0, qup h (52 + 2 * p + 1) q v) := by
              intro v
              have := X6_finds (h := qup h (52 + 2 * p + 1) q v) (b := nI l) hp4 (by simp only [qup, if_neg (show ¬ 76 = 52 + 2 * p + 1 by omega)]; exact s4') (by simp only [qup, if_neg (show ¬ 77 = 52 + 2 * p + 1 by omega)]; exact s5) hl hn (nI q) 1 (by decide)
              rw [this, one, if_pos rfl, if_pos cx]
            rcases (show l = 0 ∨ l = 1 ∨ l = 2 by omega) with rfl | rfl | rfl
            · refine key z.toInt8.toInt32 (by unfold f_X2_lowestBits; simp only [ne_m2_m2, ne_m2_m1, ne_m2_0, ne_m2_1, ne_m2_2, ne_m2_3, ne_m2_4, ne_m1_m2, ne_m1_m1, ne_m1_0, ne_m1_1, ne_m1_2, ne_m1_3, ne_m1_4, ne_0_m2, ne_0_m1, ne_0_0, ne_0_1, ne_0_2, ne_0_3, ne_0_4, ne_1_m2, ne_1_m1, ne_1_0, ne_1_1, ne_1_2, ne_1_3, ne_1_4, ne_2_m2, ne_2_m1, ne_2_0, ne_2_1, ne_2_2, ne_2_3, ne_2_4, ne_3_m2, ne_3_m1, ne_3_0, ne_3_1, ne_3_2, ne_3_3, ne_3_4, ne_4_m2, ne_4_m1, ne_4_0, ne_4_1, ne_4_2, ne_4_3, ne_4_4, nn_0_m2, nn_0_m1, nn_0_0, nn_0_1, nn_0_2, nn_0_3, nn_0_4, nn_1_m2, nn_1_m1, nn_1_0, nn_1_1, nn_1_2, nn_1_3, nn_1_4, nn_2_m2, nn_2_m1, nn_2_0, nn_2_1, nn_2_2, nn_2_3, nn_2_4, nn_3_m2, nn_3_m1, nn_3_0, nn_3_1, nn_3_2, nn_3_3, nn_3_4, nn_4_m2, nn_4_m1, nn_4_0, nn_4_1, nn_4_2, nn_4_3, nn_4_4, if_true]) ?_
              unfold f_X6_item
              simp only [X6_isSheet, X6_isLane, qb, if_pos c, if_pos cb, one0, if_false, fr, if_pos (show (0 : Int32) ≤ 0 by decide), ne_m2_m2, ne_m2_m1, ne_m2_0, ne_m2_1, ne_m2_2, ne_m2_3, ne_m2_4, ne_m1_m2, ne_m1_m1, ne_m1_0, ne_m1_1, ne_m1_2, ne_m1_3, ne_m1_4, ne_0_m2, ne_0_m1, ne_0_0, ne_0_1, ne_0_2, ne_0_3, ne_0_4, ne_1_m2, ne_1_m1, ne_1_0, ne_1_1, ne_1_2, ne_1_3, ne_1_4, ne_2_m2, ne_2_m1, ne_2_0, ne_2_1, ne_2_2, ne_2_3, ne_2_4, ne_3_m2, ne_3_m1, ne_3_0, ne_3_1, ne_3_2, ne_3_3, ne_3_4, ne_4_m2, ne_4_m1, ne_4_0, ne_4_1, ne_4_2, ne_4_3, ne_4_4, nn_0_m2, nn_0_m1, nn_0_0, nn_0_1, nn_0_2, nn_0_3, nn_0_4, nn_1_m2, nn_1_m1, nn_1_0, nn_1_1, nn_1_2, nn_1_3, nn_1_4, nn_2_m2, nn_2_m1, nn_2_0, nn_2_1, nn_2_2, nn_2_3, nn_2_4, nn_3_m2, nn_3_m1, nn_3_0, nn_3_1, nn_3_2, nn_3_3, nn_3_4, nn_4_m2, nn_4_m1, nn_4_0, nn_4_1, nn_4_2, nn_4_3, nn_4_4, if_true, i1, ci, if_neg hci]
            · refine key z.toInt16.toInt32 (by unfold f_X2_lowestBits; simp only [ne_m2_m2, ne_m2_m1, ne_m2_0, ne_m2_1, ne_m2_2, ne_m2_3, ne_m2_4, ne_m1_m2, ne_m1_m1, ne_m1_0, ne_m1_1, ne_m1_2, ne_m1_3, ne_m1_4, ne_0_m2, ne_0_m1, ne_0_0, ne_0_1, ne_0_2, ne_0_3, ne_0_4, ne_1_m2, ne_1_m1, ne_1_0, ne_1_1, ne_1_2, ne_1_3, ne_1_4, ne_2_m2, ne_2_m1, ne_2_0, ne_2_1, ne_2_2, ne_2_3, ne_2_4, ne_3_m2, ne_3_m1, ne_3_0, ne_3_1, ne_3_2, ne_3_3, ne_3_4, ne_4_m2, ne_4_m1, ne_4_0, ne_4_1, ne_4_2, ne_4_3, ne_4_4, nn_0_m2, nn_0_m1, nn_0_0, nn_0_1, nn_0_2, nn_0_3, nn_0_4, nn_1_m2, nn_1_m1, nn_1_0, nn_1_1, nn_1_2, nn_1_3, nn_1_4, nn_2_m2, nn_2_m1, nn_2_0, nn_2_1, nn_2_2, nn_2_3, nn_2_4, nn_3_m2, nn_3_m1, nn_3_0, nn_3_1, nn_3_2, nn_3_3, nn_3_4, nn_4_m2, nn_4_m1, nn_4_0, nn_4_1, nn_4_2, nn_4_3, nn_4_4, if_true, if_false]) ?_
              unfold f_X6_item
              simp only [X6_isSheet, X6_isLane, qb, if_pos c, if_pos cb, one0, if_false, fr, if_pos (show (0 : Int32) ≤ 0 by decide), ne_m2_m2, ne_m2_m1, ne_m2_0, ne_m2_1, ne_m2_2, ne_m2_3, ne_m2_4, ne_m1_m2, ne_m1_m1, ne_m1_0, ne_m1_1, ne_m1_2, ne_m1_3, ne_m1_4, ne_0_m2, ne_0_m1, ne_0_0, ne_0_1, ne_0_2, ne_0_3, ne_0_4, ne_1_m2, ne_1_m1, ne_1_0, ne_1_1, ne_1_2, ne_1_3, ne_1_4, ne_2_m2, ne_2_m1, ne_2_0, ne_2_1, ne_2_2, ne_2_3, ne_2_4, ne_3_m2, ne_3_m1, ne_3_0, ne_3_1, ne_3_2, ne_3_3, ne_3_4, ne_4_m2, ne_4_m1, ne_4_0, ne_4_1, ne_4_2, ne_4_3, ne_4_4, nn_0_m2, nn_0_m1, nn_0_0, nn_0_1, nn_0_2, nn_0_3, nn_0_4, nn_1_m2, nn_1_m1, nn_1_0, nn_1_1, nn_1_2, nn_1_3, nn_1_4, nn_2_m2, nn_2_m1, nn_2_0, nn_2_1, nn_2_2, nn_2_3, nn_2_4, nn_3_m2, nn_3_m1, nn_3_0, nn_3_1, nn_3_2, nn_3_3, nn_3_4, nn_4_m2, nn_4_m1, nn_4_0, nn_4_1, nn_4_2, nn_4_3, nn_4_4, if_true, i1, ci, if_neg hci]
            · refine key z (by unfold f_X2_lowestBits; simp only [ne_m2_m2, ne_m2_m1, ne_m2_0, ne_m2_1, ne_m2_2, ne_m2_3, ne_m2_4, ne_m1_m2, ne_m1_m1, ne_m1_0, ne_m1_1, ne_m1_2, ne_m1_3, ne_m1_4, ne_0_m2, ne_0_m1, ne_0_0, ne_0_1, ne_0_2, ne_0_3, ne_0_4, ne_1_m2, ne_1_m1, ne_1_0, ne_1_1, ne_1_2, ne_1_3, ne_1_4, ne_2_m2, ne_2_m1, ne_2_0, ne_2_1, ne_2_2, ne_2_3, ne_2_4, ne_3_m2, ne_3_m1, ne_3_0, ne_3_1, ne_3_2, ne_3_3, ne_3_4, ne_4_m2, ne_4_m1, ne_4_0, ne_4_1, ne_4_2, ne_4_3, ne_4_4, nn_0_m2, nn_0_m1, nn_0_0, nn_0_1, nn_0_2, nn_0_3, nn_0_4, nn_1_m2, nn_1_m1, nn_1_0, nn_1_1, nn_1_2, nn_1_3, nn_1_4, nn_2_m2, nn_2_m1, nn_2_0, nn_2_1, nn_2_2, nn_2_3, nn_2_4, nn_3_m2, nn_3_m1, nn_3_0, nn_3_1, nn_3_2, nn_3_3, nn_3_4, nn_4_m2, nn_4_m1, nn_4_0, nn_4_1, nn_4_2, nn_4_3, nn_4_4, if_false]) ?_
              unfold f_X6_item
              simp only [X6_isSheet, X6_isLane, qb, if_pos c, if_pos cb, one0, if_false, fr, if_pos (show (0 : Int32) ≤ 0 by decide), ne_m2_m2, ne_m2_m1, ne_m2_0, ne_m2_1, ne_m2_2, ne_m2_3, ne_m2_4, ne_m1_m2, ne_m1_m1, ne_m1_0, ne_m1_1, ne_m1_2, ne_m1_3, ne_m1_4, ne_0_m2, ne_0_m1, ne_0_0, ne_0_1, ne_0_2, ne_0_3, ne_0_4, ne_1_m2, ne_1_m1, ne_1_0, ne_1_1, ne_1_2, ne_1_3, ne_1_4, ne_2_m2, ne_2_m1, ne_2_0, ne_2_1, ne_2_2, ne_2_3, ne_2_4, ne_3_m2, ne_3_m1, ne_3_0, ne_3_1, ne_3_2, ne_3_3, ne_3_4, ne_4_m2, ne_4_m1, ne_4_0, ne_4_1, ne_4_2, ne_4_3, ne_4_4, nn_0_m2, nn_0_m1, nn_0_0, nn_0_1, nn_0_2, nn_0_3, nn_0_4, nn_1_m2, nn_1_m1, nn_1_0, nn_1_1, nn_1_2, nn_1_3, nn_1_4, nn_2_m2, nn_2_m1, nn_2_0, nn_2_1, nn_2_2, nn_2_3, nn_2_4, nn_3_m2, nn_3_m1, nn_3_0, nn_3_1, nn_3_2, nn_3_3, nn_3_4, nn_4_m2, nn_4_m1, nn_4_0, nn_4_1, nn_4_2, nn_4_3, nn_4_4, i1, ci, if_neg hci]
          · have cx3 : ¬ (0 ≤ x.toInt ∧ (0 : Int) ≤ 1 ∧ x.toInt + 1 ≤ n) := by omega
            rw [one, if_pos el, if_neg cx] at f6
            refine ⟨-13, h, h, ?_, ?_, hj⟩
            · unfold f_X5_item
              simp only [X5_isSheet, X5_isLane, qb, if_pos c, if_pos cb, one0, zero0, if_false, cp, if_neg hc, X2_refuses s1 s2, Bool.false_eq_true, if_pos el, if_true, X2_holds s3 hn, one, if_neg cx3]
            · unfold f_X6_item
              simp only [X6_isSheet, X6_isLane, qb, if_pos c, if_pos cb, one0, if_false, f6]
              rw [if_neg (by decide)]
        · rw [if_neg el] at f6
          refine ⟨-12, h, h, ?_, ?_, hj⟩
          · unfold f_X5_item
            simp only [X5_isSheet, X5_isLane, qb, if_pos c, if_pos cb, one0, if_false, cp, if_neg hc, X2_refuses s1 s2, Bool.false_eq_true, if_neg el]
            rw [if_neg (by decide)]
          · unfold f_X6_item
            simp only [X6_isSheet, X6_isLane, qb, if_pos c, if_pos cb, one0, if_false, f6]
            rw [if_neg (by decide)]
    · refine ⟨-1, h, h, ?_, ?_, hj⟩
      · unfold f_X5_item
        simp only [X5_isSheet, X5_isLane, qb, if_pos c, if_neg cb, one0, zero0, if_true, if_false]
      · unfold f_X6_item
        simp only [X6_isSheet, X6_isLane, qb, if_pos c, if_neg cb, one0, zero0, if_true, if_false]
  · refine ⟨-1, h, h, ?_, ?_, hj⟩
    · unfold f_X5_item
      simp only [X5_isSheet, qb, if_neg c, zero0, if_true]
    · unfold f_X6_item
      simp only [X6_isSheet, qb, if_neg c, zero0, if_true]
