/-! ===== pure 33: best ===== -/
section Best55
variable {N : Nat}
def PW1 : Nat → Nat → Prop := fun a k => (38 ≤ a ∧ a < 48) ∨ (a = 26 ∧ 1 ≤ k) ∨ PWg a k
theorem PSt1_W : ∀ a k, PSt 1 a k → PW1 a k := fun a k x => by unfold PSt PC at x; unfold PW1; omega
theorem RG1.pw1 {g : Gt} {h h1 : qN} (hr : RG1 1 g h) (hh : Off PW1 h h1) : RG1 1 g h1 := hr.off hh (fun a k x y => by unfold PW1 PWg at y; omega)
theorem X1_wr1 {c : Ct} {g : Gt} {ys d n : Nat} {h : qN} (wc : WCt c) (wg : WGt g) (hN : 12 < N) (hy : ys ≤ 9) (hd : d < 6 * c.2.2.2.2.1) (hs : sS c (d / 6)) (hne : c.1 (d / 6) ≠ d % 6)
    (hr : RCt (28 + 5 * 1) (mvC c (d / 6) (d % 6)) h) (hg : RG1 1 g h) (h26 : h 26 0 = nI (enc d)) (hB : SB c g ys (V0 c (d + 1) (d * (6 * c.2.2.2.2.1))) h) :
    ∃ h1, f_X1_weighRows N (n + 2) (nI 1) 8 6 (nI ys) h = some h1 ∧ SB c g ys (V0 c (d + 1) ((d + 1) * (6 * c.2.2.2.2.1))) h1 ∧ Off PW1 h h1 := by
  have hT : c.2.2.2.2.1 ≤ 8 := wc.1.1
  have wc1 : WCt (mvC c (d / 6) (d % 6)) := wc.mv (dig_t hd).1 (by omega)
  have hT1 : (mvC c (d / 6) (d % 6)).2.2.2.2.1 = c.2.2.2.2.1 := rfl
  obtain ⟨h1, a1, i1⟩ := X1_wr_L9 (N := N) (st := 1) (ys := ys) (rec := f_X1_weighRows N (n + 1)) (c := mvC c (d / 6) (d % 6))
    (I := fun e h' => RCt (28 + 5 * 1) (mvC c (d / 6) (d % 6)) h' ∧ RG1 1 g h' ∧ h' 26 0 = nI (enc d) ∧ SB c g ys (V0 c (d + 1) (d * (6 * c.2.2.2.2.1) + min e (6 * c.2.2.2.2.1))) h' ∧ Off PW1 h h') wc1 hN (by omega)
    (fun e h' hi => hi.1)
    (fun e h' he hi hno => by
      obtain ⟨i1, i2, i3, i4, i5⟩ := hi
      refine ⟨i1, i2, i3, ?_, i5⟩
      by_cases q : 6 * c.2.2.2.2.1 ≤ e
      · rw [show min (e + 1) (6 * c.2.2.2.2.1) = min e (6 * c.2.2.2.2.1) by omega]; exact i4
      · refine i4.congr (fun m w => ?_)
        rw [show min (e + 1) (6 * c.2.2.2.2.1) = e + 1 by omega, show min e (6 * c.2.2.2.2.1) = e by omega]
        unfold V0
        constructor
        · rintro ⟨q1, q2, q3⟩; exact ⟨q1, q2, by omega⟩
        · rintro ⟨q1, q2, q3⟩
          refine ⟨q1, q2, ?_⟩
          rcases q3 with q3 | q3 | ⟨rfl, q4⟩
          · exact Or.inl q3
          · exact Or.inr (Or.inl q3)
          · refine Or.inr (Or.inr ⟨rfl, ?_⟩)
            have : w ≠ d * (6 * c.2.2.2.2.1) + e := by
              intro z
              rw [z] at q2
              have z2 := vS1.mp ((vS2 (by omega)).mp q2).2.2
              rcases hno with hno | hno
              · exact hno z2.1
              · exact z2.2 hno
            omega)
    (fun e h' h1 he hi hs1 hn1 hr1 he1 ho1 => by
      obtain ⟨i1, i2, i3, i4, i5⟩ := hi
      have heT := sS_T wc1 (show e / 6 < 8 by omega) hs1
      have heD : e < 6 * c.2.2.2.2.1 := by rw [hT1] at heT; omega
      have g1 := i2.pw1 (ho1.weaken PSt1_W)
      have e26 : h1 26 0 = nI (enc d) := by rw [ho1 26 0 (by unfold PSt PC; omega)]; exact i3
      have B1 : SB c g ys (V0 c (d + 1) (d * (6 * c.2.2.2.2.1) + min e (6 * c.2.2.2.2.1))) h1 := i4.off ho1 (fun a k x y => by unfold PSt PC at y; omega)
      have dl : d * (6 * c.2.2.2.2.1) + e < (6 * c.2.2.2.2.1) ^ 2 := by
        have := dig_lt (l := 1) (w := e) hd (by rw [Nat.pow_one]; exact heD)
        rw [Nat.pow_one] at this
        exact this
      obtain ⟨n1, n2⟩ := dgN2 hd heD
      obtain ⟨h2, a2, b2, o2⟩ := X1_weigh (N := N) (m := 2) (w := d * (6 * c.2.2.2.2.1) + e) (W := V0 c (d + 1) (d * (6 * c.2.2.2.2.1) + min (e + 1) (6 * c.2.2.2.2.1))) wc wg hN hy (by omega) dl (by rw [eC2 heD]; exact hr1) g1
        (fun i hi => by
          rcases (show i = 0 ∨ i = 1 by omega) with rfl | rfl
          · rw [n1]; exact e26
          · rw [n2]; exact he1) B1
        (fun a b => by
          rw [show min (e + 1) (6 * c.2.2.2.2.1) = e + 1 by omega, show min e (6 * c.2.2.2.2.1) = e by omega]
          unfold V0
          constructor
          · rintro ⟨q1, q2, q3⟩
            by_cases q : a = 2 ∧ b = d * (6 * c.2.2.2.2.1) + e
            · exact Or.inr q
            · exact Or.inl ⟨q1, q2, by omega⟩
          · rintro (⟨q1, q2, q3⟩ | ⟨rfl, rfl⟩)
            · exact ⟨q1, q2, by omega⟩
            · exact ⟨dl, (vS2 heD).mpr ⟨hs, hne, vS1.mpr ⟨hs1, hn1⟩⟩, by omega⟩)
        (fun b hb => by have := hb.2.2; omega)
      have o12 : Off PW1 h' h2 := (ho1.weaken PSt1_W).tr (o2.weaken (fun a k x => Or.inr (Or.inr x)))
      refine ⟨h2, h2, a2, ?_, RC.off (RC.off i1 ho1 (fun a k x y z => by unfold PSt PC at z; omega)) o2 (fun a k x y z => by unfold PWg at z; omega), i2.pw1 o12, by rw [o2 26 0 (by unfold PWg; omega)]; exact e26, b2, i5.tr o12⟩
      rw [f_X1_weighRows.eq_2, if_neg (by decide)])
    8 0 N h (by omega) (by omega) ⟨hr, hg, h26, by rw [show min (6 * 0) (6 * c.2.2.2.2.1) = 0 by omega, Nat.add_zero]; exact hB, Off.rf⟩
  refine ⟨h1, ?_, ?_, i1.2.2.2.2⟩
  · rw [f_X1_weighRows.eq_2, if_pos (by decide), k0, a1, qb]
  · have := i1.2.2.2.1
    rw [show d * (6 * c.2.2.2.2.1) + min 48 (6 * c.2.2.2.2.1) = (d + 1) * (6 * c.2.2.2.2.1) by rw [Nat.add_mul]; omega] at this
    exact this
theorem X1_wr0 {c : Ct} {g : Gt} {ys n : Nat} {h : qN} (wc : WCt c) (wg : WGt g) (hN : 12 < N) (hy : ys ≤ 9) (hr : RCt 28 c h) (hg : RG1 1 g h) (hB : SB c g ys (V0 c 0 0) h) :
    ∃ h1, f_X1_weighRows N (n + 3) 0 8 6 (nI ys) h = some h1 ∧ SB c g ys (V0 c 48 (48 * (6 * c.2.2.2.2.1))) h1 ∧ Off PSr h h1 := by
  have hT : c.2.2.2.2.1 ≤ 8 := wc.1.1
  obtain ⟨h1, a1, i1⟩ := X1_wr_L9 (N := N) (st := 0) (ys := ys) (rec := f_X1_weighRows N (n + 2)) (c := c)
    (I := fun d h' => RCt (28 + 5 * 0) c h' ∧ RG1 1 g h' ∧ SB c g ys (V0 c d (d * (6 * c.2.2.2.2.1))) h' ∧ Off PSr h h') wc hN (by omega)
    (fun d h' hi => hi.1)
    (fun d h' hd hi hno => by
      obtain ⟨i1, i2, i4, i5⟩ := hi
      refine ⟨i1, i2, i4.congr (fun m w => ?_), i5⟩
      unfold V0
      constructor
      · rintro ⟨q1, q2, q3⟩
        refine ⟨q1, q2, ?_⟩
        have : (d + 1) * (6 * c.2.2.2.2.1) = d * (6 * c.2.2.2.2.1) + 6 * c.2.2.2.2.1 := by rw [Nat.add_mul, Nat.one_mul]
        omega
      · rintro ⟨q1, q2, q3⟩
        refine ⟨q1, q2, ?_⟩
        rcases q3 with q3 | ⟨rfl, q4⟩ | ⟨rfl, q4⟩
        · exact Or.inl q3
        · refine Or.inr (Or.inl ⟨rfl, ?_⟩)
          have : w ≠ d := by
            intro z
            rw [z] at q2
            have z2 := vS1.mp q2
            rcases hno with hno | hno
            · exact hno z2.1
            · exact z2.2 hno
          omega
        · refine Or.inr (Or.inr ⟨rfl, ?_⟩)
          apply Classical.byContradiction
          intro q
          obtain ⟨z1, z2, z3⟩ := dig_at (d := d) (P := 6 * c.2.2.2.2.1) (v := w) (by omega) q4
          rw [z3] at q2
          have z4 := (vS2 z2).mp q2
          rcases hno with hno | hno
          · exact hno z4.1
          · exact z4.2.1 hno)
    (fun d h' h1 hd hi hs1 hn1 hr1 he1 ho1 => by
      obtain ⟨i1, i2, i4, i5⟩ := hi
      have hdT := sS_T wc (show d / 6 < 8 by omega) hs1
      have hdD : d < 6 * c.2.2.2.2.1 := by omega
      have g1 : RG1 1 g h1 := i2.off ho1 (fun a k x y => by unfold PSt PC at y; omega)
      have B1 : SB c g ys (V0 c d (d * (6 * c.2.2.2.2.1))) h1 := i4.off ho1 (fun a k x y => by unfold PSt PC at y; omega)
      obtain ⟨h2, a2, b2, o2⟩ := X1_weigh (N := N) (m := 1) (w := d) (W := V0 c (d + 1) (d * (6 * c.2.2.2.2.1))) wc wg hN hy (by omega) (by rw [Nat.pow_one]; exact hdD) (by rw [eC1]; exact hr1) g1
        (fun i hi => by
          have : i = 0 := by omega
          subst this
          rw [dgN1 hdD]; exact he1) B1
        (fun a b => by
          unfold V0
          constructor
          · rintro ⟨q1, q2, q3⟩
            by_cases q : a = 1 ∧ b = d
            · exact Or.inr q
            · exact Or.inl ⟨q1, q2, by omega⟩
          · rintro (⟨q1, q2, q3⟩ | ⟨rfl, rfl⟩)
            · exact ⟨q1, q2, by omega⟩
            · exact ⟨by rw [Nat.pow_one]; exact hdD, vS1.mpr ⟨hs1, hn1⟩, by omega⟩)
        (fun b hb => by have := hb.2.2; omega)
      obtain ⟨h3, a3, b3, o3⟩ := X1_wr1 (N := N) (n := n) wc wg hN hy hdD hs1 hn1 (RC.off hr1 o2 (fun a k x y z => by unfold PWg at z; omega)) (g1.off o2 (fun a k x y => by unfold PWg at y; omega)) (by rw [o2 26 0 (by unfold PWg; omega)]; exact he1) b2
      have oo : Off PSr h' h3 := (ho1.weaken (fun a k x => by unfold PSt PC at x; unfold PSr PE; omega)).tr ((o2.weaken (fun a k x => by unfold PWg at x; unfold PSr; omega)).tr (o3.weaken (fun a k x => by unfold PW1 PWg at x; unfold PSr PE; omega)))
      exact ⟨h2, h3, a2, a3, RCt.psr i1 oo, i2.off oo (fun a k x y => by unfold PSr PE at y; omega), b3, i5.tr oo⟩)
    8 0 N h (by omega) (by omega) ⟨hr, hg, by rw [show 6 * 0 = 0 from rfl, Nat.zero_mul]; exact hB, Off.rf⟩
  refine ⟨h1, ?_, i1.2.2.1, i1.2.2.2⟩
  rw [f_X1_weighRows.eq_2, if_pos (by decide), k0, a1, qb]
theorem X1_seekBest_ok {c : Ct} {g : Gt} {ys : Nat} {h : qN} (wc : WCt c) (wg : WGt g) (hN : 12 < N) (hy : ys ≤ 9) (hr : RCt 2 c h) (hg : RG1 1 g h) :
    ∃ n v h1, f_X1_seekBest N 2 8 6 (nI ys) h = some h1 ∧ n ≤ 2 ∧ v < (6 * c.2.2.2.2.1) ^ n ∧ BI c g ys (V0 c 48 (48 * (6 * c.2.2.2.2.1))) n v ∧ h1 24 4 = nI (smC c g ys n v) ∧ h1 24 3 = nI n ∧ (∀ i, i < n → h1 27 i = nI (enc (dgN (6 * c.2.2.2.2.1) n v i))) ∧ Off (fun a _ => 19 ≤ a ∧ a < 48) h h1 := by
  obtain ⟨h1, a1, b1, o1⟩ := X0_becomeC (o := 28) (r1 := 2) (by omega) hr
  have r1 : RCt 2 c h1 := RC.off hr o1 (fun a k x y z => by unfold PC at z; omega)
  have g1 : RG1 1 g h1 := hg.off o1 (fun a k x y => by unfold PC at y; omega)
  have cw : nI (cstC c g) * nI ys = nI (smC c g ys 0 0) := by rw [pk_mul]; rfl
  obtain ⟨h2, hh2⟩ : ∃ h2, qup (qup h1 24 4 (nI (smC c g ys 0 0))) 24 3 0 = h2 := ⟨_, rfl⟩
  have o2 : Off PWg h1 h2 := by rw [← hh2]; exact Off.up (off_up (by unfold PWg; omega)) (by unfold PWg; omega)
  obtain ⟨h3, a3, ⟨n, v, x1, x2, x3, x4, x5, x6⟩, o3⟩ := X1_wr0 (N := N) (n := 7) (g := g) (ys := ys) wc wg hN hy (RC.off b1 o2 (fun a k x y z => by unfold PWg at z; omega)) (g1.off o2 (fun a k x y => by unfold PWg at y; omega))
    ⟨0, 0, by omega, by simp, ⟨⟨by simp, trivial, by omega⟩, fun m w hmw => by
      have : m = 0 := by have := hmw.2.2; omega
      subst this
      have : w = 0 := by have := hmw.1; rw [Nat.pow_zero] at this; omega
      subst this
      unfold leB
      omega⟩, by rw [← hh2]; simp [qup], by rw [← hh2]; simp [qup]; rfl, fun i hi => by omega⟩
  refine ⟨n, v, h3, ?_, x1, x2, x3, x4, x5, x6, (o1.weaken (fun a k x => by unfold PC at x; omega)).tr ((o2.weaken (fun a k x => by unfold PWg at x; omega)).tr (o3.weaken (fun a k x => by unfold PSr PE at x; omega)))⟩
  unfold f_X1_seekBest
  rw [a1, qb, X0_costOfAll wc hN r1 g1, qb]
  dsimp only
  rw [cw, hh2, a3, qb]
theorem call_best (hN : 110600 < N) (a b : Int32) {h : qN} (hj : J h) : OKC (f_X5_best N a b) (f_X6_best N a b) h := by
  obtain ⟨c, g, wc, wg, rc, rg, rm, r6⟩ := hj.1
  have e1 : (1 : Int32).toInt = 1 := rfl
  have e9 : (9 : Int32).toInt = 9 := rfl
  have em2 : (-2 : Int32).toInt = -2 := rfl
  have em1 : (-1 : Int32).toInt = -1 := rfl
  have e2 : (2 : Int32).toInt = 2 := rfl
  have l1 : (1 : Int64).toInt = 1 := rfl
  have l9 : (9 : Int64).toInt = 9 := rfl
  have lm2 : (-2 : Int64).toInt = -2 := rfl
  by_cases ca : 1 ≤ a.toInt ∧ a.toInt ≤ 9
  · have ca1 : ¬ a < (1 : Int32) := by rw [i_lt, e1]; omega
    have ca9 : ¬ (9 : Int32) < a := by rw [i_lt, e9]; omega
    have ca6 : (1 : Int64).toInt ≤ a.toInt ∧ a.toInt ≤ (9 : Int64).toInt := by rw [l1, l9]; exact ca
    by_cases cb : -2 ≤ b.toInt ∧ b.toInt ≤ 1
    · have cb1 : ¬ b < (-2 : Int32) := by rw [i_lt, em2]; omega
      have cb2 : b < (2 : Int32) := by rw [i_lt, e2]; omega
      have cb6 : (-2 : Int64).toInt ≤ b.toInt ∧ b.toInt ≤ (1 : Int64).toInt := by rw [lm2, l1]; exact cb
      obtain ⟨ys, hys, rfl, hys2⟩ := ofRangeLe (a := a) (n := 9) (by omega)
      have hys9 : ys ≤ 9 := by omega
      obtain ⟨n, v, h1, a1, x1, x2, x3, x4, x5, x6, oo⟩ := X1_seekBest_ok (N := N) wc wg (by omega) hys9 rc rg
      have o5 : Off P5 h h1 := oo.weaken (fun a k x => by unfold P5; omega)
      obtain ⟨n', v', h2, a2, y1, b2, g2, o6, y4, y5⟩ := X6_bestOf_ok (N := N) wc wg hN hys9 (RM.p5 rm o5) (r6.p5 o5)
      have n3 : n' ≤ 2 := by have := y1.1.2.2; omega
      have hw : VR c 3 0 n v := ⟨x2, vS_F _ _ _ x3.1.2.1, by omega⟩
      have hv : V0 c 48 (48 * (6 * c.2.2.2.2.1)) n' v' := by
        have hT : c.2.2.2.2.1 ≤ 8 := wc.1.1
        refine ⟨y1.1.1, ?_, ?_⟩
        · apply Classical.byContradiction
          intro q
          obtain ⟨m, w, z1, z2, z3, z4⟩ := best_short g n' v' c wc y1.1.1 y1.1.2.1 q
          have := y1.2 m w ⟨z2, z3, by omega⟩
          unfold leB smC at this
          rw [z4] at this
          omega
        · have z := y1.1.1
          rcases (show n' = 0 ∨ n' = 1 ∨ n' = 2 by omega) with rfl | rfl | rfl
          · exact Or.inl rfl
          · rw [Nat.pow_one] at z
            exact Or.inr (Or.inl ⟨rfl, by omega⟩)
          · refine Or.inr (Or.inr ⟨rfl, Nat.lt_of_lt_of_le z ?_⟩)
            rw [Nat.pow_succ, Nat.pow_one]
            exact Nat.mul_le_mul_right _ (by omega)
      obtain ⟨rfl, rfl⟩ := x3.uniq y1 hw hv
      have jj : J h2 := hj.bld wc wg (RC.off rc oo (fun a k x y z => by omega)) (rg.off oo (fun a k x y => by omega)) b2 g2 o5 (o6.weaken PKB_6)
      by_cases bm2 : b = -2
      · refine ⟨nI (smC c g ys n v), h1, h2, ?_, ?_, jj⟩
        · unfold f_X5_best
          rw [if_neg ca1, if_neg ca9, if_neg cb1, if_pos cb2, a1, qb, if_pos bm2, x4]
        · unfold f_X6_best
          simp only [X6_in, a64, if_pos ca6, if_pos cb6, qb, one0, if_false, a2]
          rw [if_pos bm2]
      · by_cases bm1 : b = -1
        · refine ⟨nI n, h1, h2, ?_, ?_, jj⟩
          · unfold f_X5_best
            rw [if_neg ca1, if_neg ca9, if_neg cb1, if_pos cb2, a1, qb, if_neg bm2, if_pos bm1, x5]
          · unfold f_X6_best
            simp only [X6_in, a64, if_pos ca6, if_pos cb6, qb, one0, if_false, a2]
            rw [if_neg bm2, if_pos bm1, y4]
        · have q2 : b.toInt ≠ -2 := fun z => bm2 (Int32.toInt_inj.mp (by rw [z]; rfl))
          have q1 : b.toInt ≠ -1 := fun z => bm1 (Int32.toInt_inj.mp (by rw [z]; rfl))
          obtain ⟨i, hi, rfl, hi2⟩ := ofRange (a := b) (n := 2) (by omega)
          have hi3 : i < 2 := by omega
          have hc := nchk2 (j := i) (n := 3) (by omega) (by omega)
          by_cases q : n ≤ i
          · refine ⟨-4, h1, h2, ?_, ?_, jj⟩
            · unfold f_X5_best
              rw [if_neg ca1, if_neg ca9, if_neg cb1, if_pos cb2, a1, qb, if_neg bm2, if_neg bm1, x5, if_pos (nI_le q hi2)]
            · unfold f_X6_best
              simp only [X6_in, a64, if_pos ca6, if_pos cb6, qb, one0, if_false, a2]
              rw [if_neg bm2, if_neg bm1, y4, if_pos (nI_le q hi2)]
          · refine ⟨nI (enc (dgN (6 * c.2.2.2.2.1) n v i)), h1, h2, ?_, ?_, jj⟩
            · unfold f_X5_best
              rw [if_neg ca1, if_neg ca9, if_neg cb1, if_pos cb2, a1, qb, if_neg bm2, if_neg bm1, x5, if_neg (nI_ge (by omega) (by omega)), nI_clamp hi2, if_neg hc, x6 i (by omega)]
            · unfold f_X6_best
              simp only [X6_in, a64, if_pos ca6, if_pos cb6, qb, one0, if_false, a2]
              rw [if_neg bm2, if_neg bm1, y4, if_neg (nI_ge (by omega) (by omega)), nI_clamp hi2, if_neg hc, y5 i (by omega)]
    · refine ⟨-1, h, h, ?_, ?_, hj⟩
      · unfold f_X5_best
        rw [if_neg ca1, if_neg ca9]
        by_cases q : b < (-2 : Int32)
        · rw [if_pos q]
        · rw [if_neg q, if_neg (by rw [i_lt, em2] at q; rw [i_lt, e2]; omega)]
      · have cb6 : ¬ ((-2 : Int64).toInt ≤ b.toInt ∧ b.toInt ≤ (1 : Int64).toInt) := by rw [lm2, l1]; exact cb
        unfold f_X6_best
        simp only [X6_in, a64, if_pos ca6, if_neg cb6, qb, one0, if_false, zero0, if_true]
  · refine ⟨-1, h, h, ?_, ?_, hj⟩
    · unfold f_X5_best
      by_cases q : a < (1 : Int32)
      · rw [if_pos q]
      · rw [if_neg q, if_pos (by rw [i_lt, e1] at q; rw [i_lt, e9]; omega)]
    · have ca6 : ¬ ((1 : Int64).toInt ≤ a.toInt ∧ a.toInt ≤ (9 : Int64).toInt) := by rw [l1, l9]; exact ca
      unfold f_X6_best
      simp only [X6_in, a64, if_neg ca6, qb, zero0, if_true]
end Best55
