/-! ===== pure 8: integers, values, counts ===== -/
def zI (a : Int) : Int32 := Int32.ofInt a
theorem nI_z (n : Nat) : nI n = zI n := (Int32.ofInt_eq_ofNat (n := n)).symm
theorem zI_add (a b : Int) : zI a + zI b = zI (a + b) := (Int32.ofInt_add a b).symm
theorem zI_sub (a b : Int) : zI a - zI b = zI (a - b) := (Int32.ofInt_sub a b).symm
theorem zI_mul (a b : Int) : zI a * zI b = zI (a * b) := (Int32.ofInt_mul a b).symm
theorem zI_neg (a : Int) : -(zI a) = zI (-a) := (Int32.ofInt_neg a).symm
theorem zI_toInt {a : Int} (h : -2147483648 ≤ a ∧ a < 2147483648) : (zI a).toInt = a := Int32.toInt_ofInt_of_le (by omega) (by omega)
theorem zI_lt {a b : Int} (ha : -2147483648 ≤ a ∧ a < 2147483648) (hb : -2147483648 ≤ b ∧ b < 2147483648) : zI a < zI b ↔ a < b := by rw [i_lt, zI_toInt ha, zI_toInt hb]
theorem zI_le {a b : Int} (ha : -2147483648 ≤ a ∧ a < 2147483648) (hb : -2147483648 ≤ b ∧ b < 2147483648) : zI a ≤ zI b ↔ a ≤ b := by rw [i_le, zI_toInt ha, zI_toInt hb]
theorem zI_eq {a b : Int} (ha : -2147483648 ≤ a ∧ a < 2147483648) (hb : -2147483648 ≤ b ∧ b < 2147483648) : zI a = zI b ↔ a = b := by rw [← Int32.toInt_inj, zI_toInt ha, zI_toInt hb]
theorem b_bit (n : Nat) (hn : n < 32) (x : Int32) : ((x >>> (nI n &&& 31)) &&& 1) = nI (bt x n).toNat := by
  apply b_ext
  intro i hi
  rw [b_and, b_1 i hi, b_sshr n hn x hi]
  by_cases e : i = 0
  · subst e
    rw [if_pos (by omega)]
    cases h : bt x n
    · simp [h]; decide
    · simp [h]; decide
  · have : bt (nI (bt x n).toNat) i = false := by
      cases bt x n
      · exact b_0 i
      · show bt 1 i = false
        rw [b_1 i hi]; simp [e]
    rw [this]; simp [e]
theorem ne_m2_m2 : ((-2 : Int32) = (-2 : Int32)) = True := by simp
theorem ne_m2_m1 : ((-2 : Int32) = (-1 : Int32)) = False := by simp
theorem ne_m2_0 : ((-2 : Int32) = (0 : Int32)) = False := by simp
theorem ne_m2_1 : ((-2 : Int32) = (1 : Int32)) = False := by simp
theorem ne_m2_2 : ((-2 : Int32) = (2 : Int32)) = False := by simp
theorem ne_m2_3 : ((-2 : Int32) = (3 : Int32)) = False := by simp
theorem ne_m2_4 : ((-2 : Int32) = (4 : Int32)) = False := by simp
theorem ne_m1_m2 : ((-1 : Int32) = (-2 : Int32)) = False := by simp
theorem ne_m1_m1 : ((-1 : Int32) = (-1 : Int32)) = True := by simp
theorem ne_m1_0 : ((-1 : Int32) = (0 : Int32)) = False := by simp
theorem ne_m1_1 : ((-1 : Int32) = (1 : Int32)) = False := by simp
theorem ne_m1_2 : ((-1 : Int32) = (2 : Int32)) = False := by simp
theorem ne_m1_3 : ((-1 : Int32) = (3 : Int32)) = False := by simp
theorem ne_m1_4 : ((-1 : Int32) = (4 : Int32)) = False := by simp
theorem ne_0_m2 : ((0 : Int32) = (-2 : Int32)) = False := by simp
theorem ne_0_m1 : ((0 : Int32) = (-1 : Int32)) = False := by simp
theorem ne_0_0 : ((0 : Int32) = (0 : Int32)) = True := by simp
theorem ne_0_1 : ((0 : Int32) = (1 : Int32)) = False := by simp
theorem ne_0_2 : ((0 : Int32) = (2 : Int32)) = False := by simp
theorem ne_0_3 : ((0 : Int32) = (3 : Int32)) = False := by simp
theorem ne_0_4 : ((0 : Int32) = (4 : Int32)) = False := by simp
theorem ne_1_m2 : ((1 : Int32) = (-2 : Int32)) = False := by simp
theorem ne_1_m1 : ((1 : Int32) = (-1 : Int32)) = False := by simp
theorem ne_1_0 : ((1 : Int32) = (0 : Int32)) = False := by simp
theorem ne_1_1 : ((1 : Int32) = (1 : Int32)) = True := by simp
theorem ne_1_2 : ((1 : Int32) = (2 : Int32)) = False := by simp
theorem ne_1_3 : ((1 : Int32) = (3 : Int32)) = False := by simp
theorem ne_1_4 : ((1 : Int32) = (4 : Int32)) = False := by simp
theorem ne_2_m2 : ((2 : Int32) = (-2 : Int32)) = False := by simp
theorem ne_2_m1 : ((2 : Int32) = (-1 : Int32)) = False := by simp
theorem ne_2_0 : ((2 : Int32) = (0 : Int32)) = False := by simp
theorem ne_2_1 : ((2 : Int32) = (1 : Int32)) = False := by simp
theorem ne_2_2 : ((2 : Int32) = (2 : Int32)) = True := by simp
theorem ne_2_3 : ((2 : Int32) = (3 : Int32)) = False := by simp
theorem ne_2_4 : ((2 : Int32) = (4 : Int32)) = False := by simp
theorem ne_3_m2 : ((3 : Int32) = (-2 : Int32)) = False := by simp
theorem ne_3_m1 : ((3 : Int32) = (-1 : Int32)) = False := by simp
theorem ne_3_0 : ((3 : Int32) = (0 : Int32)) = False := by simp
theorem ne_3_1 : ((3 : Int32) = (1 : Int32)) = False := by simp
theorem ne_3_2 : ((3 : Int32) = (2 : Int32)) = False := by simp
theorem ne_3_3 : ((3 : Int32) = (3 : Int32)) = True := by simp
theorem ne_3_4 : ((3 : Int32) = (4 : Int32)) = False := by simp
theorem ne_4_m2 : ((4 : Int32) = (-2 : Int32)) = False := by simp
theorem ne_4_m1 : ((4 : Int32) = (-1 : Int32)) = False := by simp
theorem ne_4_0 : ((4 : Int32) = (0 : Int32)) = False := by simp
theorem ne_4_1 : ((4 : Int32) = (1 : Int32)) = False := by simp
theorem ne_4_2 : ((4 : Int32) = (2 : Int32)) = False := by simp
theorem ne_4_3 : ((4 : Int32) = (3 : Int32)) = False := by simp
theorem ne_4_4 : ((4 : Int32) = (4 : Int32)) = True := by simp
theorem nn_0_m2 : (nI 0 = (-2 : Int32)) = False := by unfold nI; simp
theorem nn_0_m1 : (nI 0 = (-1 : Int32)) = False := by unfold nI; simp
theorem nn_0_0 : (nI 0 = (0 : Int32)) = True := by unfold nI; simp
theorem nn_0_1 : (nI 0 = (1 : Int32)) = False := by unfold nI; simp
theorem nn_0_2 : (nI 0 = (2 : Int32)) = False := by unfold nI; simp
theorem nn_0_3 : (nI 0 = (3 : Int32)) = False := by unfold nI; simp
theorem nn_0_4 : (nI 0 = (4 : Int32)) = False := by unfold nI; simp
theorem nn_1_m2 : (nI 1 = (-2 : Int32)) = False := by unfold nI; simp
theorem nn_1_m1 : (nI 1 = (-1 : Int32)) = False := by unfold nI; simp
theorem nn_1_0 : (nI 1 = (0 : Int32)) = False := by unfold nI; simp
theorem nn_1_1 : (nI 1 = (1 : Int32)) = True := by unfold nI; simp
theorem nn_1_2 : (nI 1 = (2 : Int32)) = False := by unfold nI; simp
theorem nn_1_3 : (nI 1 = (3 : Int32)) = False := by unfold nI; simp
theorem nn_1_4 : (nI 1 = (4 : Int32)) = False := by unfold nI; simp
theorem nn_2_m2 : (nI 2 = (-2 : Int32)) = False := by unfold nI; simp
theorem nn_2_m1 : (nI 2 = (-1 : Int32)) = False := by unfold nI; simp
theorem nn_2_0 : (nI 2 = (0 : Int32)) = False := by unfold nI; simp
theorem nn_2_1 : (nI 2 = (1 : Int32)) = False := by unfold nI; simp
theorem nn_2_2 : (nI 2 = (2 : Int32)) = True := by unfold nI; simp
theorem nn_2_3 : (nI 2 = (3 : Int32)) = False := by unfold nI; simp
theorem nn_2_4 : (nI 2 = (4 : Int32)) = False := by unfold nI; simp
theorem nn_3_m2 : (nI 3 = (-2 : Int32)) = False := by unfold nI; simp
theorem nn_3_m1 : (nI 3 = (-1 : Int32)) = False := by unfold nI; simp
theorem nn_3_0 : (nI 3 = (0 : Int32)) = False := by unfold nI; simp
theorem nn_3_1 : (nI 3 = (1 : Int32)) = False := by unfold nI; simp
theorem nn_3_2 : (nI 3 = (2 : Int32)) = False := by unfold nI; simp
theorem nn_3_3 : (nI 3 = (3 : Int32)) = True := by unfold nI; simp
theorem nn_3_4 : (nI 3 = (4 : Int32)) = False := by unfold nI; simp
theorem nn_4_m2 : (nI 4 = (-2 : Int32)) = False := by unfold nI; simp
theorem nn_4_m1 : (nI 4 = (-1 : Int32)) = False := by unfold nI; simp
theorem nn_4_0 : (nI 4 = (0 : Int32)) = False := by unfold nI; simp
theorem nn_4_1 : (nI 4 = (1 : Int32)) = False := by unfold nI; simp
theorem nn_4_2 : (nI 4 = (2 : Int32)) = False := by unfold nI; simp
theorem nn_4_3 : (nI 4 = (3 : Int32)) = False := by unfold nI; simp
theorem nn_4_4 : (nI 4 = (4 : Int32)) = True := by unfold nI; simp
theorem call_told (a b : Int32) {h : qN} (hj : J h) : OKC (f_X5_told a b) (f_X6_told a b) h := by
  obtain ⟨⟨hd, fs, sc, ov, T, U, w0, w1⟩, ⟨pu, co, wo, so⟩, wc, wg, rc, rg, rm, r6⟩ := hj.1
  have wf : WF hd fs sc ov T U := wc.1
  have hT : T ≤ 8 := wf.1
  have hU : U ≤ 12 := wf.2.1
  have e5 : h 2 5 = nI U := rc.2.1
  have e6 : h 60 6 = nI U := rm.2.1
  by_cases c : 0 ≤ a.toInt ∧ a.toInt < U
  · obtain ⟨p, hp, rfl, hp2⟩ := ofRange c
    have hp3 : p < U := by omega
    have c6 : (0 ≤ (nI p).toInt ∧ (nI p).toInt ≤ (nI U - 1).toInt) := by rw [nIm1 (by omega)]; omega
    have hc := nchk2 (j := p) (n := 12) (by omega) (by omega)
    have g1 : h 5 p = nI (fs p) := rc.2.2.2.2.1 p (by omega)
    have g2 : h 6 p = nI (sc p) := rc.2.2.2.2.2.1 p (by omega)
    have g3 : h 66 p = nI (fs p) := rm.2.2.2.2.1 p (by omega)
    have g4 : h 67 p = nI (sc p) := rm.2.2.2.2.2.1 p (by omega)
    obtain ⟨oa, ob⟩ := wf.2.2.2.1 p hp3
    by_cases cb : 0 ≤ b.toInt ∧ b.toInt ≤ 4
    · obtain ⟨q, hq, rfl, hq2⟩ := ofRangeLe cb
      rcases (show q = 0 ∨ q = 1 ∨ q = 2 ∨ q = 3 ∨ q = 4 by omega) with rfl | rfl | rfl | rfl | rfl
      · refine ⟨nI (fs p), h, h, ?_, ?_, hj⟩
        · unfold f_X5_told
          simp only [if_neg (nI_pos hp2), e5, if_pos (nI_lt hp3 (show U < 2 ^ 31 by omega)), nI_clamp hp2, if_neg hc, g1, ne_m2_m2, ne_m2_m1, ne_m2_0, ne_m2_1, ne_m2_2, ne_m2_3, ne_m2_4, ne_m1_m2, ne_m1_m1, ne_m1_0, ne_m1_1, ne_m1_2, ne_m1_3, ne_m1_4, ne_0_m2, ne_0_m1, ne_0_0, ne_0_1, ne_0_2, ne_0_3, ne_0_4, ne_1_m2, ne_1_m1, ne_1_0, ne_1_1, ne_1_2, ne_1_3, ne_1_4, ne_2_m2, ne_2_m1, ne_2_0, ne_2_1, ne_2_2, ne_2_3, ne_2_4, ne_3_m2, ne_3_m1, ne_3_0, ne_3_1, ne_3_2, ne_3_3, ne_3_4, ne_4_m2, ne_4_m1, ne_4_0, ne_4_1, ne_4_2, ne_4_3, ne_4_4, nn_0_m2, nn_0_m1, nn_0_0, nn_0_1, nn_0_2, nn_0_3, nn_0_4, nn_1_m2, nn_1_m1, nn_1_0, nn_1_1, nn_1_2, nn_1_3, nn_1_4, nn_2_m2, nn_2_m1, nn_2_0, nn_2_1, nn_2_2, nn_2_3, nn_2_4, nn_3_m2, nn_3_m1, nn_3_0, nn_3_1, nn_3_2, nn_3_3, nn_3_4, nn_4_m2, nn_4_m1, nn_4_0, nn_4_1, nn_4_2, nn_4_3, nn_4_4, if_true, if_false]
        · unfold f_X6_told
          simp only [X5_isPerson, X6_isPerson, X5_isWithin, X6_in, a64, qb, one0, zero0, if_true, if_false, L0, L1, L2, L4, L5, L6, L9, L10, L15, L16, L60, L99, L999, I0, I1, I6, I9, I16, I60, I99, I999, e6, if_pos c6, if_pos cb, nI_clamp hp2, if_neg hc, g3, ne_m2_m2, ne_m2_m1, ne_m2_0, ne_m2_1, ne_m2_2, ne_m2_3, ne_m2_4, ne_m1_m2, ne_m1_m1, ne_m1_0, ne_m1_1, ne_m1_2, ne_m1_3, ne_m1_4, ne_0_m2, ne_0_m1, ne_0_0, ne_0_1, ne_0_2, ne_0_3, ne_0_4, ne_1_m2, ne_1_m1, ne_1_0, ne_1_1, ne_1_2, ne_1_3, ne_1_4, ne_2_m2, ne_2_m1, ne_2_0, ne_2_1, ne_2_2, ne_2_3, ne_2_4, ne_3_m2, ne_3_m1, ne_3_0, ne_3_1, ne_3_2, ne_3_3, ne_3_4, ne_4_m2, ne_4_m1, ne_4_0, ne_4_1, ne_4_2, ne_4_3, ne_4_4, nn_0_m2, nn_0_m1, nn_0_0, nn_0_1, nn_0_2, nn_0_3, nn_0_4, nn_1_m2, nn_1_m1, nn_1_0, nn_1_1, nn_1_2, nn_1_3, nn_1_4, nn_2_m2, nn_2_m1, nn_2_0, nn_2_1, nn_2_2, nn_2_3, nn_2_4, nn_3_m2, nn_3_m1, nn_3_0, nn_3_1, nn_3_2, nn_3_3, nn_3_4, nn_4_m2, nn_4_m1, nn_4_0, nn_4_1, nn_4_2, nn_4_3, nn_4_4]
      · refine ⟨nI (sc p), h, h, ?_, ?_, hj⟩
        · unfold f_X5_told
          simp only [if_neg (nI_pos hp2), e5, if_pos (nI_lt hp3 (show U < 2 ^ 31 by omega)), nI_clamp hp2, if_neg hc, g2, ne_m2_m2, ne_m2_m1, ne_m2_0, ne_m2_1, ne_m2_2, ne_m2_3, ne_m2_4, ne_m1_m2, ne_m1_m1, ne_m1_0, ne_m1_1, ne_m1_2, ne_m1_3, ne_m1_4, ne_0_m2, ne_0_m1, ne_0_0, ne_0_1, ne_0_2, ne_0_3, ne_0_4, ne_1_m2, ne_1_m1, ne_1_0, ne_1_1, ne_1_2, ne_1_3, ne_1_4, ne_2_m2, ne_2_m1, ne_2_0, ne_2_1, ne_2_2, ne_2_3, ne_2_4, ne_3_m2, ne_3_m1, ne_3_0, ne_3_1, ne_3_2, ne_3_3, ne_3_4, ne_4_m2, ne_4_m1, ne_4_0, ne_4_1, ne_4_2, ne_4_3, ne_4_4, nn_0_m2, nn_0_m1, nn_0_0, nn_0_1, nn_0_2, nn_0_3, nn_0_4, nn_1_m2, nn_1_m1, nn_1_0, nn_1_1, nn_1_2, nn_1_3, nn_1_4, nn_2_m2, nn_2_m1, nn_2_0, nn_2_1, nn_2_2, nn_2_3, nn_2_4, nn_3_m2, nn_3_m1, nn_3_0, nn_3_1, nn_3_2, nn_3_3, nn_3_4, nn_4_m2, nn_4_m1, nn_4_0, nn_4_1, nn_4_2, nn_4_3, nn_4_4, if_true, if_false]
        · unfold f_X6_told
          simp only [X5_isPerson, X6_isPerson, X5_isWithin, X6_in, a64, qb, one0, zero0, if_true, if_false, L0, L1, L2, L4, L5, L6, L9, L10, L15, L16, L60, L99, L999, I0, I1, I6, I9, I16, I60, I99, I999, e6, if_pos c6, if_pos cb, nI_clamp hp2, if_neg hc, g4, ne_m2_m2, ne_m2_m1, ne_m2_0, ne_m2_1, ne_m2_2, ne_m2_3, ne_m2_4, ne_m1_m2, ne_m1_m1, ne_m1_0, ne_m1_1, ne_m1_2, ne_m1_3, ne_m1_4, ne_0_m2, ne_0_m1, ne_0_0, ne_0_1, ne_0_2, ne_0_3, ne_0_4, ne_1_m2, ne_1_m1, ne_1_0, ne_1_1, ne_1_2, ne_1_3, ne_1_4, ne_2_m2, ne_2_m1, ne_2_0, ne_2_1, ne_2_2, ne_2_3, ne_2_4, ne_3_m2, ne_3_m1, ne_3_0, ne_3_1, ne_3_2, ne_3_3, ne_3_4, ne_4_m2, ne_4_m1, ne_4_0, ne_4_1, ne_4_2, ne_4_3, ne_4_4, nn_0_m2, nn_0_m1, nn_0_0, nn_0_1, nn_0_2, nn_0_3, nn_0_4, nn_1_m2, nn_1_m1, nn_1_0, nn_1_1, nn_1_2, nn_1_3, nn_1_4, nn_2_m2, nn_2_m1, nn_2_0, nn_2_1, nn_2_2, nn_2_3, nn_2_4, nn_3_m2, nn_3_m1, nn_3_0, nn_3_1, nn_3_2, nn_3_3, nn_3_4, nn_4_m2, nn_4_m1, nn_4_0, nn_4_1, nn_4_2, nn_4_3, nn_4_4]
      · refine ⟨nI (stN hd (fs p)), h, h, ?_, ?_, hj⟩
        · unfold f_X5_told
          simp only [if_neg (nI_pos hp2), e5, if_pos (nI_lt hp3 (show U < 2 ^ 31 by omega)), nI_clamp hp2, if_neg hc, g1, X0_standing rc hT oa, qb, ne_m2_m2, ne_m2_m1, ne_m2_0, ne_m2_1, ne_m2_2, ne_m2_3, ne_m2_4, ne_m1_m2, ne_m1_m1, ne_m1_0, ne_m1_1, ne_m1_2, ne_m1_3, ne_m1_4, ne_0_m2, ne_0_m1, ne_0_0, ne_0_1, ne_0_2, ne_0_3, ne_0_4, ne_1_m2, ne_1_m1, ne_1_0, ne_1_1, ne_1_2, ne_1_3, ne_1_4, ne_2_m2, ne_2_m1, ne_2_0, ne_2_1, ne_2_2, ne_2_3, ne_2_4, ne_3_m2, ne_3_m1, ne_3_0, ne_3_1, ne_3_2, ne_3_3, ne_3_4, ne_4_m2, ne_4_m1, ne_4_0, ne_4_1, ne_4_2, ne_4_3, ne_4_4, nn_0_m2, nn_0_m1, nn_0_0, nn_0_1, nn_0_2, nn_0_3, nn_0_4, nn_1_m2, nn_1_m1, nn_1_0, nn_1_1, nn_1_2, nn_1_3, nn_1_4, nn_2_m2, nn_2_m1, nn_2_0, nn_2_1, nn_2_2, nn_2_3, nn_2_4, nn_3_m2, nn_3_m1, nn_3_0, nn_3_1, nn_3_2, nn_3_3, nn_3_4, nn_4_m2, nn_4_m1, nn_4_0, nn_4_1, nn_4_2, nn_4_3, nn_4_4, if_true, if_false]
        · unfold f_X6_told
          simp only [X5_isPerson, X6_isPerson, X5_isWithin, X6_in, a64, qb, one0, zero0, if_true, if_false, L0, L1, L2, L4, L5, L6, L9, L10, L15, L16, L60, L99, L999, I0, I1, I6, I9, I16, I60, I99, I999, e6, if_pos c6, if_pos cb, nI_clamp hp2, if_neg hc, g3, X6_stands rm hT oa, ne_m2_m2, ne_m2_m1, ne_m2_0, ne_m2_1, ne_m2_2, ne_m2_3, ne_m2_4, ne_m1_m2, ne_m1_m1, ne_m1_0, ne_m1_1, ne_m1_2, ne_m1_3, ne_m1_4, ne_0_m2, ne_0_m1, ne_0_0, ne_0_1, ne_0_2, ne_0_3, ne_0_4, ne_1_m2, ne_1_m1, ne_1_0, ne_1_1, ne_1_2, ne_1_3, ne_1_4, ne_2_m2, ne_2_m1, ne_2_0, ne_2_1, ne_2_2, ne_2_3, ne_2_4, ne_3_m2, ne_3_m1, ne_3_0, ne_3_1, ne_3_2, ne_3_3, ne_3_4, ne_4_m2, ne_4_m1, ne_4_0, ne_4_1, ne_4_2, ne_4_3, ne_4_4, nn_0_m2, nn_0_m1, nn_0_0, nn_0_1, nn_0_2, nn_0_3, nn_0_4, nn_1_m2, nn_1_m1, nn_1_0, nn_1_1, nn_1_2, nn_1_3, nn_1_4, nn_2_m2, nn_2_m1, nn_2_0, nn_2_1, nn_2_2, nn_2_3, nn_2_4, nn_3_m2, nn_3_m1, nn_3_0, nn_3_1, nn_3_2, nn_3_3, nn_3_4, nn_4_m2, nn_4_m1, nn_4_0, nn_4_1, nn_4_2, nn_4_3, nn_4_4]
      · refine ⟨nI (stN hd (sc p)), h, h, ?_, ?_, hj⟩
        · unfold f_X5_told
          simp only [if_neg (nI_pos hp2), e5, if_pos (nI_lt hp3 (show U < 2 ^ 31 by omega)), nI_clamp hp2, if_neg hc, g2, X0_standing rc hT ob, qb, ne_m2_m2, ne_m2_m1, ne_m2_0, ne_m2_1, ne_m2_2, ne_m2_3, ne_m2_4, ne_m1_m2, ne_m1_m1, ne_m1_0, ne_m1_1, ne_m1_2, ne_m1_3, ne_m1_4, ne_0_m2, ne_0_m1, ne_0_0, ne_0_1, ne_0_2, ne_0_3, ne_0_4, ne_1_m2, ne_1_m1, ne_1_0, ne_1_1, ne_1_2, ne_1_3, ne_1_4, ne_2_m2, ne_2_m1, ne_2_0, ne_2_1, ne_2_2, ne_2_3, ne_2_4, ne_3_m2, ne_3_m1, ne_3_0, ne_3_1, ne_3_2, ne_3_3, ne_3_4, ne_4_m2, ne_4_m1, ne_4_0, ne_4_1, ne_4_2, ne_4_3, ne_4_4, nn_0_m2, nn_0_m1, nn_0_0, nn_0_1, nn_0_2, nn_0_3, nn_0_4, nn_1_m2, nn_1_m1, nn_1_0, nn_1_1, nn_1_2, nn_1_3, nn_1_4, nn_2_m2, nn_2_m1, nn_2_0, nn_2_1, nn_2_2, nn_2_3, nn_2_4, nn_3_m2, nn_3_m1, nn_3_0, nn_3_1, nn_3_2, nn_3_3, nn_3_4, nn_4_m2, nn_4_m1, nn_4_0, nn_4_1, nn_4_2, nn_4_3, nn_4_4, if_true, if_false]
        · unfold f_X6_told
          simp only [X5_isPerson, X6_isPerson, X5_isWithin, X6_in, a64, qb, one0, zero0, if_true, if_false, L0, L1, L2, L4, L5, L6, L9, L10, L15, L16, L60, L99, L999, I0, I1, I6, I9, I16, I60, I99, I999, e6, if_pos c6, if_pos cb, nI_clamp hp2, if_neg hc, g4, X6_stands rm hT ob, ne_m2_m2, ne_m2_m1, ne_m2_0, ne_m2_1, ne_m2_2, ne_m2_3, ne_m2_4, ne_m1_m2, ne_m1_m1, ne_m1_0, ne_m1_1, ne_m1_2, ne_m1_3, ne_m1_4, ne_0_m2, ne_0_m1, ne_0_0, ne_0_1, ne_0_2, ne_0_3, ne_0_4, ne_1_m2, ne_1_m1, ne_1_0, ne_1_1, ne_1_2, ne_1_3, ne_1_4, ne_2_m2, ne_2_m1, ne_2_0, ne_2_1, ne_2_2, ne_2_3, ne_2_4, ne_3_m2, ne_3_m1, ne_3_0, ne_3_1, ne_3_2, ne_3_3, ne_3_4, ne_4_m2, ne_4_m1, ne_4_0, ne_4_1, ne_4_2, ne_4_3, ne_4_4, nn_0_m2, nn_0_m1, nn_0_0, nn_0_1, nn_0_2, nn_0_3, nn_0_4, nn_1_m2, nn_1_m1, nn_1_0, nn_1_1, nn_1_2, nn_1_3, nn_1_4, nn_2_m2, nn_2_m1, nn_2_0, nn_2_1, nn_2_2, nn_2_3, nn_2_4, nn_3_m2, nn_3_m1, nn_3_0, nn_3_1, nn_3_2, nn_3_3, nn_3_4, nn_4_m2, nn_4_m1, nn_4_0, nn_4_1, nn_4_2, nn_4_3, nn_4_4]
      · refine ⟨nI (ov p).toNat, h, h, ?_, ?_, hj⟩
        · unfold f_X5_told
          simp only [if_neg (nI_pos hp2), e5, if_pos (nI_lt hp3 (show U < 2 ^ 31 by omega)), X0_isOver rc (show p < 12 by omega), qb, ne_m2_m2, ne_m2_m1, ne_m2_0, ne_m2_1, ne_m2_2, ne_m2_3, ne_m2_4, ne_m1_m2, ne_m1_m1, ne_m1_0, ne_m1_1, ne_m1_2, ne_m1_3, ne_m1_4, ne_0_m2, ne_0_m1, ne_0_0, ne_0_1, ne_0_2, ne_0_3, ne_0_4, ne_1_m2, ne_1_m1, ne_1_0, ne_1_1, ne_1_2, ne_1_3, ne_1_4, ne_2_m2, ne_2_m1, ne_2_0, ne_2_1, ne_2_2, ne_2_3, ne_2_4, ne_3_m2, ne_3_m1, ne_3_0, ne_3_1, ne_3_2, ne_3_3, ne_3_4, ne_4_m2, ne_4_m1, ne_4_0, ne_4_1, ne_4_2, ne_4_3, ne_4_4, nn_0_m2, nn_0_m1, nn_0_0, nn_0_1, nn_0_2, nn_0_3, nn_0_4, nn_1_m2, nn_1_m1, nn_1_0, nn_1_1, nn_1_2, nn_1_3, nn_1_4, nn_2_m2, nn_2_m1, nn_2_0, nn_2_1, nn_2_2, nn_2_3, nn_2_4, nn_3_m2, nn_3_m1, nn_3_0, nn_3_1, nn_3_2, nn_3_3, nn_3_4, nn_4_m2, nn_4_m1, nn_4_0, nn_4_1, nn_4_2, nn_4_3, nn_4_4, if_true, if_false]
          cases ov p <;> rfl
        · unfold f_X6_told
          simp only [X5_isPerson, X6_isPerson, X5_isWithin, X6_in, a64, qb, one0, zero0, if_true, if_false, L0, L1, L2, L4, L5, L6, L9, L10, L15, L16, L60, L99, L999, I0, I1, I6, I9, I16, I60, I99, I999, e6, if_pos c6, if_pos cb, ne_m2_m2, ne_m2_m1, ne_m2_0, ne_m2_1, ne_m2_2, ne_m2_3, ne_m2_4, ne_m1_m2, ne_m1_m1, ne_m1_0, ne_m1_1, ne_m1_2, ne_m1_3, ne_m1_4, ne_0_m2, ne_0_m1, ne_0_0, ne_0_1, ne_0_2, ne_0_3, ne_0_4, ne_1_m2, ne_1_m1, ne_1_0, ne_1_1, ne_1_2, ne_1_3, ne_1_4, ne_2_m2, ne_2_m1, ne_2_0, ne_2_1, ne_2_2, ne_2_3, ne_2_4, ne_3_m2, ne_3_m1, ne_3_0, ne_3_1, ne_3_2, ne_3_3, ne_3_4, ne_4_m2, ne_4_m1, ne_4_0, ne_4_1, ne_4_2, ne_4_3, ne_4_4, nn_0_m2, nn_0_m1, nn_0_0, nn_0_1, nn_0_2, nn_0_3, nn_0_4, nn_1_m2, nn_1_m1, nn_1_0, nn_1_1, nn_1_2, nn_1_3, nn_1_4, nn_2_m2, nn_2_m1, nn_2_0, nn_2_1, nn_2_2, nn_2_3, nn_2_4, nn_3_m2, nn_3_m1, nn_3_0, nn_3_1, nn_3_2, nn_3_3, nn_3_4, nn_4_m2, nn_4_m1, nn_4_0, nn_4_1, nn_4_2, nn_4_3, nn_4_4, b_bit p (show p < 32 by omega)]
          rw [show bt (h 60 9) p = ov p by rw [rm.2.2.1 p (by omega)]; simp [show p < 12 by omega]]
    · have n0 : ¬ b = 0 := by rintro rfl; exact cb (by decide)
      have n1 : ¬ b = 1 := by rintro rfl; exact cb (by decide)
      have n2 : ¬ b = 2 := by rintro rfl; exact cb (by decide)
      have n3 : ¬ b = 3 := by rintro rfl; exact cb (by decide)
      have n4 : ¬ b = 4 := by rintro rfl; exact cb (by decide)
      refine ⟨-1, h, h, ?_, ?_, hj⟩
      · unfold f_X5_told
        simp only [if_neg (nI_pos hp2), e5, if_pos (nI_lt hp3 (show U < 2 ^ 31 by omega)), if_neg n0, if_neg n1, if_neg n2, if_neg n3, if_neg n4]
      · unfold f_X6_told
        simp only [X5_isPerson, X6_isPerson, X5_isWithin, X6_in, a64, qb, one0, zero0, if_true, if_false, L0, L1, L2, L4, L5, L6, L9, L10, L15, L16, L60, L99, L999, I0, I1, I6, I9, I16, I60, I99, I999, e6, if_pos c6, if_neg cb]
  · have c6 : ¬ (0 ≤ a.toInt ∧ a.toInt ≤ (nI U - 1).toInt) := by rw [nIm1 (by omega)]; omega
    refine ⟨-1, h, h, ?_, ?_, hj⟩
    · unfold f_X5_told
      by_cases s : a < 0
      · rw [if_pos s]
      · rw [if_neg s, e5, if_neg]
        rw [i_lt, nI_toInt (by omega)]
        rw [i_lt] at s
        have : (0 : Int32).toInt = 0 := rfl
        omega
    · unfold f_X6_told
      simp only [X5_isPerson, X6_isPerson, X5_isWithin, X6_in, a64, qb, one0, zero0, if_true, if_false, L0, L1, L2, L4, L5, L6, L9, L10, L15, L16, L60, L99, L999, I0, I1, I6, I9, I16, I60, I99, I999, e6, if_neg c6]
/-! values -/
def vT (hd wo : Nat → Nat) (p : Nat) : Nat → Int
  | 0 => 0
  | k + 1 => vT hd wo p k + (if hd k = p then (wo (k * 6 + p) : Int) else 0)
def valN (hd fs sc : Nat → Nat) (ov : Nat → Bool) (T U : Nat) (co wo : Nat → Nat) (p : Nat) : Int := vT hd wo p T - co p * cnt (stF hd fs sc ov p) 0 U
theorem X4_valueTo {o w N : Nat} {hd fs sc : Nat → Nat} {ov : Nat → Bool} {T U : Nat} {w0 w1 : Bool} {pu co wo : Nat → Nat} {so : Int32} {h : qN} {p : Nat} (wf : WF hd fs sc ov T U) (hp : p < 6) (hN : 12 < N) (hr : RC o hd fs sc ov T U w0 w1 h) (hg : RG1 w (pu, co, wo, so) h) :
    f_X4_valueTo N w (nI p) o h = some (zI (valN hd fs sc ov T U co wo p), h) := by
  have hT := wf.1
  obtain ⟨a1, h1, p1, rfl, rfl⟩ := loopA (F := f_X4_valueTo_L17 N w (nI p) o) (U := T) (Inv := fun j a h1 => a = zI (vT hd wo p j - co p * cnt (stF hd fs sc ov p) 0 U) ∧ h1 = h)
    (fun n a h1 hi => by
      obtain ⟨-, rfl⟩ := hi
      rw [f_X4_valueTo_L17.eq_2, hr.1, if_pos (nI_le (Nat.le_refl _) (by omega))])
    (fun n j a h1 hj hi => by
      obtain ⟨rfl, rfl⟩ := hi
      have h6 := wf.2.2.1 j hj
      have cj : (nI j).toNatClampNeg = j := nI_clamp (by omega)
      have hcj := nchk2 (j := j) (n := 8) (by omega) (by omega)
      have hcw := nchk2 (j := j * 6 + p) (n := 48) (by omega) (by omega)
      have i1 : nI j * (6 : Int32) + nI p = nI (j * 6 + p) := by rw [k6, pk_mul, nI_add]
      have e1 : (nI (hd j) = nI p) = (hd j = p) := propext (nI_eq (by omega) (by omega))
      rw [f_X4_valueTo_L17.eq_2]
      simp only [hr.1, if_neg (nI_ge hj (show T < 2 ^ 31 by omega)), cj, if_neg hcj, hr.2.2.2.1 j (by omega), e1, i1, nI_clamp (show j * 6 + p < 2 ^ 31 by omega), if_neg hcw, hg.2.2.1 _ (show j * 6 + p < 48 by omega), nI_1]
      by_cases q : hd j = p
      · rw [if_pos q, qb]
        refine ⟨_, _, rfl, ?_, rfl⟩
        rw [nI_z, zI_add]
        congr 1
        simp only [vT, if_pos q]
        omega
      · rw [if_neg q, qb]
        refine ⟨_, _, rfl, ?_, rfl⟩
        congr 1
        simp only [vT, if_neg q]
        omega)
    T 0 N (zI (-(co p * cnt (stF hd fs sc ov p) 0 U))) h (by omega) (by omega) ⟨by simp only [vT]; congr 1; omega, rfl⟩
  unfold f_X4_valueTo
  have hcp := nchk2 (j := p) (n := 6) hp (by omega)
  simp only [nI_clamp (show p < 2 ^ 31 by omega), if_neg hcp, X0_countStood wf hp hN hr, qb, hg.2.1 p hp]
  rw [nI_z (co p), nI_z (cnt _ _ _), zI_neg, zI_mul, Int.neg_mul, k0, p1, qb]
  rfl
theorem X6_valueOf {N : Nat} {hd fs sc : Nat → Nat} {ov : Nat → Bool} {T U : Nat} {w0 w1 : Bool} {pu co wo : Nat → Nat} {so : Int32} {h : qN} {p : Nat} (wf : WF hd fs sc ov T U) (hp : p < 6) (hN : 12 < N) (hr : RM hd fs sc ov T U w0 w1 h) (hg : RG6 (pu, co, wo, so) h) :
    f_X6_valueOf N (nI p) h = some (zI (valN hd fs sc ov T U co wo p), h) := by
  have hT := wf.1
  obtain ⟨a1, h1, p1, rfl, rfl⟩ := loopA (F := f_X6_valueOf_L16 N (nI p)) (U := T) (Inv := fun j a h1 => a = zI (vT hd wo p j - co p * cnt (stF hd fs sc ov p) 0 U) ∧ h1 = h)
    (fun n a h1 hi => by
      obtain ⟨-, rfl⟩ := hi
      rw [f_X6_valueOf_L16.eq_2, hr.1, if_pos (nI_le (Nat.le_refl _) (by omega))])
    (fun n j a h1 hj hi => by
      obtain ⟨rfl, rfl⟩ := hi
      have h6 := wf.2.2.1 j hj
      have cj : (nI j).toNatClampNeg = j := nI_clamp (by omega)
      have hcj := nchk2 (j := j) (n := 8) (by omega) (by omega)
      have hcw := nchk2 (j := j * 6 + p) (n := 48) (by omega) (by omega)
      have i1 : (6 : Int32) * nI j + nI p = nI (j * 6 + p) := by rw [k6, pk_mul, nI_add, Nat.mul_comm]
      have e1 : (nI (hd j) = nI p) = (hd j = p) := propext (nI_eq (by omega) (by omega))
      rw [f_X6_valueOf_L16.eq_2]
      simp only [hr.1, if_neg (nI_ge hj (show T < 2 ^ 31 by omega)), cj, if_neg hcj, hr.2.2.2.1 j (by omega), e1, i1, nI_clamp (show j * 6 + p < 2 ^ 31 by omega), if_neg hcw, hg.2.2.1 _ (show j * 6 + p < 48 by omega), nI_1]
      by_cases q : hd j = p
      · rw [if_pos q, qb]
        refine ⟨_, _, rfl, ?_, rfl⟩
        rw [nI_z, zI_add]
        congr 1
        simp only [vT, if_pos q]
        omega
      · rw [if_neg q, qb]
        refine ⟨_, _, rfl, ?_, rfl⟩
        rw [show (0 : Int32) = zI 0 from rfl, zI_add]
        congr 1
        simp only [vT, if_neg q]
        omega)
    T 0 N (zI (-(co p * cnt (stF hd fs sc ov p) 0 U))) h (by omega) (by omega) ⟨by simp only [vT]; congr 1; omega, rfl⟩
  unfold f_X6_valueOf
  have hcp := nchk2 (j := p) (n := 6) hp (by omega)
  simp only [nI_clamp (show p < 2 ^ 31 by omega), if_neg hcp, X6_standsIn wf hp hN hr, qb, hg.2.1 p hp]
  rw [nI_z (co p), nI_z (cnt _ _ _), zI_neg, zI_mul, Int.neg_mul, k0, p1, qb]
  rfl
theorem call_value {N : Nat} (hN : 12 < N) (a : Int32) {h : qN} (hj : J h) : OKC (f_X5_value N a) (f_X6_value N a) h := by
  obtain ⟨⟨hd, fs, sc, ov, T, U, w0, w1⟩, ⟨pu, co, wo, so⟩, wc, wg, rc, rg, rm, r6⟩ := hj.1
  have wf : WF hd fs sc ov T U := wc.1
  by_cases c : 0 ≤ a.toInt ∧ a.toInt < 6
  · obtain ⟨p, hp, rfl, hp2⟩ := ofRange c
    refine ⟨zI (valN hd fs sc ov T U co wo p), h, h, ?_, ?_, hj⟩
    · unfold f_X5_value
      simp only [X5_isPerson, X6_isPerson, X5_isWithin, X6_in, a64, qb, one0, zero0, if_true, if_false, L0, L1, L2, L4, L5, L6, L9, L10, L15, L16, L60, L99, L999, I0, I1, I6, I9, I16, I60, I99, I999, if_pos c, X4_valueTo wf (show p < 6 by omega) hN rc rg]
    · unfold f_X6_value
      simp only [X5_isPerson, X6_isPerson, X5_isWithin, X6_in, a64, qb, one0, zero0, if_true, if_false, L0, L1, L2, L4, L5, L6, L9, L10, L15, L16, L60, L99, L999, I0, I1, I6, I9, I16, I60, I99, I999, if_pos c, X6_valueOf wf (show p < 6 by omega) hN rm r6]
  · refine ⟨-100001, h, h, ?_, ?_, hj⟩
    · unfold f_X5_value
      simp only [X5_isPerson, X6_isPerson, X5_isWithin, X6_in, a64, qb, one0, zero0, if_true, if_false, L0, L1, L2, L4, L5, L6, L9, L10, L15, L16, L60, L99, L999, I0, I1, I6, I9, I16, I60, I99, I999, if_neg c]
    · unfold f_X6_value
      simp only [X5_isPerson, X6_isPerson, X5_isWithin, X6_in, a64, qb, one0, zero0, if_true, if_false, L0, L1, L2, L4, L5, L6, L9, L10, L15, L16, L60, L99, L999, I0, I1, I6, I9, I16, I60, I99, I999, if_neg c]
