/-! ===== pure 35: the law's loop ===== -/
set_option maxHeartbeats 4000000 in
theorem law_L18 {N L : Nat} {xs : Nat → Int32} (hN : 110600 < N) (hL : L ≤ 3072) : ∀ (k j n : Nat) (h : qN), L ≤ j + k → j ≤ L → k < n → J h →
    ∃ h', f_L_law_L18 N L xs n (nI j) h = some (.inr h') := by
  intro k
  induction k using Nat.strongRecOn with
  | _ k ih =>
    intro j n h e hj hn hJ
    obtain ⟨n, rfl⟩ : ∃ m, n = m + 1 := ⟨n - 1, by omega⟩
    have lim : ((Int32.ofNat L) - (6 : Int32) < nI j) = (L < j + 6) := propext (by
      rw [show Int32.ofNat L = nI L from rfl, show (6 : Int32) = zI 6 from rfl, nI_z, nI_z, zI_sub, zI_lt (by omega) (by omega)]
      omega)
    rw [f_L_law_L18.eq_2]
    by_cases c6 : L < j + 6
    · rw [if_pos (by rw [lim]; exact c6)]
      exact ⟨h, rfl⟩
    · rw [if_neg (by rw [lim]; exact c6)]
      have next : ∀ h1, J h1 → ∃ h', f_L_law_L18 N L xs n (nI (j + 6)) h1 = some (.inr h') := fun h1 j1 => ih (k - 6) (by omega) (j + 6) n h1 (by omega) (by omega) (by omega) j1
      have g0 : ¬ (nI j < 0 ∨ L ≤ j) := nchk2 (by omega) (by omega)
      have z0 : (nI j).toNatClampNeg = j := nI_clamp (by omega)
      have p1 : nI j + (1 : Int32) = nI (j + 1) := nI_add j 1
      have z1 : (nI (j + 1)).toNatClampNeg = j + 1 := nI_clamp (by omega)
      have g1 : ¬ (nI (j + 1) < 0 ∨ L ≤ j + 1) := nchk2 (by omega) (by omega)
      have p2 : nI j + (2 : Int32) = nI (j + 2) := nI_add j 2
      have z2 : (nI (j + 2)).toNatClampNeg = j + 2 := nI_clamp (by omega)
      have g2 : ¬ (nI (j + 2) < 0 ∨ L ≤ j + 2) := nchk2 (by omega) (by omega)
      have p3 : nI j + (3 : Int32) = nI (j + 3) := nI_add j 3
      have z3 : (nI (j + 3)).toNatClampNeg = j + 3 := nI_clamp (by omega)
      have g3 : ¬ (nI (j + 3) < 0 ∨ L ≤ j + 3) := nchk2 (by omega) (by omega)
      have p4 : nI j + (4 : Int32) = nI (j + 4) := nI_add j 4
      have z4 : (nI (j + 4)).toNatClampNeg = j + 4 := nI_clamp (by omega)
      have g4 : ¬ (nI (j + 4) < 0 ∨ L ≤ j + 4) := nchk2 (by omega) (by omega)
      have p5 : nI j + (5 : Int32) = nI (j + 5) := nI_add j 5
      have z5 : (nI (j + 5)).toNatClampNeg = j + 5 := nI_clamp (by omega)
      have g5 : ¬ (nI (j + 5) < 0 ∨ L ≤ j + 5) := nchk2 (by omega) (by omega)
      have p6 : nI j + (6 : Int32) = nI (j + 6) := nI_add j 6
      rw [z0, if_neg g0]
      by_cases e0 : (xs j &&& (63 : Int32)) = (0 : Int32)
      · rw [if_pos e0]
        simp only [p1, z1, if_neg g1, p2, z2, if_neg g2, p3, z3, if_neg g3, p6]
        obtain ⟨v, h1, h2, a1, a2, j2⟩ := call_person (xs (j + 1)) (xs (j + 2)) (xs (j + 3)) hJ
        rw [a1, qb]
        dsimp only
        rw [a2, qb]
        dsimp only
        rw [if_pos rfl]
        exact next h2 j2
      rw [if_neg e0]
      by_cases e1 : (xs j &&& (63 : Int32)) = (1 : Int32)
      · rw [if_pos e1]
        simp only [p1, z1, if_neg g1, p2, z2, if_neg g2, p6]
        obtain ⟨v, h1, h2, a1, a2, j2⟩ := call_rule (N := N) (by omega) (xs (j + 1)) (xs (j + 2)) hJ
        rw [a1, qb]
        dsimp only
        rw [a2, qb]
        dsimp only
        rw [if_pos rfl]
        exact next h2 j2
      rw [if_neg e1]
      by_cases e2 : (xs j &&& (63 : Int32)) = (2 : Int32)
      · rw [if_pos e2]
        simp only [p1, z1, if_neg g1, p6]
        obtain ⟨v, h1, h2, a1, a2, j2⟩ := call_thing (N := N) (by omega) (xs (j + 1)) hJ
        rw [a1, qb]
        dsimp only
        rw [a2, qb]
        dsimp only
        rw [if_pos rfl]
        exact next h2 j2
      rw [if_neg e2]
      by_cases e3 : (xs j &&& (63 : Int32)) = (3 : Int32)
      · rw [if_pos e3]
        simp only [p1, z1, if_neg g1, p2, z2, if_neg g2, p3, z3, if_neg g3, p6]
        obtain ⟨v, h1, h2, a1, a2, j2⟩ := call_worth (xs (j + 1)) (xs (j + 2)) (xs (j + 3)) hJ
        rw [a1, qb]
        dsimp only
        rw [a2, qb]
        dsimp only
        rw [if_pos rfl]
        exact next h2 j2
      rw [if_neg e3]
      by_cases e4 : (xs j &&& (63 : Int32)) = (4 : Int32)
      · rw [if_pos e4]
        simp only [p1, z1, if_neg g1, p2, z2, if_neg g2, p6]
        obtain ⟨v, h1, h2, a1, a2, j2⟩ := call_suit (N := N) (by omega) (xs (j + 1)) (xs (j + 2)) hJ
        rw [a1, qb]
        dsimp only
        rw [a2, qb]
        dsimp only
        rw [if_pos rfl]
        exact next h2 j2
      rw [if_neg e4]
      by_cases e5 : (xs j &&& (63 : Int32)) = (5 : Int32)
      · rw [if_pos e5]
        simp only [p1, z1, if_neg g1, p2, z2, if_neg g2, p6]
        obtain ⟨v, h1, h2, a1, a2, j2⟩ := call_told (xs (j + 1)) (xs (j + 2)) hJ
        rw [a1, qb]
        dsimp only
        rw [a2, qb]
        dsimp only
        rw [if_pos rfl]
        exact next h2 j2
      rw [if_neg e5]
      by_cases e6 : (xs j &&& (63 : Int32)) = (6 : Int32)
      · rw [if_pos e6]
        simp only [p1, z1, if_neg g1, p6]
        obtain ⟨v, h1, h2, a1, a2, j2⟩ := call_hand (xs (j + 1)) hJ
        rw [a1, qb]
        dsimp only
        rw [a2, qb]
        dsimp only
        rw [if_pos rfl]
        exact next h2 j2
      rw [if_neg e6]
      by_cases e7 : (xs j &&& (63 : Int32)) = (7 : Int32)
      · rw [if_pos e7]
        simp only [p1, z1, if_neg g1, p6]
        obtain ⟨v, h1, h2, a1, a2, j2⟩ := call_purse (xs (j + 1)) hJ
        rw [a1, qb]
        dsimp only
        rw [a2, qb]
        dsimp only
        rw [if_pos rfl]
        exact next h2 j2
      rw [if_neg e7]
      by_cases e8 : (xs j &&& (63 : Int32)) = (8 : Int32)
      · rw [if_pos e8]
        simp only [p1, z1, if_neg g1, p6]
        obtain ⟨v, h1, h2, a1, a2, j2⟩ := call_value (N := N) (by omega) (xs (j + 1)) hJ
        rw [a1, qb]
        dsimp only
        rw [a2, qb]
        dsimp only
        rw [if_pos rfl]
        exact next h2 j2
      rw [if_neg e8]
      by_cases e9 : (xs j &&& (63 : Int32)) = (9 : Int32)
      · rw [if_pos e9]
        simp only [p1, z1, if_neg g1, p2, z2, if_neg g2, p3, z3, if_neg g3, p6]
        obtain ⟨v, h1, h2, a1, a2, j2⟩ := call_type (N := N) (by omega) (((xs (j + 1)).toInt64 <<< ((32 : Int32).toInt64 &&& 63)) ||| ((xs (j + 2)).toInt64 &&& (4294967295 : Int64))) (xs (j + 3)) hJ
        rw [a1, qb]
        dsimp only
        rw [a2, qb]
        dsimp only
        rw [if_pos rfl]
        exact next h2 j2
      rw [if_neg e9]
      by_cases e10 : (xs j &&& (63 : Int32)) = (10 : Int32)
      · rw [if_pos e10]
        obtain ⟨v, h1, h2, a1, a2, j2⟩ := call_village (N := N) (by omega) hJ
        rw [a1, qb]
        dsimp only
        rw [a2, qb]
        dsimp only
        rw [if_pos rfl, p6]
        exact next h2 j2
      rw [if_neg e10]
      by_cases e11 : (xs j &&& (63 : Int32)) = (11 : Int32)
      · rw [if_pos e11]
        obtain ⟨v, h1, h2, a1, a2, j2⟩ := call_suits (N := N) (by omega) hJ
        rw [a1, qb]
        dsimp only
        rw [a2, qb]
        dsimp only
        rw [if_pos rfl, p6]
        exact next h2 j2
      rw [if_neg e11]
      by_cases e12 : (xs j &&& (63 : Int32)) = (12 : Int32)
      · rw [if_pos e12]
        simp only [p1, z1, if_neg g1, p6]
        obtain ⟨v, h1, h2, a1, a2, j2⟩ := call_count (N := N) (by omega) (xs (j + 1)) hJ
        rw [a1, qb]
        dsimp only
        rw [a2, qb]
        dsimp only
        rw [if_pos rfl]
        exact next h2 j2
      rw [if_neg e12]
      by_cases e13 : (xs j &&& (63 : Int32)) = (13 : Int32)
      · rw [if_pos e13]
        simp only [p1, z1, if_neg g1, p2, z2, if_neg g2, p3, z3, if_neg g3, p6]
        obtain ⟨v, h1, h2, a1, a2, j2⟩ := call_sale (N := N) (by omega) (xs (j + 1)) (xs (j + 2)) (xs (j + 3)) hJ
        rw [a1, qb]
        dsimp only
        rw [a2, qb]
        dsimp only
        rw [if_pos rfl]
        exact next h2 j2
      rw [if_neg e13]
      by_cases e14 : (xs j &&& (63 : Int32)) = (14 : Int32)
      · rw [if_pos e14]
        simp only [p1, z1, if_neg g1, p2, z2, if_neg g2, p6]
        obtain ⟨v, h1, h2, a1, a2, j2⟩ := call_swap (N := N) (by omega) (xs (j + 1)) (xs (j + 2)) hJ
        rw [a1, qb]
        dsimp only
        rw [a2, qb]
        dsimp only
        rw [if_pos rfl]
        exact next h2 j2
      rw [if_neg e14]
      by_cases e15 : (xs j &&& (63 : Int32)) = (15 : Int32)
      · rw [if_pos e15]
        simp only [p1, z1, if_neg g1, p6]
        obtain ⟨v, h1, h2, a1, a2, j2⟩ := call_give (N := N) (by omega) (xs (j + 1)) hJ
        rw [a1, qb]
        dsimp only
        rw [a2, qb]
        dsimp only
        rw [if_pos rfl]
        exact next h2 j2
      rw [if_neg e15]
      by_cases e16 : (xs j &&& (63 : Int32)) = (16 : Int32)
      · rw [if_pos e16]
        simp only [p1, z1, if_neg g1, p2, z2, if_neg g2, p6]
        obtain ⟨v, h1, h2, a1, a2, j2⟩ := call_wed (N := N) (by omega) (xs (j + 1)) (xs (j + 2)) hJ
        rw [a1, qb]
        dsimp only
        rw [a2, qb]
        dsimp only
        rw [if_pos rfl]
        exact next h2 j2
      rw [if_neg e16]
      by_cases e17 : (xs j &&& (63 : Int32)) = (17 : Int32)
      · rw [if_pos e17]
        simp only [p1, z1, if_neg g1, p2, z2, if_neg g2, p6]
        obtain ⟨v, h1, h2, a1, a2, j2⟩ := call_part (N := N) (by omega) (xs (j + 1)) (xs (j + 2)) hJ
        rw [a1, qb]
        dsimp only
        rw [a2, qb]
        dsimp only
        rw [if_pos rfl]
        exact next h2 j2
      rw [if_neg e17]
      by_cases e18 : (xs j &&& (63 : Int32)) = (18 : Int32)
      · rw [if_pos e18]
        simp only [p1, z1, if_neg g1, p2, z2, if_neg g2, p3, z3, if_neg g3, p6]
        obtain ⟨v, h1, h2, a1, a2, j2⟩ := call_gain (N := N) (by omega) (xs (j + 1)) (xs (j + 2)) (xs (j + 3)) hJ
        rw [a1, qb]
        dsimp only
        rw [a2, qb]
        dsimp only
        rw [if_pos rfl]
        exact next h2 j2
      rw [if_neg e18]
      by_cases e19 : (xs j &&& (63 : Int32)) = (19 : Int32)
      · rw [if_pos e19]
        simp only [p1, z1, if_neg g1, p2, z2, if_neg g2, p6]
        obtain ⟨v, h1, h2, a1, a2, j2⟩ := call_agreed (N := N) (by omega) (xs (j + 1)) (xs (j + 2)) hJ
        rw [a1, qb]
        dsimp only
        rw [a2, qb]
        dsimp only
        rw [if_pos rfl]
        exact next h2 j2
      rw [if_neg e19]
      by_cases e20 : (xs j &&& (63 : Int32)) = (20 : Int32)
      · rw [if_pos e20]
        simp only [p1, z1, if_neg g1, p6]
        obtain ⟨v, h1, h2, a1, a2, j2⟩ := call_rest (N := N) (by omega) (xs (j + 1)) hJ
        rw [a1, qb]
        dsimp only
        rw [a2, qb]
        dsimp only
        rw [if_pos rfl]
        exact next h2 j2
      rw [if_neg e20]
      by_cases e21 : (xs j &&& (63 : Int32)) = (21 : Int32)
      · rw [if_pos e21]
        simp only [p1, z1, if_neg g1, p6]
        obtain ⟨v, h1, h2, a1, a2, j2⟩ := call_group (N := N) (by omega) (xs (j + 1)) hJ
        rw [a1, qb]
        dsimp only
        rw [a2, qb]
        dsimp only
        rw [if_pos rfl]
        exact next h2 j2
      rw [if_neg e21]
      by_cases e22 : (xs j &&& (63 : Int32)) = (22 : Int32)
      · rw [if_pos e22]
        obtain ⟨v, h1, h2, a1, a2, j2⟩ := call_never (N := N) (by omega) hJ
        rw [a1, qb]
        dsimp only
        rw [a2, qb]
        dsimp only
        rw [if_pos rfl, p6]
        exact next h2 j2
      rw [if_neg e22]
      by_cases e23 : (xs j &&& (63 : Int32)) = (23 : Int32)
      · rw [if_pos e23]
        simp only [p1, z1, if_neg g1, p6]
        obtain ⟨v, h1, h2, a1, a2, j2⟩ := call_fewest (N := N) (by omega) (xs (j + 1)) hJ
        rw [a1, qb]
        dsimp only
        rw [a2, qb]
        dsimp only
        rw [if_pos rfl]
        exact next h2 j2
      rw [if_neg e23]
      by_cases e24 : (xs j &&& (63 : Int32)) = (24 : Int32)
      · rw [if_pos e24]
        simp only [p1, z1, if_neg g1, p2, z2, if_neg g2, p6]
        obtain ⟨v, h1, h2, a1, a2, j2⟩ := call_best (N := N) (by omega) (xs (j + 1)) (xs (j + 2)) hJ
        rw [a1, qb]
        dsimp only
        rw [a2, qb]
        dsimp only
        rw [if_pos rfl]
        exact next h2 j2
      rw [if_neg e24]
      by_cases e25 : (xs j &&& (63 : Int32)) = (25 : Int32)
      · rw [if_pos e25]
        simp only [p1, z1, if_neg g1, p2, z2, if_neg g2, p6]
        obtain ⟨v, h1, h2, a1, a2, j2⟩ := call_saves (N := N) (by omega) (xs (j + 1)) (xs (j + 2)) hJ
        rw [a1, qb]
        dsimp only
        rw [a2, qb]
        dsimp only
        rw [if_pos rfl]
        exact next h2 j2
      rw [if_neg e25]
      by_cases e26 : (xs j &&& (63 : Int32)) = (26 : Int32)
      · rw [if_pos e26]
        obtain ⟨v, h1, h2, a1, a2, j2⟩ := call_match (N := N) (by omega) hJ
        rw [a1, qb]
        dsimp only
        rw [a2, qb]
        dsimp only
        rw [if_pos rfl, p6]
        exact next h2 j2
      rw [if_neg e26]
      by_cases e27 : (xs j &&& (63 : Int32)) = (27 : Int32)
      · rw [if_pos e27]
        simp only [p1, z1, if_neg g1, p2, z2, if_neg g2, p3, z3, if_neg g3, p6]
        obtain ⟨v, h1, h2, a1, a2, j2⟩ := call_against (N := N) (by omega) (xs (j + 1)) (xs (j + 2)) (xs (j + 3)) hJ
        rw [a1, qb]
        dsimp only
        rw [a2, qb]
        dsimp only
        rw [if_pos rfl]
        exact next h2 j2
      rw [if_neg e27]
      by_cases e28 : (xs j &&& (63 : Int32)) = (28 : Int32)
      · rw [if_pos e28]
        simp only [p1, z1, if_neg g1, p2, z2, if_neg g2, p3, z3, if_neg g3, p4, z4, if_neg g4, p5, z5, if_neg g5, p6]
        obtain ⟨v, h1, h2, a1, a2, j2⟩ := call_pays (N := N) (by omega) (xs (j + 1)) (xs (j + 2)) (xs (j + 3)) (xs (j + 4)) (xs (j + 5)) hJ
        rw [a1, qb]
        dsimp only
        rw [a2, qb]
        dsimp only
        rw [if_pos rfl]
        exact next h2 j2
      rw [if_neg e28]
      by_cases e29 : (xs j &&& (63 : Int32)) = (29 : Int32)
      · rw [if_pos e29]
        obtain ⟨v, h1, h2, a1, a2, j2⟩ := call_image (N := N) (by omega) hJ
        rw [a1, qb]
        dsimp only
        rw [a2, qb]
        dsimp only
        rw [if_pos rfl, p6]
        exact next h2 j2
      rw [if_neg e29]
      by_cases e30 : (xs j &&& (63 : Int32)) = (30 : Int32)
      · rw [if_pos e30]
        obtain ⟨v, h1, h2, a1, a2, j2⟩ := call_restore (N := N) (by omega) hJ
        rw [a1, qb]
        dsimp only
        rw [a2, qb]
        dsimp only
        rw [if_pos rfl, p6]
        exact next h2 j2
      rw [if_neg e30]
      by_cases e31 : (xs j &&& (63 : Int32)) = (31 : Int32)
      · rw [if_pos e31]
        simp only [p1, z1, if_neg g1, p2, z2, if_neg g2, p3, z3, if_neg g3, p4, z4, if_neg g4, p6]
        obtain ⟨v, h1, h2, a1, a2, j2⟩ := call_deal (N := N) (by omega) (xs (j + 1)) (xs (j + 2)) (xs (j + 3)) (xs (j + 4)) hJ
        rw [a1, qb]
        dsimp only
        rw [a2, qb]
        dsimp only
        rw [if_pos rfl]
        exact next h2 j2
      rw [if_neg e31]
      by_cases e32 : (xs j &&& (63 : Int32)) = (32 : Int32)
      · rw [if_pos e32]
        simp only [p1, z1, if_neg g1, p2, z2, if_neg g2, p3, z3, if_neg g3, p6]
        obtain ⟨v, h1, h2, a1, a2, j2⟩ := call_sheet (N := N) (by omega) (xs (j + 1)) (xs (j + 2)) (xs (j + 3)) hJ
        rw [a1, qb]
        dsimp only
        rw [a2, qb]
        dsimp only
        rw [if_pos rfl]
        exact next h2 j2
      rw [if_neg e32]
      by_cases e33 : (xs j &&& (63 : Int32)) = (33 : Int32)
      · rw [if_pos e33]
        simp only [p1, z1, if_neg g1, p6]
        obtain ⟨v, h1, h2, a1, a2, j2⟩ := call_drop (xs (j + 1)) hJ
        rw [a1, qb]
        dsimp only
        rw [a2, qb]
        dsimp only
        rw [if_pos rfl]
        exact next h2 j2
      rw [if_neg e33]
      by_cases e34 : (xs j &&& (63 : Int32)) = (34 : Int32)
      · rw [if_pos e34]
        simp only [p1, z1, if_neg g1, p2, z2, if_neg g2, p3, z3, if_neg g3, p4, z4, if_neg g4, p6]
        obtain ⟨v, h1, h2, a1, a2, j2⟩ := call_item (xs (j + 1)) (xs (j + 2)) (xs (j + 3)) (xs (j + 4)) hJ
        rw [a1, qb]
        dsimp only
        rw [a2, qb]
        dsimp only
        rw [if_pos rfl]
        exact next h2 j2
      rw [if_neg e34]
      by_cases e35 : (xs j &&& (63 : Int32)) = (35 : Int32)
      · rw [if_pos e35]
        simp only [p1, z1, if_neg g1, p2, z2, if_neg g2, p3, z3, if_neg g3, p4, z4, if_neg g4, p5, z5, if_neg g5, p6]
        obtain ⟨v, h1, h2, a1, a2, j2⟩ := call_copy (N := N) (by omega) (xs (j + 1)) (xs (j + 2)) (xs (j + 3)) (xs (j + 4)) (xs (j + 5)) hJ
        rw [a1, qb]
        dsimp only
        rw [a2, qb]
        dsimp only
        rw [if_pos rfl]
        exact next h2 j2
      rw [if_neg e35]
      rw [p6]
      exact next h hJ
