/-! ===== pure 25: texts read by the reference, rows of clauses ===== -/
section Txt3
variable {N len : Nat} {tp : Nat → Nat} {h : qN} {p : Nat}
def sd4 (o : Option Nat) : Int32 := match o with | none => -4 | some x => nI x
theorem X6_side0 {T : Nat} (hT : T ≤ 8) (hl : len ≤ 80) (ht : ∀ k, k < len → 32 ≤ tp k ∧ tp k ≤ 126) (hN : 80 < N) (but : Int32) (hc : RTp tp len h p) (h0 : h 60 14 = 0) (h3 : h 60 3 = nI T) :
    ∃ h1, f_X6_side N but h = some (sd4 (sdS T (sg tp len p)), h1) ∧ RTp tp len h1 (if sdS T (sg tp len p) = none ∨ sd4 (sdS T (sg tp len p)) = but then sk tp len p else sk tp len p + 1) ∧ h1 60 14 = (if sdS T (sg tp len p) = none ∨ sd4 (sdS T (sg tp len p)) = but then 1 else 0) ∧ Off P1314 h h1 := by
  obtain ⟨h1, a1, b1, e1, c1⟩ := X6_here14 hl ht hN hc h0
  have hp := hc.2.2.2
  have hz := sg_le (p := p) ht
  have h31 : h1 60 3 = nI T := by rw [c1 60 3 (by unfold P1314; omega)]; exact h3
  have e97 : (97 : Int64).toInt = 97 := rfl
  have e104 : (104 : Int64).toInt = 104 := rfl
  have e48 : (48 : Int64).toInt = 48 := rfl
  have e53 : (53 : Int64).toInt = 53 := rfl
  have e13 : ∀ v, (qup h1 60 14 v) 60 13 = nI (sk tp len p) := fun v => b1.2.2.1
  have m4 : ((-4 : Int32) < 0) = True := eq_true (by decide)
  have es : (nI (sg tp len p)).toInt = ((sg tp len p : Nat) : Int) := nI_toInt (by omega)
  have bad : ∀ v : Int32, RTp tp len (qup (qup h1 60 14 v) 60 13 (nI (sk tp len p))) (sk tp len p) := fun v => (b1.e14 (v := v)).at (q := sk tp len p) b1.2.2.2
  have good : sg tp len p ≠ 0 → ∀ v : Int32, RTp tp len (qup (qup h1 60 14 v) 60 13 (nI (sk tp len p + 1))) (sk tp len p + 1) := fun z v => (b1.e14 (v := v)).at (q := sk tp len p + 1) (by have := sg_lt z; omega)
  have o1 : ∀ v w : Int32, Off P1314 h (qup (qup h1 60 14 v) 60 13 w) := fun v w => c1.tr ((off_up (by unfold P1314; omega)).tr (off_up (by unfold P1314; omega)))
  have f14 : ∀ v w : Int32, (qup (qup h1 60 14 v) 60 13 w) 60 14 = v := fun v w => by simp [qup]
  generalize hzz : sg tp len p = z at *
  by_cases c97 : (97 : Int) ≤ (z : Int) ∧ (z : Int) ≤ 104
  · have z97 : nI z - (97 : Int32) = nI (z - 97) := by rw [k97, pk_sub (by omega)]
    have et : (nI (z - 97)).toInt = ((z - 97 : Nat) : Int) := nI_toInt (by omega)
    have c48 : ¬ ((48 : Int) ≤ (z : Int) ∧ (z : Int) ≤ 53) := by omega
    have t6 := X6_isThing h31 hT (nI (z - 97))
    rw [et] at t6
    by_cases c2 : (0 : Int) ≤ ((z - 97 : Nat) : Int) ∧ ((z - 97 : Nat) : Int) < (T : Int)
    · have sd : sdS T z = some (z - 97) := by unfold sdS; rw [if_pos (by omega)]
      have lt0 : (nI (z - 97) < 0) = False := eq_false (nI_pos (by omega))
      rw [if_pos c2] at t6
      rw [sd]
      simp only [reduceCtorEq, false_or, sd4]
      by_cases eb : nI (z - 97) = but
      · refine ⟨qup (qup h1 60 14 1) 60 13 (nI (sk tp len p)), ?_, by rw [if_pos eb]; exact bad 1, by rw [if_pos eb]; exact f14 _ _, o1 _ _⟩
        unfold f_X6_side
        simp only [if_pos h0, a1, qb, X6_in, a64, e97, e104, es, if_pos c97, one0, if_false, z97, t6, e1, zero0, if_true, lt0, if_pos eb, eq_self, or_true, qup_at, e13, zadd0]
      · refine ⟨qup (qup h1 60 14 0) 60 13 (nI (sk tp len p + 1)), ?_, by rw [if_neg eb]; exact good (by omega) 0, by rw [if_neg eb]; exact f14 _ _, o1 _ _⟩
        unfold f_X6_side
        simp only [if_pos h0, a1, qb, X6_in, a64, e97, e104, es, if_pos c97, one0, if_false, z97, t6, e1, zero0, if_true, lt0, if_neg eb, true_or, qup_at, e13, nI_1]
    · have sd : sdS T z = none := by unfold sdS; rw [if_neg (by omega), if_neg (by omega)]
      rw [if_neg c2] at t6
      rw [sd]
      simp only [true_or, if_true, sd4]
      refine ⟨qup (qup h1 60 14 1) 60 13 (nI (sk tp len p)), ?_, bad 1, f14 _ _, o1 _ _⟩
      unfold f_X6_side
      simp only [if_pos h0, a1, qb, X6_in, a64, e97, e104, e48, e53, es, if_pos c97, one0, if_false, z97, t6, e1, zero0, if_true, if_neg c48, m4, eq_self, or_true, qup_at, e13, zadd0]
  · by_cases c48 : (48 : Int) ≤ (z : Int) ∧ (z : Int) ≤ 53
    · have sd : sdS T z = some (10 + (z - 48)) := by unfold sdS; rw [if_neg (by omega), if_pos (by omega)]
      have z38 : nI z - (38 : Int32) = nI (10 + (z - 48)) := by
        rw [show (38 : Int32) = nI 38 from rfl, pk_sub (by omega)]
        congr 1
        omega
      have lt0 : (nI (10 + (z - 48)) < 0) = False := eq_false (nI_pos (by omega))
      rw [sd]
      simp only [reduceCtorEq, false_or, sd4]
      by_cases eb : nI (10 + (z - 48)) = but
      · refine ⟨qup (qup h1 60 14 1) 60 13 (nI (sk tp len p)), ?_, by rw [if_pos eb]; exact bad 1, by rw [if_pos eb]; exact f14 _ _, o1 _ _⟩
        unfold f_X6_side
        simp only [if_pos h0, a1, qb, X6_in, a64, e97, e104, e48, e53, es, if_neg c97, one0, if_false, if_pos c48, z38, e1, zero0, if_true, lt0, if_pos eb, eq_self, or_true, qup_at, e13, zadd0]
      · refine ⟨qup (qup h1 60 14 0) 60 13 (nI (sk tp len p + 1)), ?_, by rw [if_neg eb]; exact good (by omega) 0, by rw [if_neg eb]; exact f14 _ _, o1 _ _⟩
        unfold f_X6_side
        simp only [if_pos h0, a1, qb, X6_in, a64, e97, e104, e48, e53, es, if_neg c97, one0, if_false, if_pos c48, z38, e1, zero0, if_true, lt0, if_neg eb, true_or, qup_at, e13, nI_1]
    · have sd : sdS T z = none := by unfold sdS; rw [if_neg (by omega), if_neg (by omega)]
      rw [sd]
      simp only [true_or, if_true, sd4]
      refine ⟨qup (qup h1 60 14 1) 60 13 (nI (sk tp len p)), ?_, bad 1, f14 _ _, o1 _ _⟩
      unfold f_X6_side
      simp only [if_pos h0, a1, qb, X6_in, a64, e97, e104, e48, e53, es, if_neg c97, one0, if_false, e1, zero0, if_true, if_neg c48, m4, eq_self, or_true, qup_at, e13, zadd0]
theorem X6_side1 (but : Int32) (hc : RTp tp len h p) (h1 : h 60 14 = 1) :
    ∃ h1, f_X6_side N but h = some (-4, h1) ∧ RTp tp len h1 p ∧ h1 60 14 = 1 ∧ Off P1314 h h1 := by
  have n0 : ¬ h 60 14 = 0 := by rw [h1]; decide
  have e13 : (qup h 60 14 1) 60 13 = nI p := hc.2.2.1
  have c97 : ¬ ((97 : Int64).toInt ≤ (0 : Int32).toInt ∧ (0 : Int32).toInt ≤ (104 : Int64).toInt) := by decide
  have c48 : ¬ ((48 : Int64).toInt ≤ (0 : Int32).toInt ∧ (0 : Int32).toInt ≤ (53 : Int64).toInt) := by decide
  refine ⟨qup (qup h 60 14 1) 60 13 (nI p), ?_, (hc.e14 (v := 1)).at (q := p) hc.2.2.2, by simp [qup], (off_up (by unfold P1314; omega)).tr (off_up (by unfold P1314; omega))⟩
  unfold f_X6_side
  simp only [if_neg n0, qb, X6_in, a64, if_neg c97, if_neg c48, one0, if_false, zero0, if_true, eq_self, or_true, qup_at, e13, zadd0]
theorem X6_suitC {T : Nat} (hT : T ≤ 8) (hl : len ≤ 80) (ht : ∀ k, k < len → 32 ≤ tp k ∧ tp k ≤ 126) (hN : 80 < N) {b : Nat} {F : Nat → Nat} (hc : RTp tp len h p) (h0 : h 60 14 = 0) (h3 : h 60 3 = nI T) (hF : ∀ x, x < b → h 69 x = nI (F x)) :
    ∃ x h1 y h2, f_X6_side N (-4) h = some (x, h1) ∧ f_X6_side N x (qup h1 69 b x) = some (y, h2) ∧ RTp tp len h2 (suS tp len T b p F).2.1 ∧ h2 60 14 = (if (suS tp len T b p F).1 = true then 0 else 1) ∧ ((suS tp len T b p F).1 = true → ∀ z, z < b + 2 → (qup h2 69 (b + 1) y) 69 z = nI ((suS tp len T b p F).2.2 z)) ∧ Off PT6 h h2 := by
  obtain ⟨h1, a1, b1, e1, c1⟩ := X6_side0 hT hl ht hN (-4) hc h0 h3
  have c1' := c1.weaken P1314_6
  unfold suS
  cases hs : sdS T (sg tp len p) with
  | none =>
    rw [hs] at a1 b1 e1
    simp only [true_or, if_true] at b1 e1
    obtain ⟨h2, a2, b2, e2, c2⟩ := X6_side1 (N := N) (h := qup h1 69 b (sd4 none)) (sd4 none) b1.o69 e1
    exact ⟨_, h1, _, h2, a1, a2, b2, by rw [e2]; simp, fun z => absurd z (by simp), c1'.tr ((off_up (by unfold PT6; omega)).tr (c2.weaken P1314_6))⟩
  | some x =>
    obtain ⟨x16, xo, z0⟩ := sdS_le hT hs
    have n4 : ¬ (nI x = (-4 : Int32)) := by
      intro z
      have := nI_pos (n := x) (by omega)
      rw [z] at this
      exact this (by decide)
    rw [hs] at a1 b1 e1
    simp only [reduceCtorEq, false_or, sd4, if_neg n4] at a1 b1 e1
    have h31 : (qup h1 69 b (nI x)) 60 3 = nI T := by rw [show (qup h1 69 b (nI x)) 60 3 = h1 60 3 from rfl, c1 60 3 (by unfold P1314; omega)]; exact h3
    obtain ⟨h2, a2, b2, e2, c2⟩ := X6_side0 hT hl ht hN (nI x) (h := qup h1 69 b (nI x)) b1.o69 e1 h31
    have oo : Off PT6 h h2 := c1'.tr ((off_up (by unfold PT6; omega)).tr (c2.weaken P1314_6))
    dsimp only
    cases hs2 : sdS T (sg tp len (sk tp len p + 1)) with
    | none =>
      rw [hs2] at a2 b2 e2
      simp only [true_or, if_true] at b2 e2
      exact ⟨_, h1, _, h2, a1, a2, b2, by rw [e2]; simp, fun z => absurd z (by simp), oo⟩
    | some y =>
      obtain ⟨y16, yo, z2⟩ := sdS_le hT hs2
      have ey : (nI y = nI x) = (y = x) := propext (nI_eq (by omega) (by omega))
      rw [hs2] at a2 b2 e2
      simp only [reduceCtorEq, false_or, sd4, ey] at a2 b2 e2
      dsimp only
      by_cases e : y = x
      · simp only [if_pos e] at b2 e2
        simp only [if_pos e]
        exact ⟨_, h1, _, h2, a1, a2, b2, by rw [e2]; simp, fun z => absurd z (by simp), oo⟩
      · simp only [if_neg e] at b2 e2
        simp only [if_neg e]
        refine ⟨_, h1, _, h2, a1, a2, b2, by rw [e2]; simp, fun _ z hz => ?_, oo⟩
        simp only [qup, if_true]
        by_cases q1 : z = b + 1
        · rw [if_pos q1, if_pos q1]
        · rw [if_neg q1, if_neg q1, c2 69 z (by unfold P1314; omega)]
          simp only [qup, if_true]
          by_cases q2 : z = b
          · rw [if_pos q2, if_pos q2]
          · rw [if_neg q2, if_neg q2, c1 69 z (by unfold P1314; omega)]; exact hF z (by omega)
theorem X6_rdV_L {T : Nat} (hl : len ≤ 80) (ht : ∀ k, k < len → 32 ≤ tp k ∧ tp k ≤ 126) (hN : 80 < N) : ∀ (k l n p : Nat) (F : Nat → Nat) (h : qN), 8 = l + k → k < n → 0 < k → RTp tp len h p → h 60 14 = 0 → h 60 3 = nI T → (∀ x, x < 7 * l → h 69 x = nI (F x)) →
    ∃ m h1 q, f_X6_readAll_L14 N 1 n (nI l) 1 h = some (nI m, h1) ∧ RTp tp len h1 q ∧ ((h1 60 14 = 0 ∧ sk tp len q = (rdS tp len (thS tp len) 7 59 k l p F).2.2.1 ∧ ((rdS tp len (thS tp len) 7 59 k l p F).1 = true ↔ sg tp len q = 0) ∧ ((rdS tp len (thS tp len) 7 59 k l p F).1 = true → m = (rdS tp len (thS tp len) 7 59 k l p F).2.1 ∧ ∀ x, x < 7 * m → h1 69 x = nI ((rdS tp len (thS tp len) 7 59 k l p F).2.2.2 x))) ∨ (h1 60 14 = 1 ∧ (rdS tp len (thS tp len) 7 59 k l p F).1 = false ∧ q = (rdS tp len (thS tp len) 7 59 k l p F).2.2.1)) ∧ Off PT6 h h1 := by
  intro k
  induction k with
  | zero => intro l n p F h e hn h0; omega
  | succ k ih =>
    intro l n p F h e hn h0 hc e14 e3 hF
    obtain ⟨n, rfl⟩ : ∃ m, n = m + 2 := ⟨n - 2, by omega⟩
    have fin : ∀ (m : Nat) (h2 : qN), f_X6_readAll_L14 N 1 (n + 1) (nI m) 0 h2 = some (nI m, h2) := fun m h2 => by rw [f_X6_readAll_L14.eq_2, if_pos rfl]
    have lim : ((8 : Int32) ≤ nI l + 1) = (k = 0) := propext (by rw [nI_1, show (8 : Int32) = nI 8 from rfl, nI_leI (by omega) (by omega)]; omega)
    rw [f_X6_readAll_L14.eq_2, if_neg (by decide)]
    have i7 : (7 : Int32) * nI l = nI (7 * l) := by rw [k7, pk_mul]
    obtain ⟨h2, a1, b1, d1, g1, f1⟩ := X6_thingClause hl ht hN (b := 7 * l) (F := F) (by omega) hc e14 hF
    rw [if_neg (by decide), i7, a1, qb, qb]
    simp only [rdS]
    have lim' : ((if (1 : Int32) = 0 then (12 : Int32) else (8 : Int32)) ≤ nI l + 1) = (k = 0) := by rw [if_neg (by decide)]; exact lim
    have sep' : (if (1 : Int32) = 0 then (44 : Int32) else (59 : Int32)) = nI 59 := by rw [if_neg (by decide)]; rfl
    rw [sep']
    cases hok : ((thS tp len) (7 * l) p F).1 with
    | false =>
      rw [hok, if_neg (by simp)] at d1
      simp only [Bool.false_eq_true, if_false]
      by_cases k0' : k = 0
      · rw [if_pos (by rw [lim']; exact k0'), qb]
        dsimp only
        rw [nI_1, fin]
        exact ⟨l + 1, h2, _, rfl, b1, Or.inr ⟨d1, trivial, rfl⟩, f1⟩
      · obtain ⟨h3, a3, b3, d3, f3⟩ := X6_has1 (N := N) (x := nI 59) b1 d1
        rw [if_neg (by rw [lim']; exact k0'), a3, qb]
        dsimp only
        rw [if_pos rfl, qb]
        dsimp only
        rw [nI_1, fin]
        exact ⟨l + 1, h3, _, rfl, b3, Or.inr ⟨d3, trivial, rfl⟩, f1.tr (f3.weaken P1314_6)⟩
    | true =>
      rw [hok, if_pos rfl] at d1
      have g1 := g1 hok
      have b1p := b1.2.2.2
      simp only [if_true]
      by_cases k0' : k = 0
      · have kn : ¬ (sg tp len ((thS tp len) (7 * l) p F).2.1 = 59 ∧ k ≠ 0) := fun z => z.2 k0'
        rw [if_pos (by rw [lim']; exact k0'), qb]
        dsimp only
        rw [nI_1, fin, if_neg kn]
        refine ⟨l + 1, h2, _, rfl, b1, Or.inl ⟨d1, ?_, ?_, ?_⟩, f1⟩
        · by_cases s0 : sg tp len ((thS tp len) (7 * l) p F).2.1 = 0
          · rw [if_pos s0]
          · rw [if_neg s0]
        · by_cases s0 : sg tp len ((thS tp len) (7 * l) p F).2.1 = 0
          · rw [if_pos s0]; exact ⟨fun _ => s0, fun _ => rfl⟩
          · rw [if_neg s0]; exact ⟨fun z => absurd z (by simp), fun z => absurd z s0⟩
        · by_cases s0 : sg tp len ((thS tp len) (7 * l) p F).2.1 = 0
          · rw [if_pos s0]; exact fun _ => ⟨rfl, fun x hx => g1 x (by rw [Nat.mul_add] at hx; omega)⟩
          · rw [if_neg s0]; exact fun z => absurd z (by simp)
      · obtain ⟨h3, a3, b3, d3, f3⟩ := X6_has0 hl ht hN (c := 59) (by omega) (by omega) b1 d1
        have f3' := f3.weaken P1314_6
        rw [if_neg (by rw [lim']; exact k0'), a3, qb]
        dsimp only
        by_cases cs : sg tp len ((thS tp len) (7 * l) p F).2.1 = 59
        · have s0 : ¬ sg tp len ((thS tp len) (7 * l) p F).2.1 = 0 := by omega
          rw [if_pos cs] at b3
          rw [if_pos cs, if_neg (by decide), qb, if_neg s0, if_pos ⟨cs, k0'⟩]
          dsimp only
          rw [nI_1]
          obtain ⟨m, h4, q, a4, b4, c4, f4⟩ := ih (l + 1) (n + 1) _ ((thS tp len) (7 * l) p F).2.2 h3 (by omega) (by omega) (by omega) b3 d3 (by rw [f3 60 3 (by unfold P1314; omega), f1 60 3 (by unfold PT6; omega)]; exact e3) (fun x hx => by
            rw [f3 69 x (by unfold P1314; omega)]
            exact g1 x (by rw [Nat.mul_add] at hx; omega))
          exact ⟨m, h4, q, a4, b4, c4, f1.tr (f3'.tr f4)⟩
        · have kn : ¬ (sg tp len ((thS tp len) (7 * l) p F).2.1 = 59 ∧ k ≠ 0) := fun z => cs z.1
          rw [if_neg cs] at b3
          rw [if_neg cs, if_pos rfl, qb, if_neg kn]
          dsimp only
          rw [nI_1, fin]
          refine ⟨l + 1, h3, _, rfl, b3, Or.inl ⟨d3, ?_, ?_, ?_⟩, f1.tr f3'⟩
          · rw [sk_sk b1p]
            by_cases s0 : sg tp len ((thS tp len) (7 * l) p F).2.1 = 0
            · rw [if_pos s0]
            · rw [if_neg s0]
          · rw [sg_sk b1p]
            by_cases s0 : sg tp len ((thS tp len) (7 * l) p F).2.1 = 0
            · rw [if_pos s0]; exact ⟨fun _ => s0, fun _ => rfl⟩
            · rw [if_neg s0]; exact ⟨fun z => absurd z (by simp), fun z => absurd z s0⟩
          · by_cases s0 : sg tp len ((thS tp len) (7 * l) p F).2.1 = 0
            · rw [if_pos s0]; exact fun _ => ⟨rfl, fun x hx => by rw [f3 69 x (by unfold P1314; omega)]; exact g1 x (by rw [Nat.mul_add] at hx; omega)⟩
            · rw [if_neg s0]; exact fun z => absurd z (by simp)
theorem X6_rdV {T : Nat} (hl : len ≤ 80) (ht : ∀ k, k < len → 32 ≤ tp k ∧ tp k ≤ 126) (hN : 80 < N) (F : Nat → Nat) (e3 : h 60 3 = nI T) (h2 : h 60 12 = nI len) (h9 : ∀ k, k < len → h 68 k = nI (tp k)) :
    ∃ h1, f_X6_readAll N 1 h = some (rdV (rdS tp len (thS tp len) 7 59 8 0 0 F), h1) ∧ ((rdS tp len (thS tp len) 7 59 8 0 0 F).1 = true → ∀ x, x < 7 * (rdS tp len (thS tp len) 7 59 8 0 0 F).2.1 → h1 69 x = nI ((rdS tp len (thS tp len) 7 59 8 0 0 F).2.2.2 x)) ∧ h1 60 12 = 0 ∧ Off PT6 h h1 := by
  obtain ⟨m, h1, q, a1, b1, c1, d1⟩ := X6_rdV_L (T := T) hl ht hN 8 0 N 0 F (qup (qup h 60 13 (nI 0)) 60 14 0) (by omega) (by omega) (by omega) ⟨h2, h9, by simp [qup], by omega⟩ (by simp [qup]) e3 (fun x hx => by omega)
  have o1 : Off PT6 h h1 := Off.tr (Off.up (off_up (by unfold PT6; omega)) (by unfold PT6; omega)) d1
  have hq := b1.2.2.2
  unfold f_X6_readAll
  rw [show (f_X6_readAll_L14 N 1 N 0 1 (qup (qup h 60 13 0) 60 14 0)) = some (nI m, h1) from a1, qb]
  dsimp only
  rcases c1 with ⟨z1, z2, z3, z4⟩ | ⟨z1, z2, z3⟩
  · obtain ⟨h3, a3, b3, e3', f3⟩ := X6_here14 hl ht hN b1 z1
    have o3 : Off PT6 h h3 := o1.tr (f3.weaken P1314_6)
    simp only [if_pos z1, a3, qb]
    cases hR : (rdS tp len (thS tp len) 7 59 8 0 0 F).1 with
    | true =>
      have s0 := z3.mp hR
      obtain ⟨z5, z6⟩ := z4 hR
      rw [s0]
      simp only [show (nI 0 : Int32) = 0 from rfl, zero0, if_true, qb, true_or]
      have w14 : (qup (qup h3 60 14 0) 60 12 0) 60 14 = 0 := by simp [qup]
      refine ⟨qup (qup h3 60 14 0) 60 12 0, ?_, fun _ x hx => ?_, by simp [qup], Off.up (Off.up o3 (by unfold PT6; omega)) (by unfold PT6; omega)⟩
      · simp only [w14, zero0, if_true]
        unfold rdV
        rw [hR, if_pos rfl, z5]
      · show h3 69 x = _
        rw [f3 69 x (by unfold P1314; omega)]
        exact z6 x (by rw [z5]; exact hx)
    | false =>
      have s0 : ¬ sg tp len q = 0 := fun z => by rw [z3.mpr z] at hR; exact absurd hR (by simp)
      have s126 := sg_le (p := q) ht
      have sI : ¬ nI (sg tp len q) = 0 := by rw [k0, nI_eq (by omega) (by omega)]; exact s0
      simp only [if_neg sI, qb, one0, if_false, or_true, if_true]
      have w14 : ¬ (qup (qup h3 60 14 1) 60 12 0) 60 14 = 0 := by simp [qup]
      have w13 : (qup (qup h3 60 14 1) 60 12 0) 60 13 = nI (sk tp len q) := b3.2.2.1
      refine ⟨qup (qup h3 60 14 1) 60 12 0, ?_, fun z => absurd z (by simp), by simp [qup], Off.up (Off.up o3 (by unfold PT6; omega)) (by unfold PT6; omega)⟩
      rw [if_neg w14, w13]
      unfold rdV
      rw [hR, if_neg (by simp), z2]
  · have zn : ¬ h1 60 14 = 0 := by rw [z1]; decide
    simp only [if_neg zn, qb, or_true, if_true]
    have w14 : ¬ (qup (qup h1 60 14 1) 60 12 0) 60 14 = 0 := by simp [qup]
    have w13 : (qup (qup h1 60 14 1) 60 12 0) 60 13 = nI q := b1.2.2.1
    refine ⟨qup (qup h1 60 14 1) 60 12 0, ?_, fun z => absurd z (by rw [z2]; simp), by simp [qup], Off.up (Off.up o1 (by unfold PT6; omega)) (by unfold PT6; omega)⟩
    rw [if_neg w14, w13]
    unfold rdV
    rw [z2, if_neg (by simp), z3]
theorem X6_rdS_L {T : Nat} (hT : T ≤ 8) (hl : len ≤ 80) (ht : ∀ k, k < len → 32 ≤ tp k ∧ tp k ≤ 126) (hN : 80 < N) : ∀ (k l n p : Nat) (F : Nat → Nat) (h : qN), 12 = l + k → k < n → 0 < k → RTp tp len h p → h 60 14 = 0 → h 60 3 = nI T → (∀ x, x < 2 * l → h 69 x = nI (F x)) →
    ∃ m h1 q, f_X6_readAll_L14 N 0 n (nI l) 1 h = some (nI m, h1) ∧ RTp tp len h1 q ∧ ((h1 60 14 = 0 ∧ sk tp len q = (rdS tp len (suS tp len T) 2 44 k l p F).2.2.1 ∧ ((rdS tp len (suS tp len T) 2 44 k l p F).1 = true ↔ sg tp len q = 0) ∧ ((rdS tp len (suS tp len T) 2 44 k l p F).1 = true → m = (rdS tp len (suS tp len T) 2 44 k l p F).2.1 ∧ ∀ x, x < 2 * m → h1 69 x = nI ((rdS tp len (suS tp len T) 2 44 k l p F).2.2.2 x))) ∨ (h1 60 14 = 1 ∧ (rdS tp len (suS tp len T) 2 44 k l p F).1 = false ∧ q = (rdS tp len (suS tp len T) 2 44 k l p F).2.2.1)) ∧ Off PT6 h h1 := by
  intro k
  induction k with
  | zero => intro l n p F h e hn h0; omega
  | succ k ih =>
    intro l n p F h e hn h0 hc e14 e3 hF
    obtain ⟨n, rfl⟩ : ∃ m, n = m + 2 := ⟨n - 2, by omega⟩
    have fin : ∀ (m : Nat) (h2 : qN), f_X6_readAll_L14 N 0 (n + 1) (nI m) 0 h2 = some (nI m, h2) := fun m h2 => by rw [f_X6_readAll_L14.eq_2, if_pos rfl]
    have lim : ((12 : Int32) ≤ nI l + 1) = (k = 0) := propext (by rw [nI_1, show (12 : Int32) = nI 12 from rfl, nI_leI (by omega) (by omega)]; omega)
    rw [f_X6_readAll_L14.eq_2, if_neg (by decide)]
    have i2 : (2 : Int32) * nI l = nI (2 * l) := by rw [k2, pk_mul]
    obtain ⟨x, g2, y, g3, as1, as2, b1, d1, g1, f1⟩ := X6_suitC hT hl ht hN (b := 2 * l) (F := F) hc e14 e3 hF
    have hc1 := nchk2 (j := 2 * l) (n := 56) (by omega) (by omega)
    have hc2 := nchk2 (j := 2 * l + 1) (n := 56) (by omega) (by omega)
    obtain ⟨h2, hh2⟩ : ∃ h2, qup g3 69 (2 * l + 1) y = h2 := ⟨_, rfl⟩
    have b1 : RTp tp len h2 (suS tp len T (2 * l) p F).2.1 := by rw [← hh2]; exact b1.o69
    have d1 : h2 60 14 = (if (suS tp len T (2 * l) p F).1 = true then 0 else 1) := by rw [← hh2]; exact d1
    have f1 : Off PT6 h h2 := by rw [← hh2]; exact Off.up f1 (by unfold PT6; omega)
    rw [hh2] at g1
    rw [if_pos rfl, as1, qb]
    simp only [i2, nI_clamp (show 2 * l < 2 ^ 31 by omega), if_neg hc1, qup_at, as2, qb, nI_1, nI_clamp (show 2 * l + 1 < 2 ^ 31 by omega), if_neg hc2, hh2, if_true]
    rw [← nI_1]
    simp only [rdS]
    have lim' : ((12 : Int32) ≤ nI l + 1) = (k = 0) := by exact lim
    have sep' : (44 : Int32) = nI 44 := by rfl
    rw [sep']
    cases hok : ((suS tp len T) (2 * l) p F).1 with
    | false =>
      rw [hok, if_neg (by simp)] at d1
      simp only [Bool.false_eq_true, if_false]
      by_cases k0' : k = 0
      · rw [if_pos (by rw [lim']; exact k0'), qb]
        dsimp only
        rw [nI_1, fin]
        exact ⟨l + 1, h2, _, rfl, b1, Or.inr ⟨d1, trivial, rfl⟩, f1⟩
      · obtain ⟨h3, a3, b3, d3, f3⟩ := X6_has1 (N := N) (x := nI 44) b1 d1
        rw [if_neg (by rw [lim']; exact k0'), a3, qb]
        dsimp only
        rw [if_pos rfl, qb]
        dsimp only
        rw [nI_1, fin]
        exact ⟨l + 1, h3, _, rfl, b3, Or.inr ⟨d3, trivial, rfl⟩, f1.tr (f3.weaken P1314_6)⟩
    | true =>
      rw [hok, if_pos rfl] at d1
      have g1 := g1 hok
      have b1p := b1.2.2.2
      simp only [if_true]
      by_cases k0' : k = 0
      · have kn : ¬ (sg tp len ((suS tp len T) (2 * l) p F).2.1 = 44 ∧ k ≠ 0) := fun z => z.2 k0'
        rw [if_pos (by rw [lim']; exact k0'), qb]
        dsimp only
        rw [nI_1, fin, if_neg kn]
        refine ⟨l + 1, h2, _, rfl, b1, Or.inl ⟨d1, ?_, ?_, ?_⟩, f1⟩
        · by_cases s0 : sg tp len ((suS tp len T) (2 * l) p F).2.1 = 0
          · rw [if_pos s0]
          · rw [if_neg s0]
        · by_cases s0 : sg tp len ((suS tp len T) (2 * l) p F).2.1 = 0
          · rw [if_pos s0]; exact ⟨fun _ => s0, fun _ => rfl⟩
          · rw [if_neg s0]; exact ⟨fun z => absurd z (by simp), fun z => absurd z s0⟩
        · by_cases s0 : sg tp len ((suS tp len T) (2 * l) p F).2.1 = 0
          · rw [if_pos s0]; exact fun _ => ⟨rfl, fun x hx => g1 x (by rw [Nat.mul_add] at hx; omega)⟩
          · rw [if_neg s0]; exact fun z => absurd z (by simp)
      · obtain ⟨h3, a3, b3, d3, f3⟩ := X6_has0 hl ht hN (c := 44) (by omega) (by omega) b1 d1
        have f3' := f3.weaken P1314_6
        rw [if_neg (by rw [lim']; exact k0'), a3, qb]
        dsimp only
        by_cases cs : sg tp len ((suS tp len T) (2 * l) p F).2.1 = 44
        · have s0 : ¬ sg tp len ((suS tp len T) (2 * l) p F).2.1 = 0 := by omega
          rw [if_pos cs] at b3
          rw [if_pos cs, if_neg (by decide), qb, if_neg s0, if_pos ⟨cs, k0'⟩]
          dsimp only
          rw [nI_1]
          obtain ⟨m, h4, q, a4, b4, c4, f4⟩ := ih (l + 1) (n + 1) _ ((suS tp len T) (2 * l) p F).2.2 h3 (by omega) (by omega) (by omega) b3 d3 (by rw [f3 60 3 (by unfold P1314; omega), f1 60 3 (by unfold PT6; omega)]; exact e3) (fun x hx => by
            rw [f3 69 x (by unfold P1314; omega)]
            exact g1 x (by rw [Nat.mul_add] at hx; omega))
          exact ⟨m, h4, q, a4, b4, c4, f1.tr (f3'.tr f4)⟩
        · have kn : ¬ (sg tp len ((suS tp len T) (2 * l) p F).2.1 = 44 ∧ k ≠ 0) := fun z => cs z.1
          rw [if_neg cs] at b3
          rw [if_neg cs, if_pos rfl, qb, if_neg kn]
          dsimp only
          rw [nI_1, fin]
          refine ⟨l + 1, h3, _, rfl, b3, Or.inl ⟨d3, ?_, ?_, ?_⟩, f1.tr f3'⟩
          · rw [sk_sk b1p]
            by_cases s0 : sg tp len ((suS tp len T) (2 * l) p F).2.1 = 0
            · rw [if_pos s0]
            · rw [if_neg s0]
          · rw [sg_sk b1p]
            by_cases s0 : sg tp len ((suS tp len T) (2 * l) p F).2.1 = 0
            · rw [if_pos s0]; exact ⟨fun _ => s0, fun _ => rfl⟩
            · rw [if_neg s0]; exact ⟨fun z => absurd z (by simp), fun z => absurd z s0⟩
          · by_cases s0 : sg tp len ((suS tp len T) (2 * l) p F).2.1 = 0
            · rw [if_pos s0]; exact fun _ => ⟨rfl, fun x hx => by rw [f3 69 x (by unfold P1314; omega)]; exact g1 x (by rw [Nat.mul_add] at hx; omega)⟩
            · rw [if_neg s0]; exact fun z => absurd z (by simp)
theorem X6_rdS {T : Nat} (hT : T ≤ 8) (hl : len ≤ 80) (ht : ∀ k, k < len → 32 ≤ tp k ∧ tp k ≤ 126) (hN : 80 < N) (F : Nat → Nat) (e3 : h 60 3 = nI T) (h2 : h 60 12 = nI len) (h9 : ∀ k, k < len → h 68 k = nI (tp k)) :
    ∃ h1, f_X6_readAll N 0 h = some (rdV (rdS tp len (suS tp len T) 2 44 12 0 0 F), h1) ∧ ((rdS tp len (suS tp len T) 2 44 12 0 0 F).1 = true → ∀ x, x < 2 * (rdS tp len (suS tp len T) 2 44 12 0 0 F).2.1 → h1 69 x = nI ((rdS tp len (suS tp len T) 2 44 12 0 0 F).2.2.2 x)) ∧ h1 60 12 = 0 ∧ Off PT6 h h1 := by
  obtain ⟨m, h1, q, a1, b1, c1, d1⟩ := X6_rdS_L (T := T) hT hl ht hN 12 0 N 0 F (qup (qup h 60 13 (nI 0)) 60 14 0) (by omega) (by omega) (by omega) ⟨h2, h9, by simp [qup], by omega⟩ (by simp [qup]) e3 (fun x hx => by omega)
  have o1 : Off PT6 h h1 := Off.tr (Off.up (off_up (by unfold PT6; omega)) (by unfold PT6; omega)) d1
  have hq := b1.2.2.2
  unfold f_X6_readAll
  rw [show (f_X6_readAll_L14 N 0 N 0 1 (qup (qup h 60 13 0) 60 14 0)) = some (nI m, h1) from a1, qb]
  dsimp only
  rcases c1 with ⟨z1, z2, z3, z4⟩ | ⟨z1, z2, z3⟩
  · obtain ⟨h3, a3, b3, e3', f3⟩ := X6_here14 hl ht hN b1 z1
    have o3 : Off PT6 h h3 := o1.tr (f3.weaken P1314_6)
    simp only [if_pos z1, a3, qb]
    cases hR : (rdS tp len (suS tp len T) 2 44 12 0 0 F).1 with
    | true =>
      have s0 := z3.mp hR
      obtain ⟨z5, z6⟩ := z4 hR
      rw [s0]
      simp only [show (nI 0 : Int32) = 0 from rfl, zero0, if_true, qb, true_or]
      have w14 : (qup (qup h3 60 14 0) 60 12 0) 60 14 = 0 := by simp [qup]
      refine ⟨qup (qup h3 60 14 0) 60 12 0, ?_, fun _ x hx => ?_, by simp [qup], Off.up (Off.up o3 (by unfold PT6; omega)) (by unfold PT6; omega)⟩
      · simp only [w14, zero0, if_true]
        unfold rdV
        rw [hR, if_pos rfl, z5]
      · show h3 69 x = _
        rw [f3 69 x (by unfold P1314; omega)]
        exact z6 x (by rw [z5]; exact hx)
    | false =>
      have s0 : ¬ sg tp len q = 0 := fun z => by rw [z3.mpr z] at hR; exact absurd hR (by simp)
      have s126 := sg_le (p := q) ht
      have sI : ¬ nI (sg tp len q) = 0 := by rw [k0, nI_eq (by omega) (by omega)]; exact s0
      simp only [if_neg sI, qb, one0, if_false, or_true, if_true]
      have w14 : ¬ (qup (qup h3 60 14 1) 60 12 0) 60 14 = 0 := by simp [qup]
      have w13 : (qup (qup h3 60 14 1) 60 12 0) 60 13 = nI (sk tp len q) := b3.2.2.1
      refine ⟨qup (qup h3 60 14 1) 60 12 0, ?_, fun z => absurd z (by simp), by simp [qup], Off.up (Off.up o3 (by unfold PT6; omega)) (by unfold PT6; omega)⟩
      rw [if_neg w14, w13]
      unfold rdV
      rw [hR, if_neg (by simp), z2]
  · have zn : ¬ h1 60 14 = 0 := by rw [z1]; decide
    simp only [if_neg zn, qb, or_true, if_true]
    have w14 : ¬ (qup (qup h1 60 14 1) 60 12 0) 60 14 = 0 := by simp [qup]
    have w13 : (qup (qup h1 60 14 1) 60 12 0) 60 13 = nI q := b1.2.2.1
    refine ⟨qup (qup h1 60 14 1) 60 12 0, ?_, fun z => absurd z (by rw [z2]; simp), by simp [qup], Off.up (Off.up o1 (by unfold PT6; omega)) (by unfold PT6; omega)⟩
    rw [if_neg w14, w13]
    unfold rdV
    rw [z2, if_neg (by simp), z3]
end Txt3
