/-! ===== pure 22: type ===== -/
def byt (z : Int64) (j : Nat) : Nat := (z >>> ((nI (8 * j)).toInt64 &&& 63)).toBitVec.toNat % 256
theorem l255 (x : Int64) : x &&& 255 = lN (x.toBitVec.toNat % 256) := by
  apply Int64.toBitVec_inj.mp
  apply BitVec.eq_of_toNat_eq
  rw [Int64.toBitVec_and, BitVec.toNat_and]
  have e1 : (255 : Int64).toBitVec.toNat = 2 ^ 8 - 1 := by decide
  rw [e1, Nat.and_two_pow_sub_one_eq_mod]
  show _ = (BitVec.ofNat 64 (x.toBitVec.toNat % 256)).toNat
  rw [BitVec.toNat_ofNat, Nat.mod_eq_of_lt (show x.toBitVec.toNat % 256 < 2 ^ 64 by omega)]
theorem X3_byteOf (z : Int64) (j : Nat) (h : qN) : f_X3_byteOf z (nI j) h = some (nI (byt z j), h) := by
  unfold f_X3_byteOf byt
  have e : ∀ x : Int64, x.toInt32 &&& (255 : Int32) = nI (x.toBitVec.toNat % 256) := by
    intro x
    rw [show (255 : Int32) = (255 : Int64).toInt32 from by decide, ← Int64.toInt32_and, l255, lN_i]
  rw [e, show (8 : Int32) = nI 8 from rfl, pk_mul]
theorem byte6 (z : Int64) (j : Nat) : (z >>> (((8 : Int32) * nI j).toInt64 &&& 63)) &&& (255 : Int64) = lN (byt z j) := by
  rw [l255, show (8 : Int32) = nI 8 from rfl, pk_mul]
  rfl
theorem byt_lt (z : Int64) (j : Nat) : byt z j < 256 := Nat.mod_lt _ (by omega)
def plB (z : Int64) : Nat → Nat → Bool
  | 0, _ => true
  | k + 1, j => decide (32 ≤ byt z j ∧ byt z j ≤ 126) && plB z k (j + 1)
theorem X3_isPlain_L (N : Nat) (z : Int64) (m : Nat) (hm : m ≤ 8) (h : qN) : ∀ (k j n : Nat), m = j + k → k < n → f_X3_isPlain_L2 N z (nI m) n (nI j) h = some (if plB z k j = true then .inr h else .inl (0, h)) := by
  intro k
  induction k with
  | zero =>
    intro j n e hn
    obtain ⟨n, rfl⟩ : ∃ m, n = m + 1 := ⟨n - 1, by omega⟩
    rw [f_X3_isPlain_L2.eq_2, if_pos (nI_le (by omega) (by omega))]
    rfl
  | succ k ih =>
    intro j n e hn
    obtain ⟨n, rfl⟩ : ∃ m, n = m + 1 := ⟨n - 1, by omega⟩
    have hb := byt_lt z j
    rw [f_X3_isPlain_L2.eq_2, if_neg (nI_ge (by omega) (by omega)), X3_byteOf, qb]
    dsimp only
    have e1 : (nI (byt z j) < (32 : Int32)) = (byt z j < 32) := propext (nI_ltI (b := 32) (by omega) (by omega))
    have e2 : (nI (byt z j) ≤ (126 : Int32)) = (byt z j ≤ 126) := propext (nI_leI (b := 126) (by omega) (by omega))
    simp only [plB]
    by_cases c1 : byt z j < 32
    · rw [if_pos (by rw [e1]; exact c1)]
      simp [show ¬ 32 ≤ byt z j by omega]
    · rw [if_neg (by rw [e1]; exact c1)]
      by_cases c2 : byt z j ≤ 126
      · rw [if_pos (by rw [e2]; exact c2), nI_1, ih (j + 1) n (by omega) (by omega)]
        simp [show 32 ≤ byt z j by omega, c2]
      · rw [if_neg (by rw [e2]; exact c2)]
        simp [c2]
theorem X6_type_L17 (N : Nat) (z : Int64) (m : Nat) (hm : m ≤ 8) (h : qN) : ∀ (k j n : Nat), m = j + k → k < n → f_X6_type_L17 N z (nI m) n (nI j) h = some (if plB z k j = true then .inr h else .inl (-1, h)) := by
  intro k
  induction k with
  | zero =>
    intro j n e hn
    obtain ⟨n, rfl⟩ : ∃ m, n = m + 1 := ⟨n - 1, by omega⟩
    rw [f_X6_type_L17.eq_2, if_pos (nI_le (by omega) (by omega))]
    rfl
  | succ k ih =>
    intro j n e hn
    obtain ⟨n, rfl⟩ : ∃ m, n = m + 1 := ⟨n - 1, by omega⟩
    have hb := byt_lt z j
    rw [f_X6_type_L17.eq_2, if_neg (nI_ge (by omega) (by omega)), byte6, X6_in, qb]
    dsimp only
    rw [lN_toInt (by omega), show (32 : Int64).toInt = 32 from rfl, show (126 : Int64).toInt = 126 from rfl]
    simp only [plB]
    by_cases c1 : 32 ≤ byt z j ∧ byt z j ≤ 126
    · rw [if_pos (show (32 : Int) ≤ (byt z j : Nat) ∧ ((byt z j : Nat) : Int) ≤ 126 by omega), if_neg (by decide), nI_1, ih (j + 1) n (by omega) (by omega)]
      simp [c1]
    · rw [if_neg (show ¬ ((32 : Int) ≤ (byt z j : Nat) ∧ ((byt z j : Nat) : Int) ≤ 126) by omega), if_pos rfl]
      simp [c1]
/-- the tape behind i bytes more -/
def tpA (tp : Nat → Nat) (z : Int64) (len m : Nat) : Nat → Nat := fun k => if k < len then tp k else byt z (m - 1 - (k - len))
theorem X3_add_L {N len m : Nat} {tp : Nat → Nat} {z : Int64} (hl : len + m ≤ 80) : ∀ (j n : Nat) (h : qN), j ≤ m → j < n → h 48 2 = nI (len + (m - j)) → (∀ k, k < len + (m - j) → h 49 k = nI (tpA tp z len m k)) →
    ∃ h1, f_X3_add_L5 N z n (nI j + -1) h = some h1 ∧ h1 48 2 = nI (len + m) ∧ (∀ k, k < len + m → h1 49 k = nI (tpA tp z len m k)) ∧ Off (fun a k => (a = 48 ∧ k = 2) ∨ a = 49) h h1 := by
  intro j
  induction j with
  | zero =>
    intro n h hj hn h2 h3
    obtain ⟨n, rfl⟩ : ∃ m, n = m + 1 := ⟨n - 1, by omega⟩
    rw [f_X3_add_L5.eq_2, if_pos (by decide)]
    exact ⟨h, rfl, h2, h3, Off.rf⟩
  | succ j ih =>
    intro n h hj hn h2 h3
    obtain ⟨n, rfl⟩ : ∃ m, n = m + 1 := ⟨n - 1, by omega⟩
    have c80 : ¬ (80 : Int32) ≤ nI (len + (m - (j + 1))) := nI_ge (b := 80) (by omega) (by omega)
    have cl : (nI (len + (m - (j + 1)))).toNatClampNeg = len + (m - (j + 1)) := nI_clamp (by omega)
    have hc := nchk2 (j := len + (m - (j + 1))) (n := 80) (by omega) (by omega)
    rw [pk_m1, f_X3_add_L5.eq_2, if_neg (nI_pos (by omega)), h2, if_neg c80, X3_byteOf, qb]
    dsimp only
    simp only [cl, if_neg hc]
    have e48 : (qup h 49 (len + (m - (j + 1))) (nI (byt z j))) 48 2 = nI (len + (m - (j + 1))) := h2
    rw [e48, nI_1]
    obtain ⟨h1, a, b, c, d⟩ := ih n (qup (qup h 49 (len + (m - (j + 1))) (nI (byt z j))) 48 2 (nI (len + (m - (j + 1)) + 1))) (by omega) (by omega) (by
        simp only [qup, if_true]; congr 1; omega) (fun k hk => by
        simp only [qup, if_true, show ¬ (49 : Nat) = 48 by omega, if_false]
        by_cases e : k = len + (m - (j + 1))
        · rw [if_pos e]
          unfold tpA
          rw [if_neg (by omega)]
          congr 2
          omega
        · rw [if_neg e]; exact h3 k (by omega))
    exact ⟨h1, a, b, c, Off.tr (Off.up (off_up (by omega)) (by omega)) d⟩
theorem X6_type_L73 {N len m : Nat} {tp : Nat → Nat} {z : Int64} (hl : len + m ≤ 80) : ∀ (j n : Nat) (h : qN), j ≤ m → j < n → h 60 12 = nI (len + (m - j)) → (∀ k, k < len + (m - j) → h 68 k = nI (tpA tp z len m k)) →
    ∃ h1, f_X6_type_L73 N z n (nI j + -1) h = some h1 ∧ h1 60 12 = nI (len + m) ∧ (∀ k, k < len + m → h1 68 k = nI (tpA tp z len m k)) ∧ Off (fun a k => (a = 60 ∧ k = 12) ∨ a = 68) h h1 := by
  intro j
  induction j with
  | zero =>
    intro n h hj hn h2 h3
    obtain ⟨n, rfl⟩ : ∃ m, n = m + 1 := ⟨n - 1, by omega⟩
    rw [f_X6_type_L73.eq_2, if_pos (by decide)]
    exact ⟨h, rfl, h2, h3, Off.rf⟩
  | succ j ih =>
    intro n h hj hn h2 h3
    obtain ⟨n, rfl⟩ : ∃ m, n = m + 1 := ⟨n - 1, by omega⟩
    have cl : (nI (len + (m - (j + 1)))).toNatClampNeg = len + (m - (j + 1)) := nI_clamp (by omega)
    have hc := nchk2 (j := len + (m - (j + 1))) (n := 80) (by omega) (by omega)
    rw [pk_m1, f_X6_type_L73.eq_2, if_neg (nI_pos (by omega)), h2]
    simp only [cl, if_neg hc, byte6, lN_i]
    have e48 : (qup h 68 (len + (m - (j + 1))) (nI (byt z j))) 60 12 = nI (len + (m - (j + 1))) := h2
    rw [e48, nI_1]
    obtain ⟨h1, a, b, c, d⟩ := ih n (qup (qup h 68 (len + (m - (j + 1))) (nI (byt z j))) 60 12 (nI (len + (m - (j + 1)) + 1))) (by omega) (by omega) (by
        simp only [qup, if_true]; congr 1; omega) (fun k hk => by
        simp only [qup, if_true, show ¬ (68 : Nat) = 60 by omega, if_false]
        by_cases e : k = len + (m - (j + 1))
        · rw [if_pos e]
          unfold tpA
          rw [if_neg (by omega)]
          congr 2
          omega
        · rw [if_neg e]; exact h3 k (by omega))
    exact ⟨h1, a, b, c, Off.tr (Off.up (off_up (by omega)) (by omega)) d⟩
theorem plB_at {z : Int64} : ∀ (k j : Nat), plB z k j = true → ∀ i, j ≤ i → i < j + k → 32 ≤ byt z i ∧ byt z i ≤ 126 := by
  intro k
  induction k with
  | zero => intro j _ i a b; omega
  | succ k ih =>
    intro j h i a b
    simp only [plB, Bool.and_eq_true, decide_eq_true_eq] at h
    by_cases e : i = j
    · subst e; exact h.1
    · exact ih (j + 1) h.2 i (by omega) (by omega)
theorem J.tx {h h1 : qN} (hj : J h) (ht : JT h1) (o : Off (fun a k => (48 ≤ a ∧ a < 52) ∨ (a = 60 ∧ 12 ≤ k ∧ k ≤ 14) ∨ a = 68 ∨ a = 69) h h1) : J h1 := by
  obtain ⟨c, g, wc, wg, rc, rg, rm, r6⟩ := hj.1
  exact ⟨⟨c, g, wc, wg, RC.off rc o (fun a k x y z => by omega), rg.off o (fun a k x y => by omega), RM.off rm o (fun a k x y => by unfold PM at x; omega), r6.off o (fun a k x y => by omega)⟩, hj.2.1.off o (fun a k x y => by omega), ht, hj.2.2.2.off o (fun a k x y => by omega)⟩
theorem m1eq (m : Nat) : nI m - (1 : Int32) = nI m + -1 := by rw [Int32.sub_eq_add_neg]
theorem call_type {N : Nat} (hN : 12 < N) (z : Int64) (a : Int32) {h : qN} (hj : J h) : OKC (f_X5_type N z a) (f_X6_type N z a) h := by
  obtain ⟨len, tp, hl, htp, e5, e6, t5, t6⟩ := hj.2.2.1
  by_cases ca : 1 ≤ a.toInt ∧ a.toInt ≤ 8
  · have z1 : ¬ a < 1 := by rw [i_lt, I1]; omega
    have z8 : ¬ (8 : Int32) < a := by rw [i_lt]; have : (8 : Int32).toInt = 8 := rfl; omega
    have ca6 : (1 : Int64).toInt ≤ a.toInt ∧ a.toInt ≤ (8 : Int64).toInt := ca
    obtain ⟨m, hm, rfl, hm2⟩ := ofRangeLe (a := a) (n := 8) (by omega)
    have p5 := X3_isPlain_L N z m (by omega) h m 0 N (by omega) (by omega)
    have p6 := X6_type_L17 N z m (by omega) h m 0 N (by omega) (by omega)
    cases hp : plB z m 0 with
    | false =>
      rw [hp] at p5 p6
      refine ⟨-1, h, h, ?_, ?_, hj⟩
      · unfold f_X5_type f_X3_isPlain
        rw [if_neg z1, if_neg z8, k0, p5]
        rfl
      · unfold f_X6_type
        simp only [X6_in, a64, qb, if_pos ca6, one0, if_false]
        rw [k0, p6]
        rfl
    | true =>
      rw [hp, if_pos rfl] at p5 p6
      have el : (nI (len + m) ≤ (80 : Int32)) = (len + m ≤ 80) := propext (nI_leI (b := 80) (by omega) (by omega))
      by_cases c80 : len + m ≤ 80
      · obtain ⟨h1, a1, b1, c1, d1⟩ := X3_add_L (N := N) (z := z) (tp := tp) c80 m N h (Nat.le_refl _) (by omega) (by rw [e5]; congr 1; omega) (fun k hk => by rw [t5 k (by omega)]; unfold tpA; rw [if_pos (by omega)])
        have e6' : h1 60 12 = nI len := by rw [d1 _ _ (by omega)]; exact e6
        obtain ⟨h2, a2, b2, c2, d2⟩ := X6_type_L73 (N := N) (z := z) (tp := tp) c80 m N h1 (Nat.le_refl _) (by omega) (by rw [e6']; congr 1; omega) (fun k hk => by rw [d1 _ _ (by omega), t6 k (by omega)]; unfold tpA; rw [if_pos (by omega)])
        have p6' := X6_type_L17 N z m (by omega) h1 m 0 N (by omega) (by omega)
        rw [hp, if_pos rfl] at p6'
        refine ⟨nI (len + m), h1, h2, ?_, ?_, hj.tx ⟨len + m, tpA tp z len m, c80, fun k hk => ?_, ?_, b2, fun k hk => ?_, c2⟩ ((d1.weaken (by omega)).tr (d2.weaken (by omega)))⟩
        · unfold f_X5_type f_X3_isPlain f_X3_add
          rw [if_neg z1, if_neg z8, k0, p5]
          simp only [qb]
          rw [← k0, if_neg (by decide), e5, nI_add, if_pos (by rw [el]; exact c80), m1eq, a1]
          simp only [qb]
          rw [b1]
        · unfold f_X6_type
          simp only [X6_in, a64, qb, if_pos ca6, one0, if_false]
          rw [k0, p6']
          simp only [qb]
          rw [e6', nI_add, if_pos (by rw [el]; exact c80), m1eq, a2]
          simp only [qb]
          rw [b2]
        · unfold tpA
          by_cases c : k < len
          · rw [if_pos c]; exact htp k c
          · rw [if_neg c]; exact plB_at m 0 hp _ (by omega) (by omega)
        · rw [d2 _ _ (by omega)]; exact b1
        · rw [d2 _ _ (by omega)]; exact c1 k hk
      · refine ⟨-3, h, h, ?_, ?_, hj⟩
        · unfold f_X5_type f_X3_isPlain
          rw [if_neg z1, if_neg z8, k0, p5]
          simp only [qb]
          rw [← k0, if_neg (by decide), e5, nI_add, if_neg (by rw [el]; exact c80)]
        · unfold f_X6_type
          simp only [X6_in, a64, qb, if_pos ca6, one0, if_false]
          rw [k0, p6]
          simp only [qb]
          rw [e6, nI_add, if_neg (by rw [el]; exact c80)]
  · have ca6 : ¬ ((1 : Int64).toInt ≤ a.toInt ∧ a.toInt ≤ (8 : Int64).toInt) := ca
    refine ⟨-1, h, h, ?_, ?_, hj⟩
    · unfold f_X5_type
      simp only [i_lt, I1, show (8 : Int32).toInt = 8 from rfl]
      by_cases s : a.toInt < 1
      · rw [if_pos s]
      · rw [if_neg s, if_pos (by omega)]
    · unfold f_X6_type
      simp only [X6_in, a64, qb, if_neg ca6, zero0, if_true]
