/-! ===== pure 24: texts read by the reference ===== -/
theorem qup_at (h : qN) (o k : Nat) (v : Int32) : qup h o k v o k = v := by simp only [qup, if_true]
theorem zadd0 (x : Nat) : nI x + (0 : Int32) = nI x := by rw [k0, nI_add]; rfl
section Txt2
variable {N len : Nat} {tp : Nat → Nat} {h : qN} {p : Nat}
def P1314 : Nat → Nat → Prop := fun a k => a = 60 ∧ (k = 13 ∨ k = 14)
theorem P1314_6 : ∀ a k, P1314 a k → PT6 a k := fun a k x => by unfold P1314 at x; unfold PT6; omega
theorem X6_here14 (hl : len ≤ 80) (ht : ∀ k, k < len → 32 ≤ tp k ∧ tp k ≤ 126) (hN : 80 < N) (hc : RTp tp len h p) (h0 : h 60 14 = 0) :
    ∃ h1, f_X6_here N h = some (nI (sg tp len p), h1) ∧ RTp tp len h1 (sk tp len p) ∧ h1 60 14 = 0 ∧ Off P1314 h h1 := by
  obtain ⟨h1, a1, b1, c1⟩ := X6_here hl ht hN hc
  exact ⟨h1, a1, b1, by rw [c1 60 14 (by omega)]; exact h0, c1.weaken (fun a k x => by unfold P1314; omega)⟩
theorem X6_has0 (hl : len ≤ 80) (ht : ∀ k, k < len → 32 ≤ tp k ∧ tp k ≤ 126) (hN : 80 < N) {c : Nat} (h1c : 0 < c) (h2c : c < 1000) (hc : RTp tp len h p) (h0 : h 60 14 = 0) :
    ∃ h1, f_X6_has N (nI c) h = some (if sg tp len p = c then 1 else 0, h1) ∧ RTp tp len h1 (if sg tp len p = c then sk tp len p + 1 else sk tp len p) ∧ h1 60 14 = 0 ∧ Off P1314 h h1 := by
  obtain ⟨h1, a1, b1, e1, c1⟩ := X6_here14 hl ht hN hc h0
  have s126 := sg_le (p := p) ht
  have es : (nI (sg tp len p) = nI c) = (sg tp len p = c) := propext (nI_eq (by omega) (by omega))
  unfold f_X6_has
  simp only [if_pos h0, a1, qb, es]
  by_cases d : sg tp len p = c
  · have hlt : sk tp len p < len := sg_lt (by omega)
    simp only [if_pos d, qb, one0, if_false, eq_self, or_true, if_true, b1.2.2.1]
    refine ⟨_, rfl, ?_, e1, c1.tr (off_up (by unfold P1314; omega))⟩
    rw [nI_1]
    exact b1.at (q := sk tp len p + 1) (by omega)
  · simp only [if_neg d, qb, zero0, true_or, if_true, b1.2.2.1]
    refine ⟨_, rfl, ?_, e1, c1.tr (off_up (by unfold P1314; omega))⟩
    rw [zadd0]
    exact b1.at (q := sk tp len p) b1.2.2.2
theorem X6_has1 {x : Int32} (hc : RTp tp len h p) (h1 : h 60 14 = 1) :
    ∃ h1, f_X6_has N x h = some (0, h1) ∧ RTp tp len h1 p ∧ h1 60 14 = 1 ∧ Off P1314 h h1 := by
  have n0 : ¬ h 60 14 = 0 := by rw [h1]; decide
  unfold f_X6_has
  simp only [if_neg n0, qb, zero0, true_or, if_true, hc.2.2.1]
  refine ⟨_, rfl, ?_, h1, off_up (by unfold P1314; omega)⟩
  rw [zadd0]
  exact hc.at (q := p) hc.2.2.2
theorem X6_digit0 (hl : len ≤ 80) (ht : ∀ k, k < len → 32 ≤ tp k ∧ tp k ≤ 126) (hN : 80 < N) {hi : Nat} (hh : hi ≤ 9) (hc : RTp tp len h p) (h0 : h 60 14 = 0) :
    (48 ≤ sg tp len p ∧ sg tp len p ≤ 48 + hi → ∃ h1, f_X6_digit N (nI hi) h = some (nI (sg tp len p - 48), h1) ∧ RTp tp len h1 (sk tp len p + 1) ∧ h1 60 14 = 0 ∧ Off P1314 h h1) ∧
    (¬ (48 ≤ sg tp len p ∧ sg tp len p ≤ 48 + hi) → ∃ h1, f_X6_digit N (nI hi) h = some (0, h1) ∧ RTp tp len h1 (sk tp len p) ∧ h1 60 14 = 1 ∧ Off P1314 h h1) := by
  obtain ⟨h1, a1, b1, e1, c1⟩ := X6_here14 hl ht hN hc h0
  have hp := hc.2.2.2
  have s126 := sg_le (p := p) ht
  have e48 : (48 : Int64).toInt = 48 := rfl
  have eh : (nI 48 + nI hi).toInt = 48 + (hi : Int) := by rw [nI_add, nI_toInt (by omega)]; omega
  have es : (nI (sg tp len p)).toInt = (sg tp len p : Int) := nI_toInt (by omega)
  constructor
  · intro d
    have d' : (48 : Int) ≤ (sg tp len p : Int) ∧ (sg tp len p : Int) ≤ 48 + (hi : Int) := by omega
    have hlt : sk tp len p < len := sg_lt (by omega)
    obtain ⟨h2, a2, b2, e2, c2⟩ := X6_here14 hl ht hN (b1.e14 (v := 0)) (qup_at h1 60 14 0)
    rw [sg_sk hp] at a2
    rw [sk_sk hp] at b2
    refine ⟨qup h2 60 13 (nI (sk tp len p + 1)), ?_, b2.at (q := sk tp len p + 1) (by omega), e2, c1.tr ((off_up (by unfold P1314; omega)).tr (c2.tr (off_up (by unfold P1314; omega))))⟩
    unfold f_X6_digit
    simp only [if_pos h0, a1, qb, X6_in, a64, e48, eh, es, if_pos d', one0, if_false, zero0, true_or, if_true, qup_at, a2, e2, b2.2.2.1, k48, pk_sub d.1, nI_1]
  · intro d
    have d' : ¬ ((48 : Int) ≤ (sg tp len p : Int) ∧ (sg tp len p : Int) ≤ 48 + (hi : Int)) := by omega
    refine ⟨qup (qup h1 60 14 1) 60 13 (nI (sk tp len p)), ?_, (b1.e14 (v := 1)).at (q := sk tp len p) b1.2.2.2, by simp [qup], c1.tr ((off_up (by unfold P1314; omega)).tr (off_up (by unfold P1314; omega)))⟩
    have e13 : (qup h1 60 14 1) 60 13 = nI (sk tp len p) := b1.2.2.1
    unfold f_X6_digit
    simp only [if_pos h0, a1, qb, X6_in, a64, e48, eh, es, if_neg d', one0, if_false, zero0, eq_self, or_true, if_true, qup_at, e13, zadd0, k48]
theorem X6_digit1 {x : Int32} (hc : RTp tp len h p) (h1 : h 60 14 = 1) :
    ∃ h1, f_X6_digit N x h = some (0, h1) ∧ RTp tp len h1 p ∧ h1 60 14 = 1 ∧ Off P1314 h h1 := by
  have n0 : ¬ h 60 14 = 0 := by rw [h1]; decide
  have e13 : (qup h 60 14 1) 60 13 = nI p := hc.2.2.1
  refine ⟨qup (qup h 60 14 1) 60 13 (nI p), ?_, (hc.e14 (v := 1)).at (q := p) hc.2.2.2, by simp [qup], (off_up (by unfold P1314; omega)).tr (off_up (by unfold P1314; omega))⟩
  unfold f_X6_digit
  simp only [if_neg n0, qb, one0, if_false, eq_self, or_true, if_true, qup_at, e13, zadd0]
theorem X6_digs1 (hN : 80 < N) {b : Nat} (hb : b + 7 ≤ 56) : ∀ (k i n : Nat) (h : qN), 7 = i + k → k < n → RTp tp len h p → h 60 14 = 1 →
    ∃ h1, f_X6_thingClause_L27 N (nI b) n (nI i) h = some h1 ∧ RTp tp len h1 p ∧ h1 60 14 = 1 ∧ Off PT6 h h1 := by
  intro k
  induction k with
  | zero =>
    intro i n h e hn hc h1
    obtain ⟨n, rfl⟩ : ∃ m, n = m + 1 := ⟨n - 1, by omega⟩
    rw [f_X6_thingClause_L27.eq_2, show i = 7 by omega, if_pos (by decide)]
    exact ⟨h, rfl, hc, h1, Off.rf⟩
  | succ k ih =>
    intro i n h e hn hc h1
    obtain ⟨n, rfl⟩ : ∃ m, n = m + 1 := ⟨n - 1, by omega⟩
    obtain ⟨h2, a2, b2, e2, c2⟩ := X6_digit1 (N := N) (x := 9) hc h1
    have i1 : nI b + nI i = nI (b + i) := nI_add _ _
    have hcb := nchk2 (j := b + i) (n := 56) (by omega) (by omega)
    rw [f_X6_thingClause_L27.eq_2, k7, if_neg (nI_ge (by omega) (by omega)), a2, qb]
    dsimp only
    simp only [i1, nI_clamp (show b + i < 2 ^ 31 by omega), if_neg hcb, nI_1]
    obtain ⟨h3, a3, b3, e3, c3⟩ := ih (i + 1) n (qup h2 69 (b + i) 0) (by omega) (by omega) b2.o69 e2
    exact ⟨h3, a3, b3, e3, (c2.weaken P1314_6).tr ((off_up (by unfold PT6; omega)).tr c3)⟩
theorem X6_digs (hl : len ≤ 80) (ht : ∀ k, k < len → 32 ≤ tp k ∧ tp k ≤ 126) (hN : 80 < N) {b : Nat} (hb : b + 7 ≤ 56) : ∀ (k i n p : Nat) (F : Nat → Nat) (h : qN), 7 = i + k → k < n → RTp tp len h p → h 60 14 = 0 → (∀ x, x < b + i → h 69 x = nI (F x)) →
    ∃ h1, f_X6_thingClause_L27 N (nI b) n (nI i) h = some h1 ∧ RTp tp len h1 (digS tp len k (b + i) p F).2.1 ∧ h1 60 14 = (if (digS tp len k (b + i) p F).1 = true then 0 else 1) ∧ ((digS tp len k (b + i) p F).1 = true → ∀ x, x < b + 7 → h1 69 x = nI ((digS tp len k (b + i) p F).2.2 x)) ∧ Off PT6 h h1 := by
  intro k
  induction k with
  | zero =>
    intro i n p F h e hn hc h0 hF
    obtain ⟨n, rfl⟩ : ∃ m, n = m + 1 := ⟨n - 1, by omega⟩
    rw [f_X6_thingClause_L27.eq_2, show i = 7 by omega, if_pos (by decide)]
    exact ⟨h, rfl, hc, by simp only [digS, if_true]; exact h0, fun _ x hx => hF x (by omega), Off.rf⟩
  | succ k ih =>
    intro i n p F h e hn hc h0 hF
    obtain ⟨n, rfl⟩ : ∃ m, n = m + 1 := ⟨n - 1, by omega⟩
    obtain ⟨dg1, dg2⟩ := X6_digit0 hl ht hN (hi := 9) (by omega) hc h0
    have i1 : nI b + nI i = nI (b + i) := nI_add _ _
    have hcb := nchk2 (j := b + i) (n := 56) (by omega) (by omega)
    rw [f_X6_thingClause_L27.eq_2, k7, if_neg (nI_ge (by omega) (by omega)), show (9 : Int32) = nI 9 from rfl]
    by_cases d : 48 ≤ sg tp len p ∧ sg tp len p ≤ 57
    · obtain ⟨h1, a1, b1, e1, c1⟩ := dg1 (by omega)
      have dP : digS tp len (k + 1) (b + i) p F = digS tp len k (b + i + 1) (sk tp len p + 1) (fun x => if x = b + i then sg tp len p - 48 else F x) := by simp only [digS]; rw [if_pos d]
      rw [a1, qb, dP]
      dsimp only
      simp only [i1, nI_clamp (show b + i < 2 ^ 31 by omega), if_neg hcb, nI_1]
      obtain ⟨h2, a2, b2, e2, f2, c2⟩ := ih (i + 1) n (sk tp len p + 1) (fun x => if x = b + i then sg tp len p - 48 else F x) (qup h1 69 (b + i) (nI (sg tp len p - 48))) (by omega) (by omega) b1.o69 e1 (fun x hx => by
        simp only [qup, if_true]
        by_cases q : x = b + i
        · rw [if_pos q, if_pos q]
        · rw [if_neg q, if_neg q, c1 69 x (by unfold P1314; omega)]; exact hF x (by omega))
      exact ⟨h2, a2, b2, e2, f2, (c1.weaken P1314_6).tr ((off_up (by unfold PT6; omega)).tr c2)⟩
    · obtain ⟨h1, a1, b1, e1, c1⟩ := dg2 (by omega)
      have dN : digS tp len (k + 1) (b + i) p F = (false, sk tp len p, F) := by simp only [digS]; rw [if_neg d]
      rw [a1, qb, dN]
      dsimp only
      simp only [i1, nI_clamp (show b + i < 2 ^ 31 by omega), if_neg hcb, nI_1]
      obtain ⟨h2, a2, b2, e2, c2⟩ := X6_digs1 (N := N) hN hb k (i + 1) n (qup h1 69 (b + i) 0) (by omega) (by omega) b1.o69 e1
      exact ⟨h2, a2, b2, by rw [e2, if_neg (by simp)], fun z => absurd z (by simp), (c1.weaken P1314_6).tr ((off_up (by unfold PT6; omega)).tr c2)⟩
theorem X6_thingClause (hl : len ≤ 80) (ht : ∀ k, k < len → 32 ≤ tp k ∧ tp k ≤ 126) (hN : 80 < N) {b : Nat} (hb : b + 7 ≤ 56) {F : Nat → Nat} (hc : RTp tp len h p) (h0 : h 60 14 = 0) (hF : ∀ x, x < b → h 69 x = nI (F x)) :
    ∃ h1, f_X6_thingClause N (nI b) h = some h1 ∧ RTp tp len h1 (thS tp len b p F).2.1 ∧ h1 60 14 = (if (thS tp len b p F).1 = true then 0 else 1) ∧ ((thS tp len b p F).1 = true → ∀ x, x < b + 7 → h1 69 x = nI ((thS tp len b p F).2.2 x)) ∧ Off PT6 h h1 := by
  have hp := hc.2.2.2
  have hcb := nchk2 (j := b) (n := 56) (by omega) (by omega)
  obtain ⟨h1, a1, b1, e1, c1⟩ := X6_has0 hl ht hN (c := 45) (by omega) (by omega) hc h0
  have go : ∀ (h2 : qN) (v q : Nat), RTp tp len h2 q → h2 60 14 = 0 → Off P1314 h h2 → ∃ h3, (qbind (f_X6_thingClause_L27 N (nI b) N (1 : Int32) (qup h2 69 b (nI v))) fun h1489 => some h1489) = some h3 ∧ RTp tp len h3 (digS tp len 6 (b + 1) q (fun x => if x = b then v else F x)).2.1 ∧ h3 60 14 = (if (digS tp len 6 (b + 1) q (fun x => if x = b then v else F x)).1 = true then 0 else 1) ∧ ((digS tp len 6 (b + 1) q (fun x => if x = b then v else F x)).1 = true → ∀ x, x < b + 7 → h3 69 x = nI ((digS tp len 6 (b + 1) q (fun x => if x = b then v else F x)).2.2 x)) ∧ Off PT6 h h3 := by
    intro h2 v q b2 e2 c2
    obtain ⟨h3, a3, b3, e3, f3, c3⟩ := X6_digs (N := N) hl ht hN hb 6 1 N q (fun x => if x = b then v else F x) (qup h2 69 b (nI v)) (by omega) (by omega) b2.o69 e2 (fun x hx => by
      simp only [qup, if_true]
      by_cases q : x = b
      · rw [if_pos q, if_pos q]
      · rw [if_neg q, if_neg q, c2 69 x (by unfold P1314; omega)]; exact hF x (by omega))
    exact ⟨h3, by rw [show (1 : Int32) = nI 1 from rfl, a3, qb], b3, e3, f3, (c2.weaken P1314_6).tr ((off_up (by unfold PT6; omega)).tr c3)⟩
  unfold f_X6_thingClause thS
  rw [k45, a1, qb]
  dsimp only
  by_cases d : sg tp len p = 45
  · rw [if_pos d] at b1 ⊢
    rw [if_pos d]
    simp only [one0, if_false, qb, nI_clamp (show b < 2 ^ 31 by omega), if_neg hcb]
    exact go h1 6 _ b1 e1 c1
  · rw [if_neg d] at b1 ⊢
    rw [if_neg d]
    simp only [zero0, if_true]
    obtain ⟨dg1, dg2⟩ := X6_digit0 hl ht hN (hi := 5) (by omega) b1 e1
    rw [sg_sk hp, sk_sk hp] at dg1 dg2
    by_cases d2 : 48 ≤ sg tp len p ∧ sg tp len p ≤ 53
    · obtain ⟨h2, a2, b2, e2, c2⟩ := dg1 (by omega)
      rw [if_pos d2, k5, a2]
      simp only [qb, nI_clamp (show b < 2 ^ 31 by omega), if_neg hcb]
      exact go h2 _ _ b2 e2 (c1.tr c2)
    · obtain ⟨h2, a2, b2, e2, c2⟩ := dg2 (by omega)
      rw [if_neg d2, k5, a2]
      simp only [qb, nI_clamp (show b < 2 ^ 31 by omega), if_neg hcb]
      obtain ⟨h3, a3, b3, e3, c3⟩ := X6_digs1 (N := N) hN hb 6 1 N (qup h2 69 b 0) (by omega) (by omega) b2.o69 e2
      refine ⟨h3, ?_, b3, by rw [e3, if_neg (by simp)], fun z => absurd z (by simp), ((c1.tr c2).weaken P1314_6).tr ((off_up (by unfold PT6; omega)).tr c3)⟩
      rw [show (1 : Int32) = nI 1 from rfl, a3, qb]
end Txt2
