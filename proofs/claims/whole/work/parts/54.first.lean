/-! ===== pure 34: the state behind the constructors ===== -/
def ck0 (h : qN) : Bool := ([(4, 0, 8, 0), (5, 0, 12, 0), (6, 0, 12, 0), (3, 0, 2, 0), (7, 0, 6, 50), (8, 0, 6, 3), (9, 0, 48, 0), (61, 0, 6, 50), (62, 0, 6, 3), (63, 0, 2, 0), (64, 0, 8, 0), (65, 0, 48, 0), (66, 0, 12, 0), (67, 0, 12, 0), (77, 0, 4, 0), (76, 0, 4, -1), (53, 0, 24, 0), (55, 0, 24, 0), (57, 0, 24, 0), (59, 0, 24, 0), (78, 0, 96, 0),
  (2, 4, 3, 0), (1, 4, 1, 0), (0, 2, 1, 0), (60, 3, 1, 0), (60, 6, 1, 0), (60, 9, 1, 0), (60, 10, 1, 0), (60, 12, 1, 0), (60, 24, 1, 0), (48, 2, 1, 0), (52, 1, 1, 1), (54, 1, 1, 1), (56, 1, 1, 1), (58, 1, 1, 1), (52, 2, 2, 0), (54, 2, 2, 0), (56, 2, 2, 0), (58, 2, 2, 0)] : List (Nat × Nat × Nat × Int32)).all fun r => (List.range r.2.2.1).all fun k => decide (h r.1 (r.2.1 + k) = r.2.2.2)
theorem num0_ck : ck0 num0 = true := by decide +kernel
theorem num0_at {a b n : Nat} {v : Int32} (hm : (a, b, n, v) ∈ ([(4, 0, 8, 0), (5, 0, 12, 0), (6, 0, 12, 0), (3, 0, 2, 0), (7, 0, 6, 50), (8, 0, 6, 3), (9, 0, 48, 0), (61, 0, 6, 50), (62, 0, 6, 3), (63, 0, 2, 0), (64, 0, 8, 0), (65, 0, 48, 0), (66, 0, 12, 0), (67, 0, 12, 0), (77, 0, 4, 0), (76, 0, 4, -1), (53, 0, 24, 0), (55, 0, 24, 0), (57, 0, 24, 0), (59, 0, 24, 0), (78, 0, 96, 0),
  (2, 4, 3, 0), (1, 4, 1, 0), (0, 2, 1, 0), (60, 3, 1, 0), (60, 6, 1, 0), (60, 9, 1, 0), (60, 10, 1, 0), (60, 12, 1, 0), (60, 24, 1, 0), (48, 2, 1, 0), (52, 1, 1, 1), (54, 1, 1, 1), (56, 1, 1, 1), (58, 1, 1, 1), (52, 2, 2, 0), (54, 2, 2, 0), (56, 2, 2, 0), (58, 2, 2, 0)] : List (Nat × Nat × Nat × Int32))) : ∀ k, k < n → num0 a (b + k) = v := by
  intro k hk
  have h := num0_ck
  unfold ck0 at h
  rw [List.all_eq_true] at h
  have h2 := h _ hm
  rw [List.all_eq_true] at h2
  have h3 := h2 k (List.mem_range.mpr hk)
  exact of_decide_eq_true h3
theorem num0_row {a n : Nat} {v : Int32} (h : ∀ k, k < n → num0 a (0 + k) = v) : ∀ k, k < n → num0 a k = v := fun k hk => by
  have := h k hk
  rw [Nat.zero_add] at this
  exact this
theorem J_0 : J num0 := by
  have r4 := num0_row (num0_at (a := 4) (b := 0) (n := 8) (v := 0) (by simp))
  have r5 := num0_row (num0_at (a := 5) (b := 0) (n := 12) (v := 0) (by simp))
  have r6 := num0_row (num0_at (a := 6) (b := 0) (n := 12) (v := 0) (by simp))
  have r3 := num0_row (num0_at (a := 3) (b := 0) (n := 2) (v := 0) (by simp))
  have r7 := num0_row (num0_at (a := 7) (b := 0) (n := 6) (v := 50) (by simp))
  have r8 := num0_row (num0_at (a := 8) (b := 0) (n := 6) (v := 3) (by simp))
  have r9 := num0_row (num0_at (a := 9) (b := 0) (n := 48) (v := 0) (by simp))
  have r61 := num0_row (num0_at (a := 61) (b := 0) (n := 6) (v := 50) (by simp))
  have r62 := num0_row (num0_at (a := 62) (b := 0) (n := 6) (v := 3) (by simp))
  have r63 := num0_row (num0_at (a := 63) (b := 0) (n := 2) (v := 0) (by simp))
  have r64 := num0_row (num0_at (a := 64) (b := 0) (n := 8) (v := 0) (by simp))
  have r65 := num0_row (num0_at (a := 65) (b := 0) (n := 48) (v := 0) (by simp))
  have r66 := num0_row (num0_at (a := 66) (b := 0) (n := 12) (v := 0) (by simp))
  have r67 := num0_row (num0_at (a := 67) (b := 0) (n := 12) (v := 0) (by simp))
  have r76 := num0_row (num0_at (a := 76) (b := 0) (n := 4) (v := -1) (by simp))
  have r77 := num0_row (num0_at (a := 77) (b := 0) (n := 4) (v := 0) (by simp))
  have r78 := num0_row (num0_at (a := 78) (b := 0) (n := 96) (v := 0) (by simp))
  have r53 := num0_row (num0_at (a := 53) (b := 0) (n := 24) (v := 0) (by simp))
  have r55 := num0_row (num0_at (a := 55) (b := 0) (n := 24) (v := 0) (by simp))
  have r57 := num0_row (num0_at (a := 57) (b := 0) (n := 24) (v := 0) (by simp))
  have r59 := num0_row (num0_at (a := 59) (b := 0) (n := 24) (v := 0) (by simp))
  have f2 := num0_at (a := 2) (b := 4) (n := 3) (v := 0) (by simp)
  have f1 := num0_at (a := 1) (b := 4) (n := 1) (v := 0) (by simp) 0 (by omega)
  have f0 := num0_at (a := 0) (b := 2) (n := 1) (v := 0) (by simp) 0 (by omega)
  have m3 := num0_at (a := 60) (b := 3) (n := 1) (v := 0) (by simp) 0 (by omega)
  have m6 := num0_at (a := 60) (b := 6) (n := 1) (v := 0) (by simp) 0 (by omega)
  have m9 := num0_at (a := 60) (b := 9) (n := 1) (v := 0) (by simp) 0 (by omega)
  have m10 := num0_at (a := 60) (b := 10) (n := 1) (v := 0) (by simp) 0 (by omega)
  have m12 := num0_at (a := 60) (b := 12) (n := 1) (v := 0) (by simp) 0 (by omega)
  have m24 := num0_at (a := 60) (b := 24) (n := 1) (v := 0) (by simp) 0 (by omega)
  have t2 := num0_at (a := 48) (b := 2) (n := 1) (v := 0) (by simp) 0 (by omega)
  have s0a := num0_at (a := 52) (b := 1) (n := 1) (v := 1) (by simp) 0 (by omega)
  have s1a := num0_at (a := 54) (b := 1) (n := 1) (v := 1) (by simp) 0 (by omega)
  have s2a := num0_at (a := 56) (b := 1) (n := 1) (v := 1) (by simp) 0 (by omega)
  have s3a := num0_at (a := 58) (b := 1) (n := 1) (v := 1) (by simp) 0 (by omega)
  have s0b := num0_at (a := 52) (b := 2) (n := 2) (v := 0) (by simp)
  have s1b := num0_at (a := 54) (b := 2) (n := 2) (v := 0) (by simp)
  have s2b := num0_at (a := 56) (b := 2) (n := 2) (v := 0) (by simp)
  have s3b := num0_at (a := 58) (b := 2) (n := 2) (v := 0) (by simp)
  refine ⟨⟨(fun _ => 0, fun _ => 0, fun _ => 0, fun _ => false, 0, 0, false, false), (fun _ => 50, fun _ => 3, fun _ => 0, 0), ?_, ?_, ?_, ?_, ?_, ?_⟩, ⟨false, f0, m24, fun z => absurd z (by simp)⟩, ⟨0, fun _ => 0, by omega, fun k hk => by omega, t2, m12, fun k hk => by omega, fun k hk => by omega⟩, fun i hi => ?_⟩
  · exact ⟨⟨by show (0 : Nat) ≤ 8; omega, by show (0 : Nat) ≤ 12; omega, fun k hk => absurd hk (Nat.not_lt_zero k), fun s hs => absurd hs (Nat.not_lt_zero s), fun s hs => absurd hs (by simp)⟩, fun s hs => absurd hs (Nat.not_lt_zero s)⟩
  · exact ⟨fun k _ => by show (50 : Nat) ≤ 9999; omega, fun k _ => by show (3 : Nat) ≤ 99; omega, fun k _ => by show (0 : Nat) ≤ 99; omega⟩
  · refine ⟨f2 0 (by omega), f2 1 (by omega), ?_, fun k hk => r4 k hk, fun k hk => r5 k hk, fun k hk => r6 k hk, r3 0 (by omega), r3 1 (by omega)⟩
    rw [f2 2 (by omega)]; exact OVW.zero
  · exact ⟨fun k hk => r7 k hk, fun k hk => r8 k hk, fun k hk => r9 k hk, f1⟩
  · refine ⟨m3, m6, ?_, fun k hk => r64 k hk, fun k hk => r66 k hk, fun k hk => r67 k hk, r63 0 (by omega), r63 1 (by omega)⟩
    rw [show num0 60 9 = 0 from m9]; exact OVW.zero
  · exact ⟨fun k hk => r61 k hk, fun k hk => r62 k hk, fun k hk => r65 k hk, m10⟩
  · rcases (show i = 0 ∨ i = 1 ∨ i = 2 ∨ i = 3 by omega) with rfl | rfl | rfl | rfl
    · exact ⟨true, 0, 0, by omega, by omega, s0a, s0b 0 (by omega), s0b 1 (by omega), r76 0 (by omega), r77 0 (by omega), fun k hk => by rw [r78 _ (by omega)]; exact r53 k hk⟩
    · exact ⟨true, 0, 0, by omega, by omega, s1a, s1b 0 (by omega), s1b 1 (by omega), r76 1 (by omega), r77 1 (by omega), fun k hk => by rw [r78 _ (by omega)]; exact r55 k hk⟩
    · exact ⟨true, 0, 0, by omega, by omega, s2a, s2b 0 (by omega), s2b 1 (by omega), r76 2 (by omega), r77 2 (by omega), fun k hk => by rw [r78 _ (by omega)]; exact r57 k hk⟩
    · exact ⟨true, 0, 0, by omega, by omega, s3a, s3b 0 (by omega), s3b 1 (by omega), r76 3 (by omega), r77 3 (by omega), fun k hk => by rw [r78 _ (by omega)]; exact r59 k hk⟩
