/-! ===== pure 19: image, restore ===== -/
def bwc (w r1 : Nat) (h : qN) : qN :=
  let h1 := bcp (w + 6) (r1 + 6) 6 h
  let h2 := bcp (w + 7) (r1 + 7) 6 h1
  let h3 := bcp (w + 8) (r1 + 8) 48 h2
  qup h3 w 4 (h3 r1 4)
theorem f_become4_eq (w r1 : Nat) (h : qN) : f_X4_become w r1 h = qbind (f_X0_become (w + 1) (r1 + 1) h) fun h1 => some (bwc w r1 h1) := rfl
def PW (w : Nat) : Nat → Nat → Prop := fun a _ => w ≤ a ∧ a < w + 9
theorem X4_becomeC {w r1 : Nat} {c : Ct} {g : Gt} {h : qN} (ho : w + 9 ≤ r1 ∨ r1 + 9 ≤ w) (hr : RCt (r1 + 1) c h) (hg : RG1 r1 g h) :
    ∃ h1, f_X4_become w r1 h = some h1 ∧ RCt (w + 1) c h1 ∧ RG1 w g h1 ∧ Off (PW w) h h1 := by
  obtain ⟨h1, a1, b1, c1⟩ := X0_becomeC (o := w + 1) (r1 := r1 + 1) (by omega) hr
  have g1 : RG1 r1 g h1 := hg.off c1 (fun a k x y => by unfold PC at y; omega)
  obtain ⟨e1, e2, e3, e4⟩ := g1
  have ob : Off (fun a _ => a = w ∨ (w + 6 ≤ a ∧ a < w + 9)) h1 (bwc w r1 h1) := by
    intro a k ha
    unfold bwc
    simp only [qup, if_neg (show ¬ a = w by omega)]
    rw [bcp_ne (by omega), bcp_ne (by omega), bcp_ne (by omega)]
  refine ⟨bwc w r1 h1, by rw [f_become4_eq, a1, qb], RC.off b1 ob (fun a k x y => by omega), ⟨fun k hk => ?_, fun k hk => ?_, fun k hk => ?_, ?_⟩, Off.tr (c1.weaken (fun a k x => by unfold PC at x; unfold PW; omega)) (ob.weaken (fun a k x => by unfold PW; omega))⟩
  · unfold bwc
    simp only [qup, if_neg (show ¬ w + 6 = w by omega)]
    rw [bcp_ne (by omega), bcp_ne (by omega), bcp_at hk]; exact e1 k hk
  · unfold bwc
    simp only [qup, if_neg (show ¬ w + 7 = w by omega)]
    rw [bcp_ne (by omega), bcp_at hk, bcp_ne (by omega)]; exact e2 k hk
  · unfold bwc
    simp only [qup, if_neg (show ¬ w + 8 = w by omega)]
    rw [bcp_at hk, bcp_ne (by omega), bcp_ne (by omega)]; exact e3 k hk
  · unfold bwc
    simp only [qup, if_true]
    rw [bcp_ne (by omega), bcp_ne (by omega), bcp_ne (by omega)]; exact e4
theorem X6_lay {N r n off : Nat} (hr : r ≠ 75) (ho : off + n ≤ 110) (hN : n < N) (h : qN) :
    ∃ h1, f_X6_lay N r n (nI off) h = some (nI (off + n), h1) ∧ (∀ k, k < n → h1 75 (off + k) = h r k) ∧ Off (fun a k => a = 75 ∧ off ≤ k ∧ k < off + n) h h1 := by
  obtain ⟨h1, a, b, c⟩ := loopCopy (F := f_X6_lay_L2 N r n (nI off)) (U := n) (d := 75) (s := r) (dj := off) (sj := 0) hr (fun m h => by
      rw [f_X6_lay_L2.eq_2, show Int32.ofNat n = nI n from rfl, if_pos (nI_le (Nat.le_refl _) (by omega))])
    (fun m j h hj => by
      have c1 := nchk2 (j := j) (n := n) hj (by omega)
      have c2 := nchk2 (j := off + j) (n := 110) (by omega) (by omega)
      rw [f_X6_lay_L2.eq_2, show Int32.ofNat n = nI n from rfl, if_neg (nI_ge hj (by omega))]
      simp only [nI_add, nI_clamp (show j < 2 ^ 31 by omega), nI_clamp (show off + j < 2 ^ 31 by omega), if_neg c1, if_neg c2, nI_1, Nat.zero_add]) N h hN
  refine ⟨h1, ?_, fun k hk => by rw [b k hk, Nat.zero_add], c⟩
  unfold f_X6_lay
  rw [k0, a, qb, show Int32.ofNat n = nI n from rfl, nI_add]
theorem X6_gives {N r n off : Nat} (hr : r ≠ 75) (ho : off + n ≤ 110) (hN : n < N) (h : qN) :
    ∃ h1, f_X6_gives N 75 110 (nI off) r n h = some (nI (off + n), h1) ∧ (∀ k, k < n → h1 r k = h 75 (off + k)) ∧ Off (fun a _ => a = r) h h1 := by
  obtain ⟨h1, a, b, c⟩ := loopCopy (F := f_X6_gives_L2 N 75 110 (nI off) r n) (U := n) (d := r) (s := 75) (dj := 0) (sj := off) (fun z => hr z.symm) (fun m h => by
      rw [f_X6_gives_L2.eq_2, show Int32.ofNat n = nI n from rfl, if_pos (nI_le (Nat.le_refl _) (by omega))])
    (fun m j h hj => by
      have c1 := nchk2 (j := j) (n := n) hj (by omega)
      have c2 := nchk2 (j := off + j) (n := 110) (by omega) (by omega)
      rw [f_X6_gives_L2.eq_2, show Int32.ofNat n = nI n from rfl, if_neg (nI_ge hj (by omega))]
      simp only [nI_add, nI_clamp (show j < 2 ^ 31 by omega), nI_clamp (show off + j < 2 ^ 31 by omega), if_neg c1, if_neg c2, nI_1, Nat.zero_add]) N h hN
  refine ⟨h1, ?_, fun k hk => by have := b k hk; rwa [Nat.zero_add] at this, c.weaken (fun a k x => x.1)⟩
  unfold f_X6_gives
  rw [k0, a, qb, show Int32.ofNat n = nI n from rfl, nI_add]
theorem X6_image_ok {N : Nat} {c : Ct} {g : Gt} {h : qN} (hN : 60 < N) (hr : RMt c h) (hg : RG6 g h) :
    ∃ h1, f_X6_image N h = some (1, h1) ∧ RI c g h1 ∧ h1 60 24 = 1 ∧ Off (fun a k => a = 75 ∨ (a = 60 ∧ k = 24)) h h1 := by
  obtain ⟨e1, e2, e3, e4, e5, e6, e7, e8⟩ := hr
  obtain ⟨f1, f2, f3, f4⟩ := hg
  obtain ⟨h1, a1, b1, o1⟩ := X6_lay (N := N) (r := 61) (n := 6) (off := 0) (by omega) (by omega) (by omega) h
  obtain ⟨h2, a2, b2, o2⟩ := X6_lay (N := N) (r := 62) (n := 6) (off := 0 + 6) (by omega) (by omega) (by omega) h1
  obtain ⟨h3, a3, b3, o3⟩ := X6_lay (N := N) (r := 63) (n := 2) (off := 0 + 6 + 6) (by omega) (by omega) (by omega) h2
  obtain ⟨h4, a4, b4, o4⟩ := X6_lay (N := N) (r := 64) (n := 8) (off := 0 + 6 + 6 + 2) (by omega) (by omega) (by omega) h3
  obtain ⟨h5, a5, b5, o5⟩ := X6_lay (N := N) (r := 65) (n := 48) (off := 0 + 6 + 6 + 2 + 8) (by omega) (by omega) (by omega) h4
  obtain ⟨h6, a6, b6, o6⟩ := X6_lay (N := N) (r := 66) (n := 12) (off := 0 + 6 + 6 + 2 + 8 + 48) (by omega) (by omega) (by omega) h5
  obtain ⟨h7, a7, b7, o7⟩ := X6_lay (N := N) (r := 67) (n := 12) (off := 0 + 6 + 6 + 2 + 8 + 48 + 12) (by omega) (by omega) (by omega) h6
  have r67 : Off (fun a k => a = 75 ∧ 82 ≤ k) h6 h7 := o7.weaken (by omega)
  have r57 : Off (fun a k => a = 75 ∧ 70 ≤ k) h5 h7 := (o6.weaken (by omega)).tr (r67.weaken (by omega))
  have r47 : Off (fun a k => a = 75 ∧ 22 ≤ k) h4 h7 := (o5.weaken (by omega)).tr (r57.weaken (by omega))
  have r37 : Off (fun a k => a = 75 ∧ 14 ≤ k) h3 h7 := (o4.weaken (by omega)).tr (r47.weaken (by omega))
  have r27 : Off (fun a k => a = 75 ∧ 12 ≤ k) h2 h7 := (o3.weaken (by omega)).tr (r37.weaken (by omega))
  have r17 : Off (fun a k => a = 75 ∧ 6 ≤ k) h1 h7 := (o2.weaken (by omega)).tr (r27.weaken (by omega))
  have s1 : Off (fun a _ => a = 75) h h1 := o1.weaken (by omega)
  have s2 : Off (fun a _ => a = 75) h h2 := s1.tr (o2.weaken (by omega))
  have s3 : Off (fun a _ => a = 75) h h3 := s2.tr (o3.weaken (by omega))
  have s4 : Off (fun a _ => a = 75) h h4 := s3.tr (o4.weaken (by omega))
  have s5 : Off (fun a _ => a = 75) h h5 := s4.tr (o5.weaken (by omega))
  have s6 : Off (fun a _ => a = 75) h h6 := s5.tr (o6.weaken (by omega))
  have s7 : Off (fun a _ => a = 75) h h7 := s6.tr (o7.weaken (by omega))
  have c94 := nchk2 (j := 94) (n := 110) (by omega) (by omega)
  have c95 := nchk2 (j := 95) (n := 110) (by omega) (by omega)
  have c96 := nchk2 (j := 96) (n := 110) (by omega) (by omega)
  have c97 := nchk2 (j := 97) (n := 110) (by omega) (by omega)
  refine ⟨qup (qup (qup (qup (qup h7 75 94 (h7 60 3)) 75 95 (h7 60 6)) 75 96 (h7 60 9)) 75 97 (h7 60 10)) 60 24 1, ?_, ?_, ?_, ?_⟩
  · unfold f_X6_image
    rw [k0, a1, qb]
    dsimp only
    rw [a2, qb]
    dsimp only
    rw [a3, qb]
    dsimp only
    rw [a4, qb]
    dsimp only
    rw [a5, qb]
    dsimp only
    rw [a6, qb]
    dsimp only
    rw [a7, qb]
    simp only [show nI (0 + 6 + 6 + 2 + 8 + 48 + 12 + 12) = nI 94 from rfl, show nI 94 + (1 : Int32) = nI 95 from rfl, show nI 94 + (2 : Int32) = nI 96 from rfl, show nI 94 + (3 : Int32) = nI 97 from rfl, show (nI 94).toNatClampNeg = 94 from nI_clamp (by omega), show (nI 95).toNatClampNeg = 95 from nI_clamp (by omega), show (nI 96).toNatClampNeg = 96 from nI_clamp (by omega), show (nI 97).toNatClampNeg = 97 from nI_clamp (by omega), if_neg c94, if_neg c95, if_neg c96, if_neg c97]
    rfl
  · have z : ∀ k, k < 94 → (qup (qup (qup (qup (qup h7 75 94 (h7 60 3)) 75 95 (h7 60 6)) 75 96 (h7 60 9)) 75 97 (h7 60 10)) 60 24 1) 75 k = h7 75 k := by
      intro k hk
      simp only [qup, if_true, if_neg (show ¬ (75 : Nat) = 60 by omega), if_neg (show ¬ k = 97 by omega), if_neg (show ¬ k = 96 by omega), if_neg (show ¬ k = 95 by omega), if_neg (show ¬ k = 94 by omega)]
    refine ⟨fun k hk => ?_, fun k hk => ?_, ?_, ?_, fun k hk => ?_, fun k hk => ?_, fun k hk => ?_, fun k hk => ?_, ?_, ?_, ?_, ?_⟩
    · have q := b1 k hk
      rw [Nat.zero_add] at q
      rw [z k (by omega), r17 75 k (by omega), q]; exact f1 k hk
    · rw [z _ (by omega), r27 75 _ (by omega), show 6 + k = 0 + 6 + k by omega, b2 k hk, s1 62 k (by omega)]; exact f2 k hk
    · rw [z _ (by omega), r37 75 _ (by omega), show (12 : Nat) = 0 + 6 + 6 + 0 by omega, b3 0 (by omega), s2 63 0 (by omega)]; exact e7
    · rw [z _ (by omega), r37 75 _ (by omega), show (13 : Nat) = 0 + 6 + 6 + 1 by omega, b3 1 (by omega), s2 63 1 (by omega)]; exact e8
    · rw [z _ (by omega), r47 75 _ (by omega), show 14 + k = 0 + 6 + 6 + 2 + k by omega, b4 k hk, s3 64 k (by omega)]; exact e4 k hk
    · rw [z _ (by omega), r57 75 _ (by omega), show 22 + k = 0 + 6 + 6 + 2 + 8 + k by omega, b5 k hk, s4 65 k (by omega)]; exact f3 k hk
    · rw [z _ (by omega), r67 75 _ (by omega), show 70 + k = 0 + 6 + 6 + 2 + 8 + 48 + k by omega, b6 k hk, s5 66 k (by omega)]; exact e5 k hk
    · rw [z _ (by omega), show 82 + k = 0 + 6 + 6 + 2 + 8 + 48 + 12 + k by omega, b7 k hk, s6 67 k (by omega)]; exact e6 k hk
    · simp only [qup, if_true, if_neg (show ¬ (75 : Nat) = 60 by omega), if_neg (show ¬ (94 : Nat) = 97 by omega), if_neg (show ¬ (94 : Nat) = 96 by omega), if_neg (show ¬ (94 : Nat) = 95 by omega)]
      rw [s7 60 3 (by omega)]; exact e1
    · simp only [qup, if_true, if_neg (show ¬ (75 : Nat) = 60 by omega), if_neg (show ¬ (95 : Nat) = 97 by omega), if_neg (show ¬ (95 : Nat) = 96 by omega)]
      rw [s7 60 6 (by omega)]; exact e2
    · simp only [qup, if_true, if_neg (show ¬ (75 : Nat) = 60 by omega), if_neg (show ¬ (96 : Nat) = 97 by omega)]
      rw [s7 60 9 (by omega)]; exact e3
    · simp only [qup, if_true, if_neg (show ¬ (75 : Nat) = 60 by omega)]
      rw [s7 60 10 (by omega)]; exact f4
  · simp only [qup, if_true]
  · exact Off.up (Off.up (Off.up (Off.up (Off.up (s7.weaken (by omega)) (by omega)) (by omega)) (by omega)) (by omega)) (by omega)
theorem X6_restore_ok {N : Nat} {c c0 : Ct} {g : Gt} {h : qN} (hN : 60 < N) (hr : RI c g h) (h24 : h 60 24 = 1) :
    ∃ h1, f_X6_restore N h = some (1, h1) ∧ RMt c h1 ∧ RG6 g h1 ∧ Off P6 h h1 := by
  obtain ⟨e1, e2, e3, e4, e5, e6, e7, e8, e9, e10, e11, e12⟩ := hr
  obtain ⟨h1, a1, b1, o1⟩ := X6_gives (N := N) (r := 61) (n := 6) (off := 0) (by omega) (by omega) (by omega) h
  obtain ⟨h2, a2, b2, o2⟩ := X6_gives (N := N) (r := 62) (n := 6) (off := 0 + 6) (by omega) (by omega) (by omega) h1
  obtain ⟨h3, a3, b3, o3⟩ := X6_gives (N := N) (r := 63) (n := 2) (off := 0 + 6 + 6) (by omega) (by omega) (by omega) h2
  obtain ⟨h4, a4, b4, o4⟩ := X6_gives (N := N) (r := 64) (n := 8) (off := 0 + 6 + 6 + 2) (by omega) (by omega) (by omega) h3
  obtain ⟨h5, a5, b5, o5⟩ := X6_gives (N := N) (r := 65) (n := 48) (off := 0 + 6 + 6 + 2 + 8) (by omega) (by omega) (by omega) h4
  obtain ⟨h6, a6, b6, o6⟩ := X6_gives (N := N) (r := 66) (n := 12) (off := 0 + 6 + 6 + 2 + 8 + 48) (by omega) (by omega) (by omega) h5
  obtain ⟨h7, a7, b7, o7⟩ := X6_gives (N := N) (r := 67) (n := 12) (off := 0 + 6 + 6 + 2 + 8 + 48 + 12) (by omega) (by omega) (by omega) h6
  have r67 : Off (fun a _ => 67 ≤ a ∧ a < 68) h6 h7 := o7.weaken (by omega)
  have r57 : Off (fun a _ => 66 ≤ a ∧ a < 68) h5 h7 := (o6.weaken (by omega)).tr (r67.weaken (by omega))
  have r47 : Off (fun a _ => 65 ≤ a ∧ a < 68) h4 h7 := (o5.weaken (by omega)).tr (r57.weaken (by omega))
  have r37 : Off (fun a _ => 64 ≤ a ∧ a < 68) h3 h7 := (o4.weaken (by omega)).tr (r47.weaken (by omega))
  have r27 : Off (fun a _ => 63 ≤ a ∧ a < 68) h2 h7 := (o3.weaken (by omega)).tr (r37.weaken (by omega))
  have r17 : Off (fun a _ => 62 ≤ a ∧ a < 68) h1 h7 := (o2.weaken (by omega)).tr (r27.weaken (by omega))
  have s1 : Off (fun a _ => 61 ≤ a ∧ a < 68) h h1 := o1.weaken (by omega)
  have s2 : Off (fun a _ => 61 ≤ a ∧ a < 68) h h2 := s1.tr (o2.weaken (by omega))
  have s3 : Off (fun a _ => 61 ≤ a ∧ a < 68) h h3 := s2.tr (o3.weaken (by omega))
  have s4 : Off (fun a _ => 61 ≤ a ∧ a < 68) h h4 := s3.tr (o4.weaken (by omega))
  have s5 : Off (fun a _ => 61 ≤ a ∧ a < 68) h h5 := s4.tr (o5.weaken (by omega))
  have s6 : Off (fun a _ => 61 ≤ a ∧ a < 68) h h6 := s5.tr (o6.weaken (by omega))
  have s7 : Off (fun a _ => 61 ≤ a ∧ a < 68) h h7 := s6.tr (o7.weaken (by omega))
  have c94 := nchk2 (j := 94) (n := 110) (by omega) (by omega)
  have c95 := nchk2 (j := 95) (n := 110) (by omega) (by omega)
  have c96 := nchk2 (j := 96) (n := 110) (by omega) (by omega)
  have c97 := nchk2 (j := 97) (n := 110) (by omega) (by omega)
  refine ⟨qup (qup (qup (qup h7 60 3 (h7 75 94)) 60 6 (h7 75 95)) 60 9 (h7 75 96)) 60 10 (h7 75 97), ?_, ?_, ?_, ?_⟩
  · unfold f_X6_restore
    rw [h24, if_neg (by decide)]
    rw [k0, a1, qb]
    dsimp only
    rw [a2, qb]
    dsimp only
    rw [a3, qb]
    dsimp only
    rw [a4, qb]
    dsimp only
    rw [a5, qb]
    dsimp only
    rw [a6, qb]
    dsimp only
    rw [a7, qb]
    simp only [show nI (0 + 6 + 6 + 2 + 8 + 48 + 12 + 12) = nI 94 from rfl, show nI 94 + (1 : Int32) = nI 95 from rfl, show nI 94 + (2 : Int32) = nI 96 from rfl, show nI 94 + (3 : Int32) = nI 97 from rfl, show (nI 94).toNatClampNeg = 94 from nI_clamp (by omega), show (nI 95).toNatClampNeg = 95 from nI_clamp (by omega), show (nI 96).toNatClampNeg = 96 from nI_clamp (by omega), show (nI 97).toNatClampNeg = 97 from nI_clamp (by omega), if_neg c94, if_neg c95, if_neg c96, if_neg c97]
    rfl
  · have z : ∀ a k, a ≠ 60 → (qup (qup (qup (qup h7 60 3 (h7 75 94)) 60 6 (h7 75 95)) 60 9 (h7 75 96)) 60 10 (h7 75 97)) a k = h7 a k := by
      intro a k hk
      simp only [qup, if_neg hk]
    refine ⟨?_, ?_, ?_, fun k hk => ?_, fun k hk => ?_, fun k hk => ?_, ?_, ?_⟩
    · simp only [qup, if_true, if_neg (show ¬ (3 : Nat) = 10 by omega), if_neg (show ¬ (3 : Nat) = 9 by omega), if_neg (show ¬ (3 : Nat) = 6 by omega)]
      rw [s7 75 94 (by omega)]; exact e9
    · simp only [qup, if_true, if_neg (show ¬ (6 : Nat) = 10 by omega), if_neg (show ¬ (6 : Nat) = 9 by omega)]
      rw [s7 75 95 (by omega)]; exact e10
    · simp only [qup, if_true, if_neg (show ¬ (9 : Nat) = 10 by omega)]
      rw [s7 75 96 (by omega)]; exact e11
    · rw [z _ _ (by omega), r47 64 k (by omega), b4 k hk, s3 75 _ (by omega)]; exact e5 k hk
    · rw [z _ _ (by omega), r67 66 k (by omega), b6 k hk, s5 75 _ (by omega)]; exact e7 k hk
    · rw [z _ _ (by omega), b7 k hk, s6 75 _ (by omega)]; exact e8 k hk
    · rw [z _ _ (by omega), r37 63 0 (by omega), b3 0 (by omega), s2 75 _ (by omega)]; exact e3
    · rw [z _ _ (by omega), r37 63 1 (by omega), b3 1 (by omega), s2 75 _ (by omega)]; exact e4
  · have z : ∀ a k, a ≠ 60 → (qup (qup (qup (qup h7 60 3 (h7 75 94)) 60 6 (h7 75 95)) 60 9 (h7 75 96)) 60 10 (h7 75 97)) a k = h7 a k := by
      intro a k hk
      simp only [qup, if_neg hk]
    refine ⟨fun k hk => ?_, fun k hk => ?_, fun k hk => ?_, ?_⟩
    · rw [z _ _ (by omega), r17 61 k (by omega), b1 k hk, Nat.zero_add]; exact e1 k hk
    · rw [z _ _ (by omega), r27 62 k (by omega), b2 k hk, s1 75 _ (by omega), Nat.zero_add]; exact e2 k hk
    · rw [z _ _ (by omega), r57 65 k (by omega), b5 k hk, s4 75 _ (by omega)]; exact e6 k hk
    · simp only [qup, if_true]
      rw [s7 75 97 (by omega)]; exact e12
  · exact Off.up (Off.up (Off.up (Off.up (s7.weaken (fun a k x => by unfold P6; omega)) (by unfold P6; omega)) (by unfold P6; omega)) (by unfold P6; omega)) (by unfold P6; omega)
theorem call_image {N : Nat} (hN : 60 < N) {h : qN} (hj : J h) : OKC f_X5_image (f_X6_image N) h := by
  obtain ⟨c, g, wc, wg, rc, rg, rm, r6⟩ := hj.1
  obtain ⟨h1, a1, b1, c1, d1⟩ := X4_becomeC (w := 10) (r1 := 1) (by omega) rc rg
  have o5 : Off (fun a k => (10 ≤ a ∧ a < 19) ∨ (a = 0 ∧ k = 2)) h (qup h1 0 2 1) := Off.up (d1.weaken (fun a k x => by unfold PW at x; omega)) (by omega)
  obtain ⟨h2, a2, b2, c2, d2⟩ := X6_image_ok (N := N) (h := qup h1 0 2 1) hN (RM.off rm o5 (fun a k x y => by unfold PM at x; omega)) (r6.off o5 (fun a k x y => by omega))
  refine ⟨1, qup h1 0 2 1, h2, ?_, a2, ?_⟩
  · unfold f_X5_image
    rw [a1, qb]
  · have oA : Off (fun a k => (10 ≤ a ∧ a < 19) ∨ (a = 0 ∧ k = 2) ∨ a = 75 ∨ (a = 60 ∧ k = 24)) h h2 := (o5.weaken (by omega)).tr (d2.weaken (by omega))
    refine ⟨⟨c, g, wc, wg, RC.off rc oA (fun a k x y z => by omega), rg.off oA (fun a k x y => by omega), RM.off rm oA (fun a k x y => by unfold PM at x; omega), r6.off oA (fun a k x y => by omega)⟩, ⟨true, ?_, c2, fun _ => ⟨c, g, wc, wg, ?_, ?_, b2⟩⟩, hj.2.2.1.off oA (fun a k x y => by omega), hj.2.2.2.off oA (fun a k x y => by omega)⟩
    · rw [d2 0 2 (by omega)]
      simp only [qup, if_true]
      rfl
    · exact RC.off (RC.off b1 (P := fun a k => a = 0) (off_up (v := 1) (a := 0) (k := 2) rfl) (fun a k x y z => by omega)) d2 (fun a k x y z => by omega)
    · exact (c1.off (P := fun a k => a = 0) (off_up (v := 1) (a := 0) (k := 2) rfl) (fun a k x y => by omega)).off d2 (fun a k x y => by omega)
theorem call_restore {N : Nat} (hN : 60 < N) {h : qN} (hj : J h) : OKC f_X5_restore (f_X6_restore N) h := by
  obtain ⟨b, e1, e2, e3⟩ := hj.2.1
  cases b with
  | false =>
    refine ⟨-4, h, h, ?_, ?_, hj⟩
    · unfold f_X5_restore
      rw [if_pos (by rw [e1]; rfl)]
    · unfold f_X6_restore
      rw [if_pos (by rw [e2]; rfl)]
  | true =>
    obtain ⟨c, g, wc, wg, rc, rg, ri⟩ := e3 rfl
    obtain ⟨h1, a1, b1, c1, d1⟩ := X4_becomeC (w := 1) (r1 := 10) (by omega) rc rg
    have o5 : Off P5 h h1 := d1.weaken (fun a k x => by unfold PW at x; unfold P5; omega)
    obtain ⟨h2, a2, b2, c2, d2⟩ := X6_restore_ok (c0 := c) hN (ri.off o5 (fun k y => by unfold P5 at y; omega)) (by rw [o5 60 24 (by unfold P5; omega)]; exact e2)
    refine ⟨1, h1, h2, ?_, a2, hj.bld wc wg b1 c1 b2 c2 o5 d2⟩
    unfold f_X5_restore
    rw [if_neg (by rw [e1]; decide), a1, qb]
