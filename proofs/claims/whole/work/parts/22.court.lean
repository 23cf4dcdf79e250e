/-! ===== pure 2: courts: standing, over, settling ===== -/
theorem nchk {j n : Nat} (h : j < n) (hn : n < 2 ^ 31) : ¬ (nI j < 0 ∨ n ≤ (nI j).toNatClampNeg) := nI_in h hn
theorem nchk2 {j n : Nat} (h : j < n) (hn : n < 2 ^ 31) : ¬ (nI j < 0 ∨ n ≤ j) := by
  have h2 := nI_in h hn
  rwa [nI_clamp (by omega)] at h2
def cnt (f : Nat → Bool) : Nat → Nat → Nat
  | _, 0 => 0
  | j, k + 1 => (f j).toNat + cnt f (j + 1) k
theorem cnt_le (f : Nat → Bool) : ∀ (k j : Nat), cnt f j k ≤ k := by
  intro k
  induction k with
  | zero => intro j; exact Nat.le_refl _
  | succ k ih =>
    intro j
    have := ih (j + 1)
    have h2 : (f j).toNat ≤ 1 := by cases f j <;> decide
    show (f j).toNat + cnt f (j + 1) k ≤ k + 1
    omega
theorem qb {α β : Type} (x : α) (f : α → Option β) : qbind (some x) f = f x := rfl
theorem b2_0 (b : Bool) : nI b.toNat = 0 ↔ b = false := by cases b <;> decide
theorem b2_1 (b : Bool) : nI b.toNat = 1 ↔ b = true := by cases b <;> decide
theorem bF : nI false.toNat = 0 := rfl
theorem bT : ¬ nI true.toNat = 0 := by decide
theorem end_X0 {a b : Nat} {x : Int32} (w : Bool) (hx : x = nI w.toNat) (ha : a ≤ 6) (hb : b ≤ 6) : (if nI a = 6 then (if x = 1 then (1 : Int32) else 0) else (if nI b = 6 then (if x = 1 then (1 : Int32) else 0) else (if nI a = nI b then (1 : Int32) else 0))) = nI (if a = 6 ∨ b = 6 then w else decide (a = b)).toNat := by
  subst hx
  have e1 : (nI a = nI 6) = (a = 6) := propext (nI_eq (by omega) (by omega))
  have e2 : (nI b = nI 6) = (b = 6) := propext (nI_eq (by omega) (by omega))
  have e3 : (nI a = nI b) = (a = b) := propext (nI_eq (by omega) (by omega))
  simp only [k6, e1, e2, e3]
  by_cases h1 : a = 6
  · subst h1; cases w <;> simp [b2_1] <;> rfl
  · by_cases h2 : b = 6
    · subst h2; cases w <;> simp [h1, b2_1] <;> rfl
    · by_cases h3 : a = b <;> simp [h1, h2, h3] <;> rfl
theorem end_X6 {a b : Nat} {x : Int32} (w : Bool) (hx : x = nI w.toNat) (ha : a ≤ 6) (hb : b ≤ 6) : (if nI a = nI b then (if nI a < (6 : Int32) then (1 : Int32) else (if x = (1 : Int32) then (if nI a = (6 : Int32) then (1 : Int32) else (if nI b = (6 : Int32) then (1 : Int32) else (0 : Int32))) else (0 : Int32))) else (if x = (1 : Int32) then (if nI a = (6 : Int32) then (1 : Int32) else (if nI b = (6 : Int32) then (1 : Int32) else (0 : Int32))) else (0 : Int32))) = nI (if a = 6 ∨ b = 6 then w else decide (a = b)).toNat := by
  subst hx
  have e1 : (nI a = nI 6) = (a = 6) := propext (nI_eq (by omega) (by omega))
  have e2 : (nI b = nI 6) = (b = 6) := propext (nI_eq (by omega) (by omega))
  have e3 : (nI a = nI b) = (a = b) := propext (nI_eq (by omega) (by omega))
  have e4 : (nI a < nI 6) = (a < 6) := propext (nI_ltI (by omega) (by omega))
  simp only [k6, e1, e2, e3, e4]
  by_cases h3 : a = b
  · subst h3
    by_cases h1 : a = 6
    · subst h1; cases w <;> simp [b2_1] <;> rfl
    · have : a < 6 := by omega
      simp [h1, this]; rfl
  · by_cases h1 : a = 6
    · subst h1; cases w <;> simp [h3, b2_1] <;> rfl
    · by_cases h2 : b = 6
      · subst h2; cases w <;> simp [h1, b2_1] <;> rfl
      · cases w <;> simp [h1, h2, h3, b2_1] <;> rfl
section Court
variable {o N : Nat} {hd fs sc : Nat → Nat} {ov : Nat → Bool} {T U : Nat} {w0 w1 : Bool} {h : qN}
theorem X0_isOver (hr : RC o hd fs sc ov T U w0 w1 h) {s : Nat} (hs : s < 12) : f_X0_isOver o (nI s) h = some (nI (ov s).toNat, h) := by
  unfold f_X0_isOver
  by_cases hv : ov s = true
  · rw [if_pos ((hr.2.2.1.test hs).mpr hv), hv]; rfl
  · rw [if_neg (fun z => hv ((hr.2.2.1.test hs).mp z))]
    rw [show ov s = false by simpa using hv]; rfl
theorem X6_isOver (hr : RM hd fs sc ov T U w0 w1 h) {s : Nat} (hs : s < 12) : f_X6_isOver (nI s) h = some (nI (ov s).toNat, h) := by
  unfold f_X6_isOver
  by_cases hv : ov s = true
  · rw [if_pos ((hr.2.2.1.test hs).mpr hv), hv]; rfl
  · rw [if_neg (fun z => hv ((hr.2.2.1.test hs).mp z))]
    rw [show ov s = false by simpa using hv]; rfl
theorem X0_standing (hr : RC o hd fs sc ov T U w0 w1 h) (hT : T ≤ 8) {x : Nat} (hx : okS T x) : f_X0_standing o (nI x) h = some (nI (stN hd x), h) := by
  unfold f_X0_standing stN
  rw [k10]
  rcases hx with hx | hx
  · rw [if_pos (nI_lt (by omega) (by omega)), if_neg (nchk (by omega) (by omega)), nI_clamp (by omega), hr.2.2.2.1 x (by omega), if_pos (by omega)]
  · rw [if_neg (nI_nlt (by omega) (by omega)), pk_sub (by omega), if_neg (by omega)]
theorem X6_stands (hr : RM hd fs sc ov T U w0 w1 h) (hT : T ≤ 8) {x : Nat} (hx : okS T x) : f_X6_stands (nI x) h = some (nI (stN hd x), h) := by
  unfold f_X6_stands stN
  rw [k10]
  rcases hx with hx | hx
  · rw [if_neg (nI_ge (by omega) (by omega)), if_neg (nchk (by omega) (by omega)), nI_clamp (by omega), hr.2.2.2.1 x (by omega), if_pos (by omega)]
  · rw [if_pos (nI_le (by omega) (by omega)), pk_sub (by omega), if_neg (by omega)]
/-- over behind settling -/
def setO (hd fs sc : Nat → Nat) (w1 : Bool) (ov : Nat → Bool) (j : Nat) : Nat → Bool := fun s => ov s || (decide (s < j) && endN hd fs sc w1 s)
theorem setO_succ (hd fs sc : Nat → Nat) (w1 : Bool) (ov : Nat → Bool) (j : Nat) : setO hd fs sc w1 ov (j + 1) = fun s => setO hd fs sc w1 ov j s || (decide (s = j) && endN hd fs sc w1 j) := by
  funext s
  unfold setO
  by_cases h1 : s = j
  · subst h1; simp
  · by_cases h2 : s < j
    · have : s < j + 1 := by omega
      simp [h1, h2, this]
    · have : ¬ s < j + 1 := by omega
      simp [h1, h2, this]
theorem setO_at (hd fs sc : Nat → Nat) (w1 : Bool) (ov : Nat → Bool) (j : Nat) : setO hd fs sc w1 ov j j = ov j := by
  unfold setO
  simp
theorem X0_settle_L (wf : WF hd fs sc ov T U) : ∀ (k j n c : Nat) (h : qN), U = j + k → k < n → RC o hd fs sc (setO hd fs sc w1 ov j) T U w0 w1 h →
    ∃ h1, f_X0_settle_L4 N o n (nI c) (nI j) h = some (nI (c + cnt (fun s => endN hd fs sc w1 s && !ov s) j k), h1) ∧ RC o hd fs sc (setO hd fs sc w1 ov U) T U w0 w1 h1 ∧ Off (PC o) h h1 := by
  intro k
  induction k with
  | zero =>
    intro j n c h hU hn hr
    obtain ⟨n, rfl⟩ : ∃ m, n = m + 1 := ⟨n - 1, by omega⟩
    refine ⟨h, ?_, ?_, Off.rf⟩
    · unfold f_X0_settle_L4
      rw [hr.2.1, if_pos (nI_le (by omega) (by have := wf.2.1; omega))]
      rfl
    · rw [show j = U by omega] at hr; exact hr
  | succ k ih =>
    intro j n c h hU hn hr
    obtain ⟨n, rfl⟩ : ∃ m, n = m + 1 := ⟨n - 1, by omega⟩
    have hU12 := wf.2.1
    have hj : j < U := by omega
    obtain ⟨w1a, w1b⟩ := wf.2.2.2.1 j hj
    have ha := (wf.st w1a).1
    have hb := (wf.st w1b).1
    unfold f_X0_settle_L4
    rw [hr.2.1, if_neg (nI_ge hj (by omega)), if_neg (nchk (by omega) (by omega)), nI_clamp (by omega), hr.2.2.2.2.1 j (by omega), X0_standing hr wf.1 w1a, qb]
    dsimp only
    rw [if_neg (nchk2 (by omega) (by omega)), hr.2.2.2.2.2.1 j (by omega), X0_standing hr wf.1 w1b, qb]
    dsimp only
    rw [end_X0 w1 hr.2.2.2.2.2.2.2 ha hb]
    have hE : (if stN hd (fs j) = 6 ∨ stN hd (sc j) = 6 then w1 else decide (stN hd (fs j) = stN hd (sc j))) = endN hd fs sc w1 j := rfl
    rw [hE, X0_isOver hr (by omega), setO_at]
    have hcnt : cnt (fun s => endN hd fs sc w1 s && !ov s) j (k + 1) = (endN hd fs sc w1 j && !ov j).toNat + cnt (fun s => endN hd fs sc w1 s && !ov s) (j + 1) k := rfl
    rw [hcnt]
    cases he : endN hd fs sc w1 j with
    | false =>
      rw [if_pos bF, qb]
      dsimp only
      rw [k1, nI_add]
      obtain ⟨h1, a, b, d⟩ := ih (j + 1) n c h (by omega) (by omega) (by rw [setO_succ, he]; simpa using hr)
      exact ⟨h1, by rw [a]; simp, b, d⟩
    | true =>
      rw [if_neg (by decide), qb]
      dsimp only
      cases hv : ov j with
      | true =>
        rw [if_neg (by decide), qb]
        dsimp only
        rw [k1, nI_add]
        obtain ⟨h1, a, b, d⟩ := ih (j + 1) n c h (by omega) (by omega) (by
          rw [setO_succ, he]
          have : (fun s => setO hd fs sc w1 ov j s || (decide (s = j) && true)) = setO hd fs sc w1 ov j := by
            funext s
            by_cases e : s = j
            · subst e; rw [setO_at, hv]; rfl
            · simp [e]
          rw [this]
          exact hr)
        exact ⟨h1, by rw [a]; simp, b, d⟩
      | false =>
        rw [if_pos bF, qb]
        dsimp only
        rw [show (1 : Int32) <<< (nI j &&& 31) = (1 : Int32) <<< (nI j &&& 31) from rfl]
        obtain ⟨h1, a, b, d⟩ := ih (j + 1) n (c + 1) _ (by omega) (by omega) (RC_ov (w := h o 6 ||| ((1 : Int32) <<< (nI j &&& 31))) (ov' := setO hd fs sc w1 ov (j + 1)) ((hr.2.2.1.set (by omega : j < 12)).congr (fun i hi => by rw [setO_succ, he]; simp)) hr)
        refine ⟨h1, ?_, b, Off.tr (Off.up Off.rf ⟨by omega, by omega⟩) d⟩
        rw [nI_1, nI_1, a]
        simp [Nat.add_assoc]
theorem X0_settle (wf : WF hd fs sc ov T U) (hN : 12 < N) (hr : RC o hd fs sc ov T U w0 w1 h) :
    ∃ h1, f_X0_settle N o h = some (nI (cnt (fun s => endN hd fs sc w1 s && !ov s) 0 U), h1) ∧ RC o hd fs sc (setO hd fs sc w1 ov U) T U w0 w1 h1 ∧ Off (PC o) h h1 := by
  have h0 : setO hd fs sc w1 ov 0 = ov := by funext s; simp [setO]
  obtain ⟨h1, a, b, d⟩ := X0_settle_L (N := N) (w0 := w0) (w1 := w1) wf U 0 N 0 h (by omega) (by have := wf.2.1; omega) (by rw [h0]; exact hr)
  refine ⟨h1, ?_, b, d⟩
  unfold f_X0_settle
  rw [k0, a, qb]
  simp
theorem X6_ends_L (wf : WF hd fs sc ov T U) : ∀ (k j n c : Nat) (h : qN), U = j + k → k < n → RM hd fs sc (setO hd fs sc w1 ov j) T U w0 w1 h →
    ∃ h1, f_X6_ends_L4 N n (nI c) (nI j) h = some (nI (c + cnt (fun s => endN hd fs sc w1 s && !ov s) j k), h1) ∧ RM hd fs sc (setO hd fs sc w1 ov U) T U w0 w1 h1 ∧ Off PM h h1 := by
  intro k
  induction k with
  | zero =>
    intro j n c h hU hn hr
    obtain ⟨n, rfl⟩ : ∃ m, n = m + 1 := ⟨n - 1, by omega⟩
    refine ⟨h, ?_, ?_, Off.rf⟩
    · unfold f_X6_ends_L4
      rw [hr.2.1, if_pos (nI_le (by omega) (by have := wf.2.1; omega))]
      rfl
    · rw [show j = U by omega] at hr; exact hr
  | succ k ih =>
    intro j n c h hU hn hr
    obtain ⟨n, rfl⟩ : ∃ m, n = m + 1 := ⟨n - 1, by omega⟩
    have hU12 := wf.2.1
    have hj : j < U := by omega
    obtain ⟨w1a, w1b⟩ := wf.2.2.2.1 j hj
    have ha := (wf.st w1a).1
    have hb := (wf.st w1b).1
    unfold f_X6_ends_L4
    rw [hr.2.1, if_neg (nI_ge hj (by omega)), if_neg (nchk (by omega) (by omega)), nI_clamp (by omega), hr.2.2.2.2.1 j (by omega), X6_stands hr wf.1 w1a, qb]
    dsimp only
    rw [if_neg (nchk2 (by omega) (by omega)), hr.2.2.2.2.2.1 j (by omega), X6_stands hr wf.1 w1b, qb]
    dsimp only
    rw [end_X6 w1 hr.2.2.2.2.2.2.2 ha hb]
    have hE : (if stN hd (fs j) = 6 ∨ stN hd (sc j) = 6 then w1 else decide (stN hd (fs j) = stN hd (sc j))) = endN hd fs sc w1 j := rfl
    rw [hE, X6_isOver hr (by omega), setO_at]
    have hcnt : cnt (fun s => endN hd fs sc w1 s && !ov s) j (k + 1) = (endN hd fs sc w1 j && !ov j).toNat + cnt (fun s => endN hd fs sc w1 s && !ov s) (j + 1) k := rfl
    rw [hcnt]
    cases he : endN hd fs sc w1 j with
    | false =>
      rw [if_pos (show nI false.toNat = 0 from rfl), qb]
      dsimp only
      rw [if_pos (show nI false.toNat = 0 from rfl), k1, k0, nI_add, nI_add]
      obtain ⟨h1, a, b, d⟩ := ih (j + 1) n (c + 0) _ (by omega) (by omega) (RM_ov (w := h 60 9 ||| 0) (ov' := setO hd fs sc w1 ov (j + 1)) (hr.2.2.1.or0.congr (fun i hi => by rw [setO_succ, he]; simp)) hr)
      exact ⟨h1, by rw [← k0, a]; simp, b, Off.tr (Off.up Off.rf (by simp [PM])) d⟩
    | true =>
      rw [if_neg (show ¬ nI true.toNat = 0 by decide), if_neg (show ¬ nI true.toNat = 0 by decide), qb]
      dsimp only
      have hset : OVW (h 60 9 ||| ((1 : Int32) <<< (nI j &&& 31))) (setO hd fs sc w1 ov (j + 1)) := (hr.2.2.1.set (by omega : j < 12)).congr (fun i hi => by rw [setO_succ, he]; simp)
      cases hv : ov j with
      | true =>
        rw [if_neg (show ¬ nI true.toNat = 0 by decide), qb]
        dsimp only
        obtain ⟨h1, a, b, d⟩ := ih (j + 1) n (c + 0) _ (by omega) (by omega) (RM_ov hset hr)
        refine ⟨h1, ?_, b, Off.tr (Off.up Off.rf (by simp [PM])) d⟩
        rw [show nI c + (0 : Int32) = nI (c + 0) from nI_add c 0, show nI j + (1 : Int32) = nI (j + 1) from nI_add j 1, a]
        simp
      | false =>
        rw [if_pos (show nI false.toNat = 0 from rfl), qb]
        dsimp only
        obtain ⟨h1, a, b, d⟩ := ih (j + 1) n (c + 1) _ (by omega) (by omega) (RM_ov hset hr)
        refine ⟨h1, ?_, b, Off.tr (Off.up Off.rf (by simp [PM])) d⟩
        rw [show nI c + (1 : Int32) = nI (c + 1) from nI_add c 1, show nI j + (1 : Int32) = nI (j + 1) from nI_add j 1, a]
        simp [Nat.add_assoc]
theorem X6_ends (wf : WF hd fs sc ov T U) (hN : 12 < N) (hr : RM hd fs sc ov T U w0 w1 h) :
    ∃ h1, f_X6_ends N h = some (nI (cnt (fun s => endN hd fs sc w1 s && !ov s) 0 U), h1) ∧ RM hd fs sc (setO hd fs sc w1 ov U) T U w0 w1 h1 ∧ Off PM h h1 := by
  have h0 : setO hd fs sc w1 ov 0 = ov := by funext s; simp [setO]
  obtain ⟨h1, a, b, d⟩ := X6_ends_L (N := N) (w0 := w0) (w1 := w1) wf U 0 N 0 h (by omega) (by have := wf.2.1; omega) (by rw [h0]; exact hr)
  refine ⟨h1, ?_, b, d⟩
  unfold f_X6_ends
  rw [k0, a, qb]
  simp
end Court
