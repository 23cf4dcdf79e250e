/-! ===== pure 4: sales, weddings, suits that come, who stands ===== -/
theorem WF.settle {hd fs sc : Nat → Nat} {ov : Nat → Bool} {T U : Nat} (wf : WF hd fs sc ov T U) (w1 : Bool) : WF hd fs sc (setO hd fs sc w1 ov U) T U := by
  refine ⟨wf.1, wf.2.1, wf.2.2.1, wf.2.2.2.1, fun s hs => ?_⟩
  unfold setO at hs
  cases hv : ov s with
  | true => exact wf.2.2.2.2 s hv
  | false =>
    rw [hv] at hs
    simp at hs
    exact hs.1
theorem okS_rep {T t y x : Nat} (hx : okS T x) (hy : okS T y) : okS T (rep t y x) := by
  unfold rep
  by_cases e : x = t
  · rw [if_pos e]; exact hy
  · rw [if_neg e]; exact hx
theorem WF.stay {hd fs sc : Nat → Nat} {ov : Nat → Bool} {T U : Nat} (wf : WF hd fs sc ov T U) (w0 : Bool) {t : Nat} (ht : t < T) : WF hd (stayF w0 hd ov t U fs) (stayF w0 hd ov t U sc) ov T U := by
  refine ⟨wf.1, wf.2.1, wf.2.2.1, fun s hs => ?_, wf.2.2.2.2⟩
  have h6 := wf.2.2.1 t ht
  obtain ⟨a, b⟩ := wf.2.2.2.1 s hs
  unfold stayF
  by_cases act : w0 = true ∧ hd t ≠ 6
  · have hy : okS T (10 + hd t) := Or.inr (by have := act.2; omega)
    rw [if_pos act, if_pos act]
    simp only [mapJ, if_pos hs, stG]
    cases ov s
    · simp only [Bool.false_eq_true, if_false]
      exact ⟨okS_rep a hy, okS_rep b hy⟩
    · simp only [if_true]
      exact ⟨a, b⟩
  · rw [if_neg act, if_neg act]
    exact ⟨a, b⟩
theorem WF.hand {hd fs sc : Nat → Nat} {ov : Nat → Bool} {T U : Nat} (wf : WF hd fs sc ov T U) {t y : Nat} (hy : y ≤ 6) : WF (fun k => if k = t then y else hd k) fs sc ov T U := by
  refine ⟨wf.1, wf.2.1, fun k hk => ?_, wf.2.2.2.1, wf.2.2.2.2⟩
  by_cases e : k = t
  · simp [e, hy]
  · simp only [if_neg e]; exact wf.2.2.1 k hk
/-- hands behind a move -/
def hdU (hd : Nat → Nat) (t y : Nat) : Nat → Nat := fun k => if k = t then y else hd k
def came (hd fs sc : Nat → Nat) (w1 : Bool) (ov : Nat → Bool) (U : Nat) : Nat := cnt (fun s => endN hd fs sc w1 s && !ov s) 0 U
section Moves2
variable {o N : Nat} {hd fs sc : Nat → Nat} {ov : Nat → Bool} {T U : Nat} {w0 w1 : Bool} {h : qN}
theorem X0_move {t y : Nat} (wf : WF hd fs sc ov T U) (ht : t < T) (hy : y ≤ 6) (hN : 12 < N) (hr : RC o hd fs sc ov T U w0 w1 h) :
    ∃ h1, f_X0_move N o (nI t) (nI y) h = some (nI (came (hdU hd t y) (stayF w0 hd ov t U fs) (stayF w0 hd ov t U sc) w1 ov U), h1) ∧ RC o (hdU hd t y) (stayF w0 hd ov t U fs) (stayF w0 hd ov t U sc) (setO (hdU hd t y) (stayF w0 hd ov t U fs) (stayF w0 hd ov t U sc) w1 ov U) T U w0 w1 h1 ∧ Off (PC o) h h1 := by
  have hT := wf.1
  obtain ⟨h1, a, b, c⟩ := X0_leaveSides wf ht hN hr
  have wf2 := (wf.stay w0 ht).hand (t := t) hy
  obtain ⟨h2, a2, b2, c2⟩ := X0_settle wf2 hN (RC_hd (j := t) (x := y) b)
  refine ⟨h2, ?_, b2, Off.tr (Off.up c ⟨by omega, by omega⟩) c2⟩
  unfold f_X0_move
  rw [a, qb, if_neg (nchk (by omega) (by omega)), nI_clamp (by omega), a2, qb]
  rfl
theorem X6_sells {t y : Nat} (wf : WF hd fs sc ov T U) (ht : t < T) (hy : y ≤ 6) (hN : 12 < N) (hr : RM hd fs sc ov T U w0 w1 h) :
    ∃ h1, f_X6_sells N (nI t) (nI y) h = some (nI (came (hdU hd t y) (stayF w0 hd ov t U fs) (stayF w0 hd ov t U sc) w1 ov U), h1) ∧ RM (hdU hd t y) (stayF w0 hd ov t U fs) (stayF w0 hd ov t U sc) (setO (hdU hd t y) (stayF w0 hd ov t U fs) (stayF w0 hd ov t U sc) w1 ov U) T U w0 w1 h1 ∧ Off PM h h1 := by
  have hT := wf.1
  obtain ⟨h1, a, b, c⟩ := X6_stay wf ht hN hr
  have wf2 := (wf.stay w0 ht).hand (t := t) hy
  obtain ⟨h2, a2, b2, c2⟩ := X6_ends wf2 hN (RM_hd (j := t) (x := y) b)
  refine ⟨h2, ?_, b2, Off.tr (Off.up c (by simp [PM])) c2⟩
  unfold f_X6_sells
  rw [a, qb, if_neg (nchk (by omega) (by omega)), nI_clamp (by omega), a2, qb]
  rfl
/-- a wedding: hands, sides -/
def wedH (hd : Nat → Nat) (T a b : Nat) : Nat → Nat := mapJ hd (fun k => rep b a (hd k)) T
def wedS (f : Nat → Nat) (U a b : Nat) : Nat → Nat := mapJ f (fun k => rep (10 + b) (10 + a) (f k)) U
theorem X0_marry {a b : Nat} (wf : WF hd fs sc ov T U) (ha : a < 6) (hb : b < 6) (hN : 12 < N) (hr : RC o hd fs sc ov T U w0 w1 h) :
    ∃ h1, f_X0_marry N o (nI a) (nI b) h = some (nI (came (wedH hd T a b) (wedS fs U a b) (wedS sc U a b) w1 ov U), h1) ∧ RC o (wedH hd T a b) (wedS fs U a b) (wedS sc U a b) (setO (wedH hd T a b) (wedS fs U a b) (wedS sc U a b) w1 ov U) T U w0 w1 h1 ∧ Off (PC o) h h1 := by
  have hT := wf.1
  have hU12 := wf.2.1
  obtain ⟨h1, p1, p2, p3⟩ := loopV (F := f_X0_marry_L2 N o (nI a) (nI b)) (U := T) (Inv := fun j h1 => RC o (mapJ hd (fun k => rep b a (hd k)) j) fs sc ov T U w0 w1 h1 ∧ Off (PC o) h h1)
    (fun n h1 hi => by
      rw [f_X0_marry_L2.eq_2, hi.1.1, if_pos (nI_le (Nat.le_refl _) (by omega))])
    (fun n j h1 hj hi => by
      obtain ⟨hi, hoff⟩ := hi
      have h6 := wf.2.2.1 j hj
      have cj : (nI j).toNatClampNeg = j := nI_clamp (by omega)
      have hcj := nchk2 (j := j) (n := 8) (by omega) (by omega)
      have e1 : (nI (hd j) = nI b) = (hd j = b) := propext (nI_eq (by omega) (by omega))
      rw [f_X0_marry_L2.eq_2]
      simp only [hi.1, if_neg (nI_ge hj (show T < 2 ^ 31 by omega)), cj, if_neg hcj, hi.2.2.2.1 j (by omega), mapJ_at, e1]
      by_cases e : hd j = b
      · rw [if_pos e, qb, nI_1]
        refine ⟨_, rfl, ?_, Off.up hoff ⟨by omega, by omega⟩⟩
        have := RC_hd (j := j) (x := a) hi
        rw [← mapJ_s]
        simp only [rep, if_pos e]
        exact this
      · rw [if_neg e, qb, nI_1]
        refine ⟨_, rfl, ?_, hoff⟩
        rw [← mapJ_s, upd_same _ _ (by rw [mapJ_at]; simp only [rep, if_neg e])]
        exact hi)
    T 0 N h (by omega) (by omega) ⟨by rw [mapJ_0]; exact hr, Off.rf⟩
  obtain ⟨h2, q1, q2, q3⟩ := loopV (F := f_X0_marry_L35 N o (nI a) (nI b)) (U := U) (Inv := fun j h2 => RC o (wedH hd T a b) (mapJ fs (fun k => rep (10 + b) (10 + a) (fs k)) j) (mapJ sc (fun k => rep (10 + b) (10 + a) (sc k)) j) ov T U w0 w1 h2 ∧ Off (PC o) h h2)
    (fun n h2 hi => by
      rw [f_X0_marry_L35.eq_2, hi.1.2.1, if_pos (nI_le (Nat.le_refl _) (by omega))])
    (fun n j h2 hj hi => by
      obtain ⟨hi, hoff⟩ := hi
      obtain ⟨wa, wb⟩ := wf.2.2.2.1 j hj
      have l1 := (wf.st wa).2
      have l2 := (wf.st wb).2
      rw [f_X0_marry_L35.eq_2, hi.2.1, if_neg (nI_ge hj (by omega)), show (10 : Int32) + nI b = nI (10 + b) from nI_add 10 b, show (10 : Int32) + nI a = nI (10 + a) from nI_add 10 a]
      obtain ⟨h3, r1, r2, r3⟩ := X0_changeSides (s := j) (t := 10 + b) (y := 10 + a) hi (by omega) (by rw [mapJ_at]; omega) (by rw [mapJ_at]; omega) (by omega)
      rw [r1, qb, nI_1]
      refine ⟨h3, rfl, ?_, Off.tr hoff r3⟩
      rw [mapJ_at, mapJ_at] at r2
      rw [← mapJ_s, ← mapJ_s]
      exact r2)
    U 0 N h1 (by omega) (by omega) ⟨by rw [mapJ_0, mapJ_0]; exact p2, p3⟩
  have wf2 : WF (wedH hd T a b) (wedS fs U a b) (wedS sc U a b) ov T U := by
    refine ⟨hT, hU12, fun k hk => ?_, fun s hs => ?_, wf.2.2.2.2⟩
    · have := wf.2.2.1 k hk
      simp only [wedH, mapJ, if_pos hk, rep]
      split <;> omega
    · obtain ⟨wa, wb⟩ := wf.2.2.2.1 s hs
      simp only [wedS, mapJ, if_pos hs]
      exact ⟨okS_rep wa (Or.inr (by omega)), okS_rep wb (Or.inr (by omega))⟩
  obtain ⟨h3, s1, s2, s3⟩ := X0_settle wf2 hN q2
  refine ⟨h3, ?_, s2, Off.tr q3 s3⟩
  unfold f_X0_marry
  rw [k0, p1, qb, q1, qb, s1, qb]
  rfl
theorem X6_weds {a b : Nat} (wf : WF hd fs sc ov T U) (ha : a < 6) (hb : b < 6) (hN : 12 < N) (hr : RM hd fs sc ov T U w0 w1 h) :
    ∃ h1, f_X6_weds N (nI a) (nI b) h = some (nI (came (wedH hd T a b) (wedS fs U a b) (wedS sc U a b) w1 ov U), h1) ∧ RM (wedH hd T a b) (wedS fs U a b) (wedS sc U a b) (setO (wedH hd T a b) (wedS fs U a b) (wedS sc U a b) w1 ov U) T U w0 w1 h1 ∧ Off PM h h1 := by
  have hT := wf.1
  have hU12 := wf.2.1
  obtain ⟨h1, p1, p2, p3⟩ := loopV (F := f_X6_weds_L2 N (nI a) (nI b)) (U := T) (Inv := fun j h1 => RM (mapJ hd (fun k => rep b a (hd k)) j) fs sc ov T U w0 w1 h1 ∧ Off PM h h1)
    (fun n h1 hi => by
      rw [f_X6_weds_L2.eq_2, hi.1.1, if_pos (nI_le (Nat.le_refl _) (by omega))])
    (fun n j h1 hj hi => by
      obtain ⟨hi, hoff⟩ := hi
      have h6 := wf.2.2.1 j hj
      have cj : (nI j).toNatClampNeg = j := nI_clamp (by omega)
      have hcj := nchk2 (j := j) (n := 8) (by omega) (by omega)
      have e1 : (nI (hd j) = nI b) = (hd j = b) := propext (nI_eq (by omega) (by omega))
      have v : (if hd j = b then some (nI a) else some (nI (hd j))) = some (nI (rep b a (hd j))) := by
        unfold rep
        by_cases e : hd j = b <;> simp [e]
      rw [f_X6_weds_L2.eq_2]
      simp only [hi.1, if_neg (nI_ge hj (show T < 2 ^ 31 by omega)), cj, if_neg hcj, hi.2.2.2.1 j (by omega), mapJ_at, e1, v, qb, nI_1]
      refine ⟨_, rfl, ?_, Off.up hoff (by simp [PM])⟩
      have := RM_hd (j := j) (x := rep b a (hd j)) hi
      rw [← mapJ_s]
      exact this)
    T 0 N h (by omega) (by omega) ⟨by rw [mapJ_0]; exact hr, Off.rf⟩
  obtain ⟨h2, q1, q2, q3⟩ := loopV (F := f_X6_weds_L44 N (nI a) (nI b)) (U := U) (Inv := fun j h2 => RM (wedH hd T a b) (mapJ fs (fun k => rep (10 + b) (10 + a) (fs k)) j) (mapJ sc (fun k => rep (10 + b) (10 + a) (sc k)) j) ov T U w0 w1 h2 ∧ Off PM h h2)
    (fun n h2 hi => by
      rw [f_X6_weds_L44.eq_2, hi.1.2.1, if_pos (nI_le (Nat.le_refl _) (by omega))])
    (fun n j h2 hj hi => by
      obtain ⟨hi, hoff⟩ := hi
      obtain ⟨wa, wb⟩ := wf.2.2.2.1 j hj
      have l1 := (wf.st wa).2
      have l2 := (wf.st wb).2
      have cj : (nI j).toNatClampNeg = j := nI_clamp (by omega)
      have hcj := nchk2 (j := j) (n := 12) (by omega) (by omega)
      have e1 : (nI (fs j) = nI (10 + b)) = (fs j = 10 + b) := propext (nI_eq (by omega) (by omega))
      have e2 : (nI (sc j) = nI (10 + b)) = (sc j = 10 + b) := propext (nI_eq (by omega) (by omega))
      have v1 : (if fs j = 10 + b then some (nI (10 + a)) else some (nI (fs j))) = some (nI (rep (10 + b) (10 + a) (fs j))) := by
        unfold rep
        by_cases e : fs j = 10 + b <;> simp [e]
      have v2 : (if sc j = 10 + b then some (nI (10 + a)) else some (nI (sc j))) = some (nI (rep (10 + b) (10 + a) (sc j))) := by
        unfold rep
        by_cases e : sc j = 10 + b <;> simp [e]
      have hi2 := RM_fs (j := j) (x := rep (10 + b) (10 + a) (fs j)) hi
      rw [f_X6_weds_L44.eq_2]
      simp only [hi.2.1, if_neg (nI_ge hj (show U < 2 ^ 31 by omega)), cj, if_neg hcj, hi.2.2.2.2.1 j (by omega), mapJ_at, show (10 : Int32) + nI b = nI (10 + b) from nI_add 10 b, show (10 : Int32) + nI a = nI (10 + a) from nI_add 10 a, e1, v1, qb, hi2.2.2.2.2.2.1 j (by omega), e2, v2, nI_1]
      refine ⟨_, rfl, ?_, Off.up (Off.up hoff (by simp [PM])) (by simp [PM])⟩
      have := RM_sc (j := j) (x := rep (10 + b) (10 + a) (sc j)) hi2
      rw [← mapJ_s, ← mapJ_s]
      exact this)
    U 0 N h1 (by omega) (by omega) ⟨by rw [mapJ_0, mapJ_0]; exact p2, p3⟩
  have wf2 : WF (wedH hd T a b) (wedS fs U a b) (wedS sc U a b) ov T U := by
    refine ⟨hT, hU12, fun k hk => ?_, fun s hs => ?_, wf.2.2.2.2⟩
    · have := wf.2.2.1 k hk
      simp only [wedH, mapJ, if_pos hk, rep]
      split <;> omega
    · obtain ⟨wa, wb⟩ := wf.2.2.2.1 s hs
      simp only [wedS, mapJ, if_pos hs]
      exact ⟨okS_rep wa (Or.inr (by omega)), okS_rep wb (Or.inr (by omega))⟩
  obtain ⟨h3, s1, s2, s3⟩ := X6_ends wf2 hN q2
  refine ⟨h3, ?_, s2, Off.tr q3 s3⟩
  unfold f_X6_weds
  rw [k0, p1, qb, q1, qb, s1, qb]
  rfl
/-- in how many suits not over one stands -/
def stF (hd fs sc : Nat → Nat) (ov : Nat → Bool) (p : Nat) : Nat → Bool := fun s => !ov s && (decide (stN hd (fs s) = p) || decide (stN hd (sc s) = p))
theorem cnt_last (f : Nat → Bool) : ∀ (k j : Nat), cnt f j (k + 1) = cnt f j k + (f (j + k)).toNat := by
  intro k
  induction k with
  | zero => intro j; simp [cnt]
  | succ k ih =>
    intro j
    have h1 : cnt f j (k + 1 + 1) = (f j).toNat + cnt f (j + 1) (k + 1) := rfl
    have h2 : cnt f j (k + 1) = (f j).toNat + cnt f (j + 1) k := rfl
    rw [h1, ih (j + 1), h2, show j + 1 + k = j + (k + 1) by omega]
    omega
theorem X0_countStood {p : Nat} (wf : WF hd fs sc ov T U) (hp : p < 6) (hN : 12 < N) (hr : RC o hd fs sc ov T U w0 w1 h) : f_X0_countStood N o (nI p) h = some (nI (cnt (stF hd fs sc ov p) 0 U), h) := by
  have hT := wf.1
  have hU12 := wf.2.1
  obtain ⟨a1, h1, p1, rfl, rfl⟩ := loopA (F := f_X0_countStood_L4 N o (nI p)) (U := U) (Inv := fun j a h1 => a = nI (cnt (stF hd fs sc ov p) 0 j) ∧ h1 = h)
    (fun n a h1 hi => by
      obtain ⟨-, rfl⟩ := hi
      rw [f_X0_countStood_L4.eq_2, hr.2.1, if_pos (nI_le (Nat.le_refl _) (by omega))])
    (fun n j a h1 hj hi => by
      obtain ⟨rfl, rfl⟩ := hi
      obtain ⟨wa, wb⟩ := wf.2.2.2.1 j hj
      have l1 := (wf.st wa).1
      have l2 := (wf.st wb).1
      have cj : (nI j).toNatClampNeg = j := nI_clamp (by omega)
      have hcj := nchk2 (j := j) (n := 12) (by omega) (by omega)
      have e1 : (nI (stN hd (fs j)) = nI p) = (stN hd (fs j) = p) := propext (nI_eq (by omega) (by omega))
      have e2 : (nI (stN hd (sc j)) = nI p) = (stN hd (sc j) = p) := propext (nI_eq (by omega) (by omega))
      rw [f_X0_countStood_L4.eq_2, cnt_last, Nat.zero_add]
      simp only [hr.2.1, if_neg (nI_ge hj (show U < 2 ^ 31 by omega)), X0_isOver hr (show j < 12 by omega), qb, cj, if_neg hcj, hr.2.2.2.2.1 j (by omega), hr.2.2.2.2.2.1 j (by omega), X0_standing hr hT wa, X0_standing hr hT wb, e1, e2, nI_1]
      unfold stF
      cases hv : ov j with
      | true =>
        rw [if_neg bT, qb]
        exact ⟨_, _, rfl, by simp, rfl⟩
      | false =>
        rw [if_pos bF]
        by_cases q1 : stN hd (fs j) = p
        · rw [if_pos q1, qb]
          exact ⟨_, _, rfl, by simp [q1], rfl⟩
        · rw [if_neg q1]
          by_cases q2 : stN hd (sc j) = p
          · rw [if_pos q2, qb]
            exact ⟨_, _, rfl, by simp [q2], rfl⟩
          · rw [if_neg q2, qb]
            exact ⟨_, _, rfl, by simp [q1, q2], rfl⟩)
    U 0 N (nI 0) h (by omega) (by omega) ⟨rfl, rfl⟩
  unfold f_X0_countStood
  rw [k0, p1, qb]
theorem X6_standsIn {p : Nat} (wf : WF hd fs sc ov T U) (hp : p < 6) (hN : 12 < N) (hr : RM hd fs sc ov T U w0 w1 h) : f_X6_standsIn N (nI p) h = some (nI (cnt (stF hd fs sc ov p) 0 U), h) := by
  have hT := wf.1
  have hU12 := wf.2.1
  obtain ⟨a1, h1, p1, rfl, rfl⟩ := loopA (F := f_X6_standsIn_L4 N (nI p)) (U := U) (Inv := fun j a h1 => a = nI (cnt (stF hd fs sc ov p) 0 j) ∧ h1 = h)
    (fun n a h1 hi => by
      obtain ⟨-, rfl⟩ := hi
      rw [f_X6_standsIn_L4.eq_2, hr.2.1, if_pos (nI_le (Nat.le_refl _) (by omega))])
    (fun n j a h1 hj hi => by
      obtain ⟨rfl, rfl⟩ := hi
      obtain ⟨wa, wb⟩ := wf.2.2.2.1 j hj
      have l1 := (wf.st wa).1
      have l2 := (wf.st wb).1
      have cj : (nI j).toNatClampNeg = j := nI_clamp (by omega)
      have hcj := nchk2 (j := j) (n := 12) (by omega) (by omega)
      have e1 : (nI (stN hd (fs j)) = nI p) = (stN hd (fs j) = p) := propext (nI_eq (by omega) (by omega))
      have e2 : (nI (stN hd (sc j)) = nI p) = (stN hd (sc j) = p) := propext (nI_eq (by omega) (by omega))
      rw [f_X6_standsIn_L4.eq_2, cnt_last, Nat.zero_add]
      simp only [hr.2.1, if_neg (nI_ge hj (show U < 2 ^ 31 by omega)), X6_isOver hr (show j < 12 by omega), qb, cj, if_neg hcj, hr.2.2.2.2.1 j (by omega), hr.2.2.2.2.2.1 j (by omega), X6_stands hr hT wa, X6_stands hr hT wb, e1, e2, nI_1]
      unfold stF
      cases hv : ov j with
      | true =>
        rw [if_neg bT, qb, k0, nI_add]
        exact ⟨_, _, rfl, by simp, rfl⟩
      | false =>
        rw [if_pos bF]
        by_cases q1 : stN hd (fs j) = p
        · rw [if_pos q1, qb, nI_1]
          exact ⟨_, _, rfl, by simp [q1], rfl⟩
        · rw [if_neg q1]
          by_cases q2 : stN hd (sc j) = p
          · rw [if_pos q2, qb, nI_1]
            exact ⟨_, _, rfl, by simp [q2], rfl⟩
          · rw [if_neg q2, qb, k0, nI_add]
            exact ⟨_, _, rfl, by simp [q1, q2], rfl⟩)
    U 0 N (nI 0) h (by omega) (by omega) ⟨rfl, rfl⟩
  unfold f_X6_standsIn
  rw [k0, p1, qb]
end Moves2
