/-! ===== pure 3: what moves in a court ===== -/
theorem loopV {F : Nat → Int32 → qN → Option qN} {U : Nat} {Inv : Nat → qN → Prop} (hx : ∀ n h, Inv U h → F (n + 1) (nI U) h = some h)
    (hs : ∀ n j h, j < U → Inv j h → ∃ h', F (n + 1) (nI j) h = F n (nI (j + 1)) h' ∧ Inv (j + 1) h') : ∀ (k j n : Nat) (h : qN), U = j + k → k < n → Inv j h → ∃ h1, F n (nI j) h = some h1 ∧ Inv U h1 := by
  intro k
  induction k with
  | zero =>
    intro j n h hU hn hi
    obtain ⟨n, rfl⟩ : ∃ m, n = m + 1 := ⟨n - 1, by omega⟩
    rw [show j = U by omega] at hi ⊢
    exact ⟨h, hx n h hi, hi⟩
  | succ k ih =>
    intro j n h hU hn hi
    obtain ⟨n, rfl⟩ : ∃ m, n = m + 1 := ⟨n - 1, by omega⟩
    obtain ⟨h', e, hi'⟩ := hs n j h (by omega) hi
    rw [e]
    exact ih (j + 1) n h' (by omega) (by omega) hi'
theorem loopA {F : Nat → Int32 → Int32 → qN → Option (Int32 × qN)} {U : Nat} {Inv : Nat → Int32 → qN → Prop} (hx : ∀ n a h, Inv U a h → F (n + 1) a (nI U) h = some (a, h))
    (hs : ∀ n j a h, j < U → Inv j a h → ∃ a' h', F (n + 1) a (nI j) h = F n a' (nI (j + 1)) h' ∧ Inv (j + 1) a' h') : ∀ (k j n : Nat) (a : Int32) (h : qN), U = j + k → k < n → Inv j a h → ∃ a1 h1, F n a (nI j) h = some (a1, h1) ∧ Inv U a1 h1 := by
  intro k
  induction k with
  | zero =>
    intro j n a h hU hn hi
    obtain ⟨n, rfl⟩ : ∃ m, n = m + 1 := ⟨n - 1, by omega⟩
    rw [show j = U by omega] at hi ⊢
    exact ⟨a, h, hx n a h hi, hi⟩
  | succ k ih =>
    intro j n a h hU hn hi
    obtain ⟨n, rfl⟩ : ∃ m, n = m + 1 := ⟨n - 1, by omega⟩
    obtain ⟨a', h', e, hi'⟩ := hs n j a h (by omega) hi
    rw [e]
    exact ih (j + 1) n a' h' (by omega) (by omega) hi'
/-- the first j replaced -/
def mapJ (f g : Nat → Nat) (j : Nat) : Nat → Nat := fun s => if s < j then g s else f s
theorem mapJ_0 (f g : Nat → Nat) : mapJ f g 0 = f := by funext s; simp [mapJ]
theorem mapJ_at (f g : Nat → Nat) (j : Nat) : mapJ f g j j = f j := by simp [mapJ]
theorem mapJ_s (f g : Nat → Nat) (j : Nat) : (fun k => if k = j then g j else mapJ f g j k) = mapJ f g (j + 1) := by
  funext k
  unfold mapJ
  by_cases h1 : k = j
  · subst h1; simp
  · by_cases h2 : k < j
    · have : k < j + 1 := by omega
      simp [h1, h2, this]
    · have : ¬ k < j + 1 := by omega
      simp [h1, h2, this]
theorem upd_same (f : Nat → Nat) (j : Nat) {v : Nat} (h : f j = v) : (fun k => if k = j then v else f k) = f := by
  funext k
  by_cases e : k = j
  · subst e; simp [h]
  · simp [e]
def rep (t y x : Nat) : Nat := if x = t then y else x
section Moves
variable {o N : Nat} {hd fs sc : Nat → Nat} {ov : Nat → Bool} {T U : Nat} {w0 w1 : Bool} {h : qN}
theorem X0_changeSides (hr : RC o hd fs sc ov T U w0 w1 h) {s t y : Nat} (hs : s < 12) (h1 : fs s < 1000) (h2 : sc s < 1000) (ht : t < 1000) :
    ∃ h1, f_X0_changeSides o (nI s) (nI t) (nI y) h = some h1 ∧ RC o hd (fun k => if k = s then rep t y (fs s) else fs k) (fun k => if k = s then rep t y (sc s) else sc k) ov T U w0 w1 h1 ∧ Off (PC o) h h1 := by
  unfold f_X0_changeSides
  have hc := nchk (j := s) (n := 12) hs (by omega)
  have e1 : (nI (fs s) = nI t) = (fs s = t) := propext (nI_eq (by omega) (by omega))
  have e2 : (nI (sc s) = nI t) = (sc s = t) := propext (nI_eq (by omega) (by omega))
  have hcl : (nI s).toNatClampNeg = s := nI_clamp (by omega)
  rw [hcl] at hc
  simp only [hcl, if_neg hc, hr.2.2.2.2.1 s hs]
  have step : ∃ h', (if nI (fs s) = nI t then some (qup h (o + 3) s (nI y)) else some h) = some h' ∧ RC o hd (fun k => if k = s then rep t y (fs s) else fs k) sc ov T U w0 w1 h' ∧ Off (PC o) h h' := by
    by_cases hh : fs s = t
    · rw [if_pos (by rw [hh])]
      refine ⟨_, rfl, ?_, Off.up Off.rf ⟨by omega, by omega⟩⟩
      have := RC_fs (j := s) (x := y) hr
      unfold rep
      rw [if_pos hh]
      exact this
    · rw [if_neg (by rw [e1]; exact hh)]
      refine ⟨h, rfl, ?_, Off.rf⟩
      rw [upd_same fs s (by unfold rep; rw [if_neg hh])]
      exact hr
  obtain ⟨h', ea, eb, ec⟩ := step
  simp only [ea, qb, eb.2.2.2.2.2.1 s hs]
  by_cases hh : sc s = t
  · rw [if_pos (by rw [hh])]
    refine ⟨_, rfl, ?_, Off.up ec ⟨by omega, by omega⟩⟩
    have := RC_sc (j := s) (x := y) eb
    unfold rep at this ⊢
    rw [if_pos hh]
    exact this
  · rw [if_neg (by rw [e2]; exact hh)]
    refine ⟨h', rfl, ?_, ec⟩
    rw [upd_same sc s (by unfold rep; rw [if_neg hh])]
    exact eb
/-- sides that stay with the seller -/
def stG (ov : Nat → Bool) (t y : Nat) (f : Nat → Nat) : Nat → Nat := fun s => if ov s = true then f s else rep t y (f s)
def stayF (w0 : Bool) (hd : Nat → Nat) (ov : Nat → Bool) (t U : Nat) (f : Nat → Nat) : Nat → Nat := if w0 = true ∧ hd t ≠ 6 then mapJ f (stG ov t (10 + hd t) f) U else f
theorem X0_leaveSides_L {t y : Nat} (wf : WF hd fs sc ov T U) (ht : t < 8) (hy : y ≤ 6) (hN : 12 < N) (hr : RC o hd fs sc ov T U w0 w1 h) :
    ∃ h1, f_X0_leaveSides_L25 N o (nI t) (nI y) N (nI 0) h = some h1 ∧ RC o hd (mapJ fs (stG ov t (10 + y) fs) U) (mapJ sc (stG ov t (10 + y) sc) U) ov T U w0 w1 h1 ∧ Off (PC o) h h1 := by
  have hU12 := wf.2.1
  obtain ⟨h1, a, b, c⟩ := loopV (F := f_X0_leaveSides_L25 N o (nI t) (nI y)) (U := U) (Inv := fun j h1 => RC o hd (mapJ fs (stG ov t (10 + y) fs) j) (mapJ sc (stG ov t (10 + y) sc) j) ov T U w0 w1 h1 ∧ Off (PC o) h h1)
    (fun n h1 hi => by
      unfold f_X0_leaveSides_L25
      rw [hi.1.2.1, if_pos (nI_le (Nat.le_refl _) (by omega))])
    (fun n j h1 hj hi => by
      obtain ⟨hi, hoff⟩ := hi
      obtain ⟨wa, wb⟩ := wf.2.2.2.1 j hj
      have ha := (wf.st wa).2
      have hb := (wf.st wb).2
      rw [f_X0_leaveSides_L25.eq_2, hi.2.1, if_neg (nI_ge hj (by omega)), X0_isOver hi (by omega), qb]
      dsimp only
      cases hv : ov j with
      | true =>
        rw [if_neg bT, qb, nI_1]
        refine ⟨h1, rfl, ?_, hoff⟩
        rw [← mapJ_s, ← mapJ_s, upd_same _ _ (by rw [mapJ_at]; simp [stG, hv]), upd_same _ _ (by rw [mapJ_at]; simp [stG, hv])]
        exact hi
      | false =>
        rw [if_pos bF, show (10 : Int32) + nI y = nI (10 + y) from nI_add 10 y]
        obtain ⟨h2, p1, p2, p3⟩ := X0_changeSides (s := j) (t := t) (y := 10 + y) hi (by omega) (by rw [mapJ_at]; omega) (by rw [mapJ_at]; omega) (by omega)
        rw [p1, qb, qb, nI_1]
        refine ⟨h2, rfl, ?_, Off.tr hoff p3⟩
        rw [mapJ_at, mapJ_at] at p2
        have g1 : stG ov t (10 + y) fs j = rep t (10 + y) (fs j) := by simp [stG, hv]
        have g2 : stG ov t (10 + y) sc j = rep t (10 + y) (sc j) := by simp [stG, hv]
        rw [← mapJ_s, ← mapJ_s, g1, g2]
        exact p2)
    U 0 N h (by omega) (by omega) ⟨by rw [mapJ_0, mapJ_0]; exact hr, Off.rf⟩
  exact ⟨h1, a, b, c⟩
theorem X0_leaveSides {t : Nat} (wf : WF hd fs sc ov T U) (ht : t < T) (hN : 12 < N) (hr : RC o hd fs sc ov T U w0 w1 h) :
    ∃ h1, f_X0_leaveSides N o (nI t) h = some h1 ∧ RC o hd (stayF w0 hd ov t U fs) (stayF w0 hd ov t U sc) ov T U w0 w1 h1 ∧ Off (PC o) h h1 := by
  have hT := wf.1
  have hh6 := wf.2.2.1 t ht
  unfold f_X0_leaveSides
  rw [if_neg (nchk (by omega) (by omega)), hr.2.2.2.2.2.2.1, nI_clamp (by omega), hr.2.2.2.1 t (by omega)]
  unfold stayF
  cases w0 with
  | false =>
    rw [if_pos bF, if_neg (by simp), if_neg (by simp)]
    exact ⟨h, rfl, hr, Off.rf⟩
  | true =>
    rw [if_neg bT]
    by_cases e6 : hd t = 6
    · rw [if_pos (by rw [e6]; rfl), if_neg (by simp [e6]), if_neg (by simp [e6])]
      exact ⟨h, rfl, hr, Off.rf⟩
    · rw [if_neg (by rw [k6, nI_eq (by omega) (by omega)]; exact e6), if_pos ⟨rfl, e6⟩, if_pos ⟨rfl, e6⟩]
      obtain ⟨h1, a, b, c⟩ := X0_leaveSides_L (t := t) (y := hd t) wf (by omega) (by omega) hN hr
      rw [show (0 : Int32) = nI 0 from rfl, a, qb]
      exact ⟨h1, rfl, b, c⟩
theorem X6_stay {t : Nat} (wf : WF hd fs sc ov T U) (ht : t < T) (hN : 12 < N) (hr : RM hd fs sc ov T U w0 w1 h) :
    ∃ h1, f_X6_stay N (nI t) h = some h1 ∧ RM hd (stayF w0 hd ov t U fs) (stayF w0 hd ov t U sc) ov T U w0 w1 h1 ∧ Off PM h h1 := by
  have hT := wf.1
  have hU12 := wf.2.1
  have hh6 := wf.2.2.1 t ht
  have hct := nchk (j := t) (n := 8) (by omega) (by omega)
  by_cases act : w0 = true ∧ hd t ≠ 6
  · obtain ⟨h1, a, b, c⟩ := loopV (F := f_X6_stay_L2 N (nI t)) (U := U) (Inv := fun j h1 => RM hd (mapJ fs (stG ov t (10 + hd t) fs) j) (mapJ sc (stG ov t (10 + hd t) sc) j) ov T U w0 w1 h1 ∧ Off PM h h1)
      (fun n h1 hi => by
        unfold f_X6_stay_L2
        rw [hi.1.2.1, if_pos (nI_le (Nat.le_refl _) (by omega))])
      (fun n j h1 hj hi => by
        obtain ⟨hi, hoff⟩ := hi
        obtain ⟨wa, wb⟩ := wf.2.2.2.1 j hj
        have ha := (wf.st wa).2
        have hb := (wf.st wb).2
        have hcj := nchk (j := j) (n := 12) (by omega) (by omega)
        have q1 : mapJ fs (stG ov t (10 + hd t) fs) j j = fs j := mapJ_at _ _ _
        have q2 : mapJ sc (stG ov t (10 + hd t) sc) j j = sc j := mapJ_at _ _ _
        have e1 : (nI (fs j) = nI t) = (fs j = t) := propext (nI_eq (by omega) (by omega))
        have e2 : (nI (sc j) = nI t) = (sc j = t) := propext (nI_eq (by omega) (by omega))
        have g1 : stG ov t (10 + hd t) fs j = if ov j = true then fs j else rep t (10 + hd t) (fs j) := rfl
        have g2 : stG ov t (10 + hd t) sc j = if ov j = true then sc j else rep t (10 + hd t) (sc j) := rfl
        have cj : (nI j).toNatClampNeg = j := nI_clamp (by omega)
        have ct : (nI t).toNatClampNeg = t := nI_clamp (by omega)
        rw [cj] at hcj
        have hct2 := hct
        rw [ct] at hct2
        have n6 : ¬ nI (hd t) = (6 : Int32) := by rw [k6, nI_eq (by omega) (by omega)]; exact act.2
        have v1 : (if nI (ov j).toNat = 0 then (if nI (fs j) = nI t then some (nI (10 + hd t)) else some (nI (fs j))) else some (nI (fs j))) = some (nI (stG ov t (10 + hd t) fs j)) := by
          rw [g1]
          cases ov j
          · rw [if_pos bF]
            simp only [e1, rep, Bool.false_eq_true, if_false]
            by_cases e : fs j = t <;> simp [e]
          · rw [if_neg bT]; simp
        have v2 : (if nI (ov j).toNat = 0 then (if nI (sc j) = nI t then some (nI (10 + hd t)) else some (nI (sc j))) else some (nI (sc j))) = some (nI (stG ov t (10 + hd t) sc j)) := by
          rw [g2]
          cases ov j
          · rw [if_pos bF]
            simp only [e2, rep, Bool.false_eq_true, if_false]
            by_cases e : sc j = t <;> simp [e]
          · rw [if_neg bT]; simp
        have hi2 := RM_fs (j := j) (x := stG ov t (10 + hd t) fs j) hi
        rw [mapJ_s] at hi2
        have hw0 : h1 63 0 = (1 : Int32) := by rw [hi.2.2.2.2.2.2.1, act.1]; rfl
        rw [f_X6_stay_L2.eq_2]
        simp only [hi.2.1, if_neg (nI_ge hj (show U < 2 ^ 31 by omega)), hw0, cj, ct, if_neg hct2, if_neg hcj, hi.2.2.2.1 t (by omega), if_neg n6, X6_isOver hi (show j < 12 by omega), qb, hi.2.2.2.2.1 j (by omega), q1, show (10 : Int32) + nI (hd t) = nI (10 + hd t) from nI_add 10 _, v1, if_true, X6_isOver hi2 (show j < 12 by omega), hi2.2.2.2.2.2.1 j (by omega), hi2.2.2.2.1 t (by omega), q2]
        simp only [v2, qb, nI_1]
        have hi3 := RM_sc (j := j) (x := stG ov t (10 + hd t) sc j) hi2
        rw [mapJ_s] at hi3
        exact ⟨_, rfl, hi3, Off.up (Off.up hoff (by simp [PM])) (by simp [PM])⟩)
      U 0 N h (by omega) (by omega) ⟨by rw [mapJ_0, mapJ_0]; exact hr, Off.rf⟩
    refine ⟨h1, ?_, ?_, c⟩
    · unfold f_X6_stay
      rw [k0, a, qb]
    · unfold stayF
      rw [if_pos act, if_pos act]
      exact b
  · obtain ⟨N, rfl⟩ : ∃ m, N = m + 1 := ⟨N - 1, by omega⟩
    refine ⟨h, ?_, ?_, Off.rf⟩
    · unfold f_X6_stay f_X6_stay_L2
      rw [hr.2.1]
      by_cases hU0 : nI U ≤ 0
      · rw [if_pos hU0, qb]
      · rw [if_neg hU0, hr.2.2.2.2.2.2.1]
        cases w0 with
        | false => rw [if_neg (by decide), qb]
        | true =>
          have e6 : hd t = 6 := by
            by_cases e : hd t = 6
            · exact e
            · exact absurd ⟨rfl, e⟩ act
          rw [if_pos (by decide), if_neg hct, nI_clamp (by omega), hr.2.2.2.1 t (by omega), e6, if_pos (show nI 6 = (6 : Int32) from rfl), qb]
    · unfold stayF
      rw [if_neg act, if_neg act]
      exact hr
end Moves
