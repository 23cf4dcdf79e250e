/-! ===== pure 12: a thing is parted ===== -/
def spG (ov : Nat → Bool) (m : Int32) (t y : Nat) (f : Nat → Nat) : Nat → Nat := fun s => if bt m s = true ∧ ov s = false then rep t y (f s) else f s
def spW (wo : Nat → Nat) (a T j : Nat) : Nat → Nat := fun k => if T * 6 ≤ k ∧ k < T * 6 + j then wo (k - T * 6 + a * 6) / 2 else if a * 6 ≤ k ∧ k < a * 6 + j then wo k - wo k / 2 else wo k
theorem spW_0 (wo : Nat → Nat) (a T : Nat) : spW wo a T 0 = wo := by
  funext k
  unfold spW
  rw [if_neg (by omega), if_neg (by omega)]
theorem spW_s (wo : Nat → Nat) {a T j : Nat} (h : a < T) (hj : j < 6) : (fun k => if k = a * 6 + j then wo (a * 6 + j) - wo (a * 6 + j) / 2 else (fun k => if k = T * 6 + j then wo (a * 6 + j) / 2 else spW wo a T j k) k) = spW wo a T (j + 1) := by
  funext k
  unfold spW
  by_cases e : k = a * 6 + j
  · subst e
    rw [if_pos rfl, if_neg (by omega), if_pos (by omega)]
  · rw [if_neg e]
    dsimp only
    by_cases e2 : k = T * 6 + j
    · subst e2
      rw [if_pos rfl, if_pos (by omega)]
      congr 2
      omega
    · rw [if_neg e2]
      by_cases c1 : T * 6 ≤ k ∧ k < T * 6 + j
      · rw [if_pos c1, if_pos (by omega)]
      · rw [if_neg c1, if_neg (show ¬ (T * 6 ≤ k ∧ k < T * 6 + (j + 1)) by omega)]
        by_cases c2 : a * 6 ≤ k ∧ k < a * 6 + j
        · rw [if_pos c2, if_pos (by omega)]
        · rw [if_neg c2, if_neg (by omega)]
theorem spW_at (wo : Nat → Nat) {a T j : Nat} (h : a < T) (hj : j < 6) : spW wo a T j (a * 6 + j) = wo (a * 6 + j) := by
  unfold spW
  rw [if_neg (by omega), if_neg (by omega)]
theorem half {x : Nat} (hx : x < 1000) : nI x / (2 : Int32) = nI (x / 2) := by rw [k2, pk_div (by omega) (by omega) (by omega)]
theorem X4_split_L {N w a T : Nat} {pu co wo : Nat → Nat} {so : Int32} {h : qN} (ha : a < T) (hT : T < 8) (hw : ∀ k, k < 48 → wo k ≤ 99) (hN : 12 < N) (rg : RG1 w (pu, co, wo, so) h) :
    ∃ h1, f_X4_split_L13 N w (nI a) (nI T) N (nI 0) h = some h1 ∧ RG1 w (pu, co, spW wo a T 6, so) h1 ∧ Off (fun a _ => a = w + 8) h h1 := by
  obtain ⟨h1, x, b, c⟩ := loopV (F := f_X4_split_L13 N w (nI a) (nI T)) (U := 6) (Inv := fun j h1 => RG1 w (pu, co, spW wo a T j, so) h1 ∧ Off (fun a _ => a = w + 8) h h1)
    (fun n h1 hi => by
      rw [f_X4_split_L13.eq_2, if_pos (by decide)])
    (fun n j h1 hj hi => by
      obtain ⟨hi, ho⟩ := hi
      have i1 : nI T * (6 : Int32) + nI j = nI (T * 6 + j) := by rw [k6, pk_mul, nI_add]
      have i2 : nI a * (6 : Int32) + nI j = nI (a * 6 + j) := by rw [k6, pk_mul, nI_add]
      have hc1 := nchk2 (j := T * 6 + j) (n := 48) (by omega) (by omega)
      have hc2 := nchk2 (j := a * 6 + j) (n := 48) (by omega) (by omega)
      have e1 : h1 (w + 8) (a * 6 + j) = nI (wo (a * 6 + j)) := by
        have := hi.2.2.1 (a * 6 + j) (by omega)
        rw [this]; dsimp only; rw [spW_at wo ha hj]
      have w99 := hw (a * 6 + j) (by omega)
      rw [f_X4_split_L13.eq_2, k6, if_neg (nI_ge hj (by omega)), ← k6]
      simp only [i1, i2, nI_clamp (show T * 6 + j < 2 ^ 31 by omega), nI_clamp (show a * 6 + j < 2 ^ 31 by omega), if_neg hc1, if_neg hc2, nI_1, e1, half (show wo (a * 6 + j) < 1000 by omega), pk_sub (show wo (a * 6 + j) / 2 ≤ wo (a * 6 + j) by omega)]
      refine ⟨_, rfl, ?_, Off.up (Off.up ho rfl) rfl⟩
      have := RG1_wo (j := a * 6 + j) (x := wo (a * 6 + j) - wo (a * 6 + j) / 2) (RG1_wo (j := T * 6 + j) (x := wo (a * 6 + j) / 2) hi)
      rw [spW_s wo ha hj] at this
      exact this)
    6 0 N h (by omega) (by omega) ⟨by rw [spW_0]; exact rg, Off.rf⟩
  exact ⟨h1, x, b, c⟩
theorem X6_part_L57 {N a T : Nat} {m : Int32} {pu co wo : Nat → Nat} {so : Int32} {h : qN} (ha : a < T) (hT : T < 8) (hw : ∀ k, k < 48 → wo k ≤ 99) (hN : 12 < N) (h3 : h 60 3 = nI T) (rg : RG6 (pu, co, wo, so) h) :
    ∃ h1, f_X6_part_L57 N (nI a) m N (nI 0) h = some h1 ∧ RG6 (pu, co, spW wo a T 6, so) h1 ∧ Off (fun a _ => a = 65) h h1 := by
  obtain ⟨h1, x, b, c⟩ := loopV (F := f_X6_part_L57 N (nI a) m) (U := 6) (Inv := fun j h1 => RG6 (pu, co, spW wo a T j, so) h1 ∧ Off (fun a _ => a = 65) h h1)
    (fun n h1 hi => by
      rw [f_X6_part_L57.eq_2, if_pos (by decide)])
    (fun n j h1 hj hi => by
      obtain ⟨hi, ho⟩ := hi
      have i1 : (6 : Int32) * nI T + nI j = nI (T * 6 + j) := by rw [k6, pk_mul, nI_add, Nat.mul_comm]
      have i2 : (6 : Int32) * nI a + nI j = nI (a * 6 + j) := by rw [k6, pk_mul, nI_add, Nat.mul_comm]
      have hc1 := nchk2 (j := T * 6 + j) (n := 48) (by omega) (by omega)
      have hc2 := nchk2 (j := a * 6 + j) (n := 48) (by omega) (by omega)
      have e1 : h1 65 (a * 6 + j) = nI (wo (a * 6 + j)) := by
        have := hi.2.2.1 (a * 6 + j) (by omega)
        rw [this]; dsimp only; rw [spW_at wo ha hj]
      have h3' : h1 60 3 = nI T := by rw [ho 60 3 (by omega)]; exact h3
      have w99 := hw (a * 6 + j) (by omega)
      rw [f_X6_part_L57.eq_2, h3', k6, if_neg (nI_ge hj (by omega)), ← k6]
      simp only [i1, i2, nI_clamp (show T * 6 + j < 2 ^ 31 by omega), nI_clamp (show a * 6 + j < 2 ^ 31 by omega), if_neg hc1, if_neg hc2, nI_1, e1, half (show wo (a * 6 + j) < 1000 by omega), pk_sub (show wo (a * 6 + j) / 2 ≤ wo (a * 6 + j) by omega)]
      refine ⟨_, rfl, ?_, Off.up (Off.up ho rfl) rfl⟩
      have := RG6_wo (j := a * 6 + j) (x := wo (a * 6 + j) - wo (a * 6 + j) / 2) (RG6_wo (j := T * 6 + j) (x := wo (a * 6 + j) / 2) hi)
      rw [spW_s wo ha hj] at this
      exact this)
    6 0 N h (by omega) (by omega) ⟨by rw [spW_0]; exact rg, Off.rf⟩
  exact ⟨h1, x, b, c⟩
section Part
variable {N : Nat} {hd fs sc : Nat → Nat} {ov : Nat → Bool} {T U : Nat} {w0 w1 : Bool} {h : qN}
theorem X0_split_L {m : Int32} {t y : Nat} (hU12 : U ≤ 12) (hfs : ∀ s, s < U → fs s < 1000 ∧ sc s < 1000) (ht : t < 8) (hN : 12 < N) (hr : RC 2 hd fs sc ov T U w0 w1 h) :
    ∃ h1, f_X0_split_L14 N 2 (nI t) m (nI y) N (nI 0) h = some h1 ∧ RC 2 hd (mapJ fs (spG ov m t y fs) U) (mapJ sc (spG ov m t y sc) U) ov T U w0 w1 h1 ∧ Off (PC 2) h h1 := by
  obtain ⟨h1, a, b, c⟩ := loopV (F := f_X0_split_L14 N 2 (nI t) m (nI y)) (U := U) (Inv := fun j h1 => RC 2 hd (mapJ fs (spG ov m t y fs) j) (mapJ sc (spG ov m t y sc) j) ov T U w0 w1 h1 ∧ Off (PC 2) h h1)
    (fun n h1 hi => by
      rw [f_X0_split_L14.eq_2, hi.1.2.1, if_pos (nI_le (Nat.le_refl _) (by omega))])
    (fun n j h1 hj hi => by
      obtain ⟨hi, hoff⟩ := hi
      obtain ⟨ha, hb⟩ := hfs j hj
      rw [f_X0_split_L14.eq_2, hi.2.1, if_neg (nI_ge hj (by omega))]
      have same : (bt m j = true ∧ ov j = false → False) → RC 2 hd (mapJ fs (spG ov m t y fs) (j + 1)) (mapJ sc (spG ov m t y sc) (j + 1)) ov T U w0 w1 h1 := by
        intro z
        rw [← mapJ_s, ← mapJ_s, upd_same _ _ (by rw [mapJ_at]; unfold spG; rw [if_neg z]), upd_same _ _ (by rw [mapJ_at]; unfold spG; rw [if_neg z])]
        exact hi
      by_cases hb1 : bt m j = true
      · rw [if_pos ((b_test j (by omega) m).mpr hb1), X0_isOver hi (by omega), qb]
        dsimp only
        cases hv : ov j with
        | true =>
          rw [if_neg bT, qb, nI_1]
          exact ⟨h1, rfl, same (by simp [hv]), hoff⟩
        | false =>
          rw [if_pos bF]
          obtain ⟨h2, p1, p2, p3⟩ := X0_changeSides (s := j) (t := t) (y := y) hi (by omega) (by rw [mapJ_at]; omega) (by rw [mapJ_at]; omega) (by omega)
          rw [p1, qb, qb, nI_1]
          refine ⟨h2, rfl, ?_, Off.tr hoff p3⟩
          rw [mapJ_at, mapJ_at] at p2
          have g1 : spG ov m t y fs j = rep t y (fs j) := by unfold spG; rw [if_pos ⟨hb1, hv⟩]
          have g2 : spG ov m t y sc j = rep t y (sc j) := by unfold spG; rw [if_pos ⟨hb1, hv⟩]
          rw [← mapJ_s, ← mapJ_s, g1, g2]
          exact p2
      · rw [if_neg (fun z => hb1 ((b_test j (by omega) m).mp z)), qb, nI_1]
        exact ⟨h1, rfl, same (fun z => hb1 z.1), hoff⟩)
    U 0 N h (by omega) (by omega) ⟨by rw [mapJ_0, mapJ_0]; exact hr, Off.rf⟩
  exact ⟨h1, a, b, c⟩
theorem X6_part_L120 {m : Int32} {t : Nat} (hU12 : U ≤ 12) (hfs : ∀ s, s < U → fs s < 1000 ∧ sc s < 1000) (ht : t < 8) (hN : 12 < N) (hr : RM hd fs sc ov T U w0 w1 h) :
    ∃ h1, f_X6_part_L120 N (nI t) m N (nI 0) h = some h1 ∧ RM hd (mapJ fs (spG ov m t T fs) U) (mapJ sc (spG ov m t T sc) U) ov T U w0 w1 h1 ∧ Off PM h h1 := by
  obtain ⟨h1, a, b, c⟩ := loopV (F := f_X6_part_L120 N (nI t) m) (U := U) (Inv := fun j h1 => RM hd (mapJ fs (spG ov m t T fs) j) (mapJ sc (spG ov m t T sc) j) ov T U w0 w1 h1 ∧ Off PM h h1)
    (fun n h1 hi => by
      rw [f_X6_part_L120.eq_2, hi.1.2.1, if_pos (nI_le (Nat.le_refl _) (by omega))])
    (fun n j h1 hj hi => by
      obtain ⟨hi, hoff⟩ := hi
      obtain ⟨ha, hb⟩ := hfs j hj
      have cj : (nI j).toNatClampNeg = j := nI_clamp (by omega)
      have hcj := nchk2 (j := j) (n := 12) (by omega) (by omega)
      have e1 : h1 66 j = nI (fs j) := by have := hi.2.2.2.2.1 j (by omega); rwa [mapJ_at] at this
      have e2 : h1 67 j = nI (sc j) := by have := hi.2.2.2.2.2.1 j (by omega); rwa [mapJ_at] at this
      have e3 : h1 60 3 = nI T := hi.1
      have n1 : (nI (fs j) = nI t) = (fs j = t) := propext (nI_eq (by omega) (by omega))
      have n2 : (nI (sc j) = nI t) = (sc j = t) := propext (nI_eq (by omega) (by omega))
      have q1 : ∀ v, (qup h1 66 j v) 67 j = h1 67 j := fun v => rfl
      have q2 : ∀ v, (qup h1 66 j v) 60 3 = h1 60 3 := fun v => rfl
      have flag : (if ((m >>> ((nI j) &&& 31)) &&& (1 : Int32)) = (1 : Int32) then qbind (f_X6_isOver (nI j) h1) fun (x1778, h1777) => if x1778 = 0 then some ((1 : Int32), h1777) else some ((0 : Int32), h1777) else some ((0 : Int32), h1)) = some (if bt m j = true ∧ ov j = false then 1 else 0, h1) := by
        rw [X6_isOver hi (show j < 12 by omega), qb]
        by_cases hb1 : bt m j = true
        · rw [if_pos ((b_test j (by omega) m).mpr hb1)]
          cases hv : ov j with
          | true =>
            rw [if_neg (fun z => absurd z.2 (by simp))]
            show (if nI true.toNat = 0 then some ((1 : Int32), h1) else some ((0 : Int32), h1)) = _
            rw [if_neg bT]
          | false =>
            rw [if_pos ⟨hb1, rfl⟩]
            show (if nI false.toNat = 0 then some ((1 : Int32), h1) else some ((0 : Int32), h1)) = _
            rw [if_pos bF]
        · rw [if_neg (fun z => hb1 ((b_test j (by omega) m).mp z)), if_neg (fun z => hb1 z.1)]
      rw [f_X6_part_L120.eq_2, hi.2.1, if_neg (nI_ge hj (by omega)), flag, qb]
      have fin : ∀ x y, x = spG ov m t T fs j → y = spG ov m t T sc j → RM hd (mapJ fs (spG ov m t T fs) (j + 1)) (mapJ sc (spG ov m t T sc) (j + 1)) ov T U w0 w1 (qup (qup h1 66 j (nI x)) 67 j (nI y)) ∧ Off PM h (qup (qup h1 66 j (nI x)) 67 j (nI y)) := by
        intro x y hx hy
        refine ⟨?_, Off.up (Off.up hoff (by unfold PM; omega)) (by unfold PM; omega)⟩
        rw [← mapJ_s, ← mapJ_s, ← hx, ← hy]
        exact RM_sc (j := j) (x := y) (RM_fs (j := j) (x := x) hi)
      by_cases act : bt m j = true ∧ ov j = false
      · simp only [if_pos act, one0, if_false, cj, if_neg hcj, e1, n1, e3]
        by_cases z1 : fs j = t
        · simp only [if_pos z1, qb, q1, q2, e2, e3, n2]
          by_cases z2 : sc j = t
          · simp only [if_pos z2, qb, nI_1]
            exact ⟨_, rfl, fin T T (by unfold spG rep; rw [if_pos act, if_pos z1]) (by unfold spG rep; rw [if_pos act, if_pos z2])⟩
          · simp only [if_neg z2, qb, nI_1]
            exact ⟨_, rfl, fin T (sc j) (by unfold spG rep; rw [if_pos act, if_pos z1]) (by unfold spG rep; rw [if_pos act, if_neg z2])⟩
        · simp only [if_neg z1, qb, q1, q2, e2, e3, n2]
          by_cases z2 : sc j = t
          · simp only [if_pos z2, qb, nI_1]
            exact ⟨_, rfl, fin (fs j) T (by unfold spG rep; rw [if_pos act, if_neg z1]) (by unfold spG rep; rw [if_pos act, if_pos z2])⟩
          · simp only [if_neg z2, qb, nI_1]
            exact ⟨_, rfl, fin (fs j) (sc j) (by unfold spG rep; rw [if_pos act, if_neg z1]) (by unfold spG rep; rw [if_pos act, if_neg z2])⟩
      · simp only [if_neg act, zero0, if_true, cj, if_neg hcj, e1, qb, q1, e2, nI_1]
        exact ⟨_, rfl, fin (fs j) (sc j) (by unfold spG; rw [if_neg act]) (by unfold spG; rw [if_neg act])⟩)
    U 0 N h (by omega) (by omega) ⟨by rw [mapJ_0, mapJ_0]; exact hr, Off.rf⟩
  exact ⟨h1, a, b, c⟩
theorem WF.split {m : Int32} (wf : WF hd fs sc ov T U) {t : Nat} (ht : t < T) (hT : T < 8) : WF (fun k => if k = T then hd t else hd k) (mapJ fs (spG ov m t T fs) U) (mapJ sc (spG ov m t T sc) U) ov (T + 1) U := by
  refine ⟨by omega, wf.2.1, fun k hk => ?_, fun s hs => ?_, wf.2.2.2.2⟩
  · dsimp only
    split
    · exact wf.2.2.1 t ht
    · exact wf.2.2.1 k (by omega)
  · obtain ⟨a, b⟩ := wf.2.2.2.1 s hs
    have hy : okS (T + 1) T := Or.inl (by omega)
    unfold mapJ spG
    simp only [if_pos hs]
    split
    · exact ⟨okS_rep a.mono hy, okS_rep b.mono hy⟩
    · exact ⟨a.mono, b.mono⟩
theorem EQP.split {m : Int32} (wf : WF hd fs sc ov T U) (q : EQP fs sc ov U) {t : Nat} (ht : t < 8) (hT : T < 8) : EQP (mapJ fs (spG ov m t T fs) U) (mapJ sc (spG ov m t T sc) U) ov U := by
  intro s hs ho he
  obtain ⟨a, b⟩ := wf.2.2.2.1 s hs
  have na : fs s ≠ T := by rcases a with a | a <;> omega
  have nb : sc s ≠ T := by rcases b with b | b <;> omega
  simp only [mapJ, if_pos hs, spG, ho, and_true] at he ⊢
  by_cases c : bt m s = true
  · rw [if_pos c] at he ⊢
    rw [if_pos c] at he
    unfold rep at he ⊢
    by_cases c1 : fs s = t
    · rw [if_pos c1] at he
      by_cases c2 : sc s = t
      · obtain ⟨p, hp, e⟩ := q s hs ho (by rw [c1, c2])
        omega
      · rw [if_neg c2] at he; exact absurd he.symm nb
    · rw [if_neg c1] at he ⊢
      by_cases c2 : sc s = t
      · rw [if_pos c2] at he; exact absurd he na
      · rw [if_neg c2] at he; exact q s hs ho he
  · rw [if_neg c] at he ⊢
    rw [if_neg c] at he
    exact q s hs ho he
end Part
theorem shl1 {U : Nat} (hU : U ≤ 12) : (1 : Int32) <<< (nI U &&& 31) = nI (2 ^ U) := by
  have : ∀ U, U ≤ 12 → (1 : Int32) <<< (nI U &&& 31) = nI (2 ^ U) := by decide +kernel
  exact this U hU
theorem pow_le {U : Nat} (hU : U ≤ 12) : 1 ≤ 2 ^ U ∧ 2 ^ U ≤ 4096 := by
  have : ∀ U, U ≤ 12 → 1 ≤ 2 ^ U ∧ 2 ^ U ≤ 4096 := by decide +kernel
  exact this U hU
theorem call_part {N : Nat} (hN : 12 < N) (a b : Int32) {h : qN} (hj : J h) : OKC (f_X5_part N a b) (f_X6_part N a b) h := by
  obtain ⟨⟨hd, fs, sc, ov, T, U, w0, w1⟩, ⟨pu, co, wo, so⟩, wc, wg, rc, rg, rm, r6⟩ := hj.1
  have wf : WF hd fs sc ov T U := wc.1
  have hT : T ≤ 8 := wf.1
  have hU : U ≤ 12 := wf.2.1
  have t5 := X5_isThing (h := h) (T := T) rc.1 hT a
  have t6 := X6_isThing (h := h) (T := T) rm.1 hT
  have e4 : h 2 4 = nI T := rc.1
  have e5 : h 2 5 = nI U := rc.2.1
  have e6 : h 60 6 = nI U := rm.2.1
  have e3 : h 60 3 = nI T := rm.1
  have hpw := pow_le hU
  have pI : ∀ x : Int32, (x < nI (2 ^ U)) = (x.toInt < (2 ^ U : Nat)) := fun x => by rw [i_lt, nI_toInt (by omega)]
  have p1 : (nI (2 ^ U) - (1 : Int32)).toInt = ((2 ^ U : Nat) : Int) - 1 := by
    rw [show (1 : Int32) = nI 1 from rfl, pk_sub (by omega), nI_toInt (by omega)]; omega
  by_cases c : 0 ≤ a.toInt ∧ a.toInt < T
  · obtain ⟨t, ht, rfl, ht2⟩ := ofRange c
    have ht3 : t < T := by omega
    by_cases cb : 0 ≤ b.toInt ∧ b.toInt < (2 ^ U : Nat)
    · have nb : ¬ b < 0 := by rw [i_lt]; have : (0 : Int32).toInt = 0 := rfl; omega
      have cb' : 0 ≤ b.toInt ∧ b.toInt ≤ ((2 ^ U : Nat) : Int) - 1 := by omega
      by_cases t8 : T = 8
      · subst t8
        refine ⟨-3, h, h, ?_, ?_, hj⟩
        · unfold f_X5_part
          simp only [t5, X5_isPerson, X6_isPerson, X5_isWithin, X6_in, a64, qb, one0, zero0, if_true, if_false, L0, L1, L2, L4, L5, L6, L9, L10, L15, L16, L60, L99, L999, I0, I1, I6, I9, I16, I60, I99, I999, if_pos c, if_neg nb, e5, shl1 hU, pI, if_pos cb.2, e4]
          rw [if_neg (by decide)]
        · unfold f_X6_part
          simp only [t6, X5_isPerson, X6_isPerson, X5_isWithin, X6_in, a64, qb, one0, zero0, if_true, if_false, L0, L1, L2, L4, L5, L6, L9, L10, L15, L16, L60, L99, L999, I0, I1, I6, I9, I16, I60, I99, I999, if_pos c, e6, shl1 hU, p1, if_pos cb', e3]
          rw [if_pos (by decide)]
      · have hT8 : T < 8 := by omega
        have ct : (nI t).toNatClampNeg = t := nI_clamp ht2
        have cT : (nI T).toNatClampNeg = T := nI_clamp (by omega)
        have hct := nchk2 (j := t) (n := 8) (by omega) (by omega)
        have hcT := nchk2 (j := T) (n := 8) hT8 (by omega)
        have e2 : h 4 t = nI (hd t) := rc.2.2.2.1 t (by omega)
        have hfs : ∀ s, s < U → fs s < 1000 ∧ sc s < 1000 := fun s hs => by
          obtain ⟨x, y⟩ := wf.2.2.2.1 s hs
          have h1 := (wf.st x).2
          have h2 := (wf.st y).2
          omega
        have rc1 := RC_T (T' := T + 1) (RC_hd (j := T) (x := hd t) rc)
        have og : Off (PC 2) h (qup (qup h (2 + 2) T (nI (hd t))) 2 4 (nI (T + 1))) := Off.up (off_up (by unfold PC; omega)) (by unfold PC; omega)
        obtain ⟨h1, a1, b1, c1⟩ := X0_split_L (m := b) (t := t) (y := T) hU hfs (by omega) hN rc1
        obtain ⟨h2, a2, b2, c2⟩ := X0_settle (wf.split (m := b) ht3 hT8) hN b1
        have oc : Off (PC 2) h h2 := (og.tr c1).tr c2
        obtain ⟨h3, a3, b3, c3⟩ := X4_split_L (w := 1) ht3 hT8 wg.2.2 hN (rg.pc rfl oc)
        have o5 : Off P5 h h3 := Off.tr (oc.weaken PC2_5) (c3.weaken (by intro a k x; unfold P5; omega))
        have rm5 := RM.p5 rm o5
        have r65 := r6.p5 o5
        have e64 : h3 64 t = nI (hd t) := rm5.2.2.2.1 t (by omega)
        have e63 : h3 60 3 = nI T := rm5.1
        have e66 : h3 60 6 = nI U := rm5.2.1
        have og6 : Off (fun a _ => a = 64) h3 (qup h3 64 T (nI (hd t))) := off_up rfl
        obtain ⟨h4, a4, b4, c4⟩ := X6_part_L57 (m := b) ht3 hT8 wg.2.2 hN (h := qup h3 64 T (nI (hd t))) e63 (r65.off og6 (by omega))
        have rm4 := RM.off (RM_hd (j := T) (x := hd t) rm5) c4 (by intro a k x; unfold PM at x; omega)
        obtain ⟨h5, a5, b5, c5⟩ := X6_part_L120 (m := b) (t := t) hU hfs (by omega) hN rm4
        obtain ⟨h6, a6, b6, c6⟩ := X6_ends (wf.split (m := b) ht3 hT8) hN (RM_T (T' := T + 1) b5)
        have oc6 : Off P6 h3 h6 := Off.tr (Off.up (Off.tr (Off.tr (og6.weaken (by intro a k x; unfold P6; omega)) (c4.weaken (by intro a k x; unfold P6; omega))) (c5.weaken PM_6)) (by unfold P6; omega)) (c6.weaken PM_6)
        have e53 : h5 60 3 = nI T := b5.1
        have e63' : h6 60 3 = nI (T + 1) := b6.1
        refine ⟨nI T, h3, h6, ?_, ?_, hj.bld (c := ((fun k => if k = T then hd t else hd k), mapJ fs (spG ov b t T fs) U, mapJ sc (spG ov b t T sc) U, setO (fun k => if k = T then hd t else hd k) (mapJ fs (spG ov b t T fs) U) (mapJ sc (spG ov b t T sc) U) w1 ov U, T + 1, U, w0, w1)) ⟨(wf.split ht3 hT8).settle w1, SETT.settle _ (EQP.split wf wc.2.eqp (show t < 8 by omega) hT8)⟩ (g := (pu, co, spW wo t T 6, so)) ⟨wg.1, wg.2.1, fun k hk => ?_⟩ (RC.off b2 c3 (by omega)) b3 b6 (RG6.pm (RG6.off (RG6.pm b4 c5) (P := fun a k => a = 60 ∧ k = 3) (off_up (v := nI (T + 1)) (a := 60) (k := 3) (by simp)) (by omega)) c6) o5 oc6⟩
        · unfold f_X5_part f_X4_split f_X0_split f_X0_addThing
          have hl : (nI T < (8 : Int32)) := by rw [k8]; exact nI_lt hT8 (by omega)
          simp only [t5, X5_isPerson, X6_isPerson, X5_isWithin, X6_in, a64, qb, one0, zero0, if_true, if_false, L0, L1, L2, L4, L5, L6, L9, L10, L15, L16, L60, L99, L999, I0, I1, I6, I9, I16, I60, I99, I999, if_pos c, if_neg nb, e5, shl1 hU, pI, if_pos cb.2, e4, if_pos hl, ct, if_neg hct, cT, if_neg hcT, e2]
          rw [show (qup h (1 + 1 + 2) T (nI (hd t)) (1 + 1) 4) = nI T from e4, nI_1, k0, a1]
          simp only [qb]
          rw [a2]
          simp only [qb]
          rw [a3]
          rfl
        · unfold f_X6_part
          have t6' := X6_isThing (h := h3) (T := T) e63 hT (nI t)
          have hl : (nI T = (8 : Int32)) = False := eq_false (by rw [k8, nI_eq (by omega) (by omega)]; omega)
          simp only [t6', X5_isPerson, X6_isPerson, X5_isWithin, X6_in, a64, qb, one0, zero0, if_true, if_false, L0, L1, L2, L4, L5, L6, L9, L10, L15, L16, L60, L99, L999, I0, I1, I6, I9, I16, I60, I99, I999, if_pos c, e66, shl1 hU, p1, if_pos cb', e63, hl, ct, if_neg hct, cT, if_neg hcT, e64]
          rw [k0, a4]
          simp only [qb]
          rw [a5]
          simp only [qb]
          rw [e53, nI_1, a6]
          simp only [qb]
          rw [e63', nI_pred]
        · have hh := wg.2.2
          dsimp only at hh ⊢
          unfold spW
          split
          · have := hh (k - T * 6 + t * 6) (by omega)
            omega
          · have := hh k hk
            split <;> omega
    · refine ⟨-1, h, h, ?_, ?_, hj⟩
      · unfold f_X5_part
        simp only [t5, X5_isPerson, X6_isPerson, X5_isWithin, X6_in, a64, qb, one0, zero0, if_true, if_false, L0, L1, L2, L4, L5, L6, L9, L10, L15, L16, L60, L99, L999, I0, I1, I6, I9, I16, I60, I99, I999, if_pos c, e5, shl1 hU, pI]
        by_cases s : b < 0
        · rw [if_pos s]
        · rw [if_neg s, if_neg]
          rw [i_lt] at s
          have : (0 : Int32).toInt = 0 := rfl
          omega
      · unfold f_X6_part
        have cb' : ¬ (0 ≤ b.toInt ∧ b.toInt ≤ ((2 ^ U : Nat) : Int) - 1) := by omega
        simp only [t6, X5_isPerson, X6_isPerson, X5_isWithin, X6_in, a64, qb, one0, zero0, if_true, if_false, L0, L1, L2, L4, L5, L6, L9, L10, L15, L16, L60, L99, L999, I0, I1, I6, I9, I16, I60, I99, I999, if_pos c, e6, shl1 hU, p1, if_neg cb']
  · refine ⟨-1, h, h, ?_, ?_, hj⟩
    · unfold f_X5_part
      simp only [t5, X5_isPerson, X6_isPerson, X5_isWithin, X6_in, a64, qb, one0, zero0, if_true, if_false, L0, L1, L2, L4, L5, L6, L9, L10, L15, L16, L60, L99, L999, I0, I1, I6, I9, I16, I60, I99, I999, if_neg c]
    · unfold f_X6_part
      simp only [t6, X5_isPerson, X6_isPerson, X5_isWithin, X6_in, a64, qb, one0, zero0, if_true, if_false, L0, L1, L2, L4, L5, L6, L9, L10, L15, L16, L60, L99, L999, I0, I1, I6, I9, I16, I60, I99, I999, if_neg c]
