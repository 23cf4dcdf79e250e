/-! ===== pure 5: the state of both, and arguments ===== -/
abbrev Ct : Type := (Nat → Nat) × (Nat → Nat) × (Nat → Nat) × (Nat → Bool) × Nat × Nat × Bool × Bool
abbrev Gt : Type := (Nat → Nat) × (Nat → Nat) × (Nat → Nat) × Int32
def RCt (o : Nat) (c : Ct) (h : qN) : Prop := RC o c.1 c.2.1 c.2.2.1 c.2.2.2.1 c.2.2.2.2.1 c.2.2.2.2.2.1 c.2.2.2.2.2.2.1 c.2.2.2.2.2.2.2 h
def RMt (c : Ct) (h : qN) : Prop := RM c.1 c.2.1 c.2.2.1 c.2.2.2.1 c.2.2.2.2.1 c.2.2.2.2.2.1 c.2.2.2.2.2.2.1 c.2.2.2.2.2.2.2 h
/-- settled: who is not over doesn't end, and has two sides -/
def SETT (hd fs sc : Nat → Nat) (ov : Nat → Bool) (U : Nat) (w1 : Bool) : Prop := ∀ s, s < U → ov s = false → endN hd fs sc w1 s = false ∧ fs s ≠ sc s
/-- equal sides are a person -/
def EQP (fs sc : Nat → Nat) (ov : Nat → Bool) (U : Nat) : Prop := ∀ s, s < U → ov s = false → fs s = sc s → ∃ p, p < 6 ∧ fs s = 10 + p
theorem SETT.eqp {hd fs sc : Nat → Nat} {ov : Nat → Bool} {U : Nat} {w1 : Bool} (h : SETT hd fs sc ov U w1) : EQP fs sc ov U := fun s hs ho he => absurd he (h s hs ho).2
theorem SETT.settle {hd fs sc : Nat → Nat} {ov : Nat → Bool} {U : Nat} (w1 : Bool) (q : EQP fs sc ov U) : SETT hd fs sc (setO hd fs sc w1 ov U) U w1 := by
  intro s hs h
  unfold setO at h
  simp only [hs, decide_true, Bool.true_and, Bool.or_eq_false_iff] at h
  refine ⟨h.2, fun he => ?_⟩
  obtain ⟨p, hp, e⟩ := q s hs h.1 he
  have e2 : sc s = 10 + p := by rw [← he]; exact e
  have h2 := h.2
  unfold endN at h2
  rw [e, e2] at h2
  have e3 : stN hd (10 + p) = p := by unfold stN; rw [if_neg (by omega)]; omega
  rw [e3, if_neg (by omega)] at h2
  simp at h2
theorem EQP.stay {hd fs sc : Nat → Nat} {ov : Nat → Bool} {U : Nat} (q : EQP fs sc ov U) (w0 : Bool) {t : Nat} (ht : t < 8) (h6 : hd t ≤ 6) : EQP (stayF w0 hd ov t U fs) (stayF w0 hd ov t U sc) ov U := by
  intro s hs ho he
  unfold stayF at he ⊢
  by_cases act : w0 = true ∧ hd t ≠ 6
  · rw [if_pos act] at he ⊢
    rw [if_pos act] at he
    simp only [mapJ, if_pos hs, stG, ho, Bool.false_eq_true, if_false, rep] at he ⊢
    have hp : hd t < 6 := by have := act.2; omega
    by_cases c1 : fs s = t
    · rw [if_pos c1]; exact ⟨hd t, hp, rfl⟩
    · rw [if_neg c1] at he ⊢
      by_cases c2 : sc s = t
      · rw [if_pos c2] at he; exact ⟨hd t, hp, he⟩
      · rw [if_neg c2] at he; exact q s hs ho he
  · rw [if_neg act] at he ⊢
    rw [if_neg act] at he
    exact q s hs ho he
def WCt (c : Ct) : Prop := WF c.1 c.2.1 c.2.2.1 c.2.2.2.1 c.2.2.2.2.1 c.2.2.2.2.2.1 ∧ SETT c.1 c.2.1 c.2.2.1 c.2.2.2.1 c.2.2.2.2.2.1 c.2.2.2.2.2.2.2
def WGt (g : Gt) : Prop := (∀ k, k < 6 → g.1 k ≤ 9999) ∧ (∀ k, k < 6 → g.2.1 k ≤ 99) ∧ (∀ k, k < 48 → g.2.2.1 k ≤ 99)
/-- a village of the class at w: money and worths; of the reference -/
def RG1 (w : Nat) (g : Gt) (h : qN) : Prop := (∀ k, k < 6 → h (w + 6) k = nI (g.1 k)) ∧ (∀ k, k < 6 → h (w + 7) k = nI (g.2.1 k)) ∧ (∀ k, k < 48 → h (w + 8) k = nI (g.2.2.1 k)) ∧ h w 4 = g.2.2.2
def RG6 (g : Gt) (h : qN) : Prop := (∀ k, k < 6 → h 61 k = nI (g.1 k)) ∧ (∀ k, k < 6 → h 62 k = nI (g.2.1 k)) ∧ (∀ k, k < 48 → h 65 k = nI (g.2.2.1 k)) ∧ h 60 10 = g.2.2.2
/-- the reference's image -/
def RI (c : Ct) (g : Gt) (h : qN) : Prop :=
  (∀ k, k < 6 → h 75 k = nI (g.1 k)) ∧ (∀ k, k < 6 → h 75 (6 + k) = nI (g.2.1 k)) ∧ h 75 12 = nI c.2.2.2.2.2.2.1.toNat ∧ h 75 13 = nI c.2.2.2.2.2.2.2.toNat ∧ (∀ k, k < 8 → h 75 (14 + k) = nI (c.1 k)) ∧ (∀ k, k < 48 → h 75 (22 + k) = nI (g.2.2.1 k)) ∧
  (∀ k, k < 12 → h 75 (70 + k) = nI (c.2.1 k)) ∧ (∀ k, k < 12 → h 75 (82 + k) = nI (c.2.2.1 k)) ∧ h 75 94 = nI c.2.2.2.2.1 ∧ h 75 95 = nI c.2.2.2.2.2.1 ∧ OVW (h 75 96) c.2.2.2.1 ∧ h 75 97 = g.2.2.2
def JV (h : qN) : Prop := ∃ (c : Ct) (g : Gt), WCt c ∧ WGt g ∧ RCt 2 c h ∧ RG1 1 g h ∧ RMt c h ∧ RG6 g h
def JI (h : qN) : Prop := ∃ b : Bool, h 0 2 = nI b.toNat ∧ h 60 24 = nI b.toNat ∧ (b = true → ∃ (c : Ct) (g : Gt), WCt c ∧ WGt g ∧ RCt 11 c h ∧ RG1 10 g h ∧ RI c g h)
def JT (h : qN) : Prop := ∃ (len : Nat) (tp : Nat → Nat), len ≤ 80 ∧ (∀ k, k < len → 32 ≤ tp k ∧ tp k ≤ 126) ∧ h 48 2 = nI len ∧ h 60 12 = nI len ∧ (∀ k, k < len → h 49 k = nI (tp k)) ∧ (∀ k, k < len → h 68 k = nI (tp k))
def JS (h : qN) : Prop := ∀ i, i < 4 → ∃ (b : Bool) (l n : Nat), l < 3 ∧ n ≤ 24 ∧ h (52 + 2 * i) 1 = nI b.toNat ∧ h (52 + 2 * i) 2 = nI l ∧ h (52 + 2 * i) 3 = nI n ∧ h 76 i = (if b = true then (-1 : Int32) else nI l) ∧ h 77 i = nI n ∧ ∀ k, k < 24 → h (52 + 2 * i + 1) k = h 78 (24 * i + k)
def J (h : qN) : Prop := JV h ∧ JI h ∧ JT h ∧ JS h
/-- what calls about the village may touch -/
def PV : Nat → Nat → Prop := fun a k => (1 ≤ a ∧ a < 10) ∨ (19 ≤ a ∧ a < 48) ∨ (a = 60 ∧ (k = 3 ∨ k = 6 ∨ k = 9 ∨ k = 10 ∨ k = 19 ∨ k = 22)) ∨ (61 ≤ a ∧ a < 68) ∨ (70 ≤ a ∧ a < 75)
theorem RG1.off {w : Nat} {g : Gt} {h h1 : qN} {P : Nat → Nat → Prop} (hr : RG1 w g h) (hh : Off P h h1) (hp : ∀ a k, (a = w ∨ (w + 6 ≤ a ∧ a < w + 9)) → ¬ P a k) : RG1 w g h1 := by
  obtain ⟨e1, e2, e3, e4⟩ := hr
  refine ⟨fun k hk => ?_, fun k hk => ?_, fun k hk => ?_, ?_⟩
  · rw [hh _ _ (hp _ _ (Or.inr (by omega)))]; exact e1 k hk
  · rw [hh _ _ (hp _ _ (Or.inr (by omega)))]; exact e2 k hk
  · rw [hh _ _ (hp _ _ (Or.inr (by omega)))]; exact e3 k hk
  · rw [hh _ _ (hp _ _ (Or.inl rfl))]; exact e4
theorem RG6.off {g : Gt} {h h1 : qN} {P : Nat → Nat → Prop} (hr : RG6 g h) (hh : Off P h h1) (hp : ∀ a k, ((a = 60 ∧ k = 10) ∨ a = 61 ∨ a = 62 ∨ a = 65) → ¬ P a k) : RG6 g h1 := by
  obtain ⟨e1, e2, e3, e4⟩ := hr
  refine ⟨fun k hk => ?_, fun k hk => ?_, fun k hk => ?_, ?_⟩
  · rw [hh _ _ (hp _ _ (by simp))]; exact e1 k hk
  · rw [hh _ _ (hp _ _ (by simp))]; exact e2 k hk
  · rw [hh _ _ (hp _ _ (by simp))]; exact e3 k hk
  · rw [hh _ _ (hp _ _ (by simp))]; exact e4
theorem RI.off {c : Ct} {g : Gt} {h h1 : qN} {P : Nat → Nat → Prop} (hr : RI c g h) (hh : Off P h h1) (hp : ∀ k, ¬ P 75 k) : RI c g h1 := by
  have e : ∀ k, h1 75 k = h 75 k := fun k => hh _ _ (hp k)
  unfold RI at hr ⊢
  simp only [e]
  exact hr
theorem JI.off {h h1 : qN} {P : Nat → Nat → Prop} (hr : JI h) (hh : Off P h h1) (hp : ∀ a k, ((a = 0 ∧ k = 2) ∨ (a = 60 ∧ k = 24) ∨ (10 ≤ a ∧ a < 19) ∨ a = 75) → ¬ P a k) : JI h1 := by
  obtain ⟨b, e1, e2, e3⟩ := hr
  refine ⟨b, by rw [hh _ _ (hp _ _ (by simp))]; exact e1, by rw [hh _ _ (hp _ _ (by simp))]; exact e2, fun hb => ?_⟩
  obtain ⟨c, g, a1, a2, a3, a4, a5⟩ := e3 hb
  exact ⟨c, g, a1, a2, RC.off a3 hh (fun a k x y => hp _ _ (by omega)), a4.off hh (fun a k x => hp _ _ (by omega)), a5.off hh (fun k => hp _ _ (by simp))⟩
theorem JT.off {h h1 : qN} {P : Nat → Nat → Prop} (hr : JT h) (hh : Off P h h1) (hp : ∀ a k, ((a = 48 ∧ k = 2) ∨ (a = 60 ∧ k = 12) ∨ a = 49 ∨ a = 68) → ¬ P a k) : JT h1 := by
  obtain ⟨len, tp, a1, a2, a3, a4, a5, a6⟩ := hr
  exact ⟨len, tp, a1, a2, by rw [hh _ _ (hp _ _ (by simp))]; exact a3, by rw [hh _ _ (hp _ _ (by simp))]; exact a4, fun k hk => by rw [hh _ _ (hp _ _ (by simp))]; exact a5 k hk, fun k hk => by rw [hh _ _ (hp _ _ (by simp))]; exact a6 k hk⟩
theorem JS.off {h h1 : qN} {P : Nat → Nat → Prop} (hr : JS h) (hh : Off P h h1) (hp : ∀ a k, ((52 ≤ a ∧ a < 60) ∨ (76 ≤ a ∧ a < 79)) → ¬ P a k) : JS h1 := by
  intro i hi
  obtain ⟨b, l, n, a1, a2, a3, a4, a5, a6, a7, a8⟩ := hr i hi
  refine ⟨b, l, n, a1, a2, ?_, ?_, ?_, ?_, ?_, fun k hk => ?_⟩
  · rw [hh _ _ (hp _ _ (by omega))]; exact a3
  · rw [hh _ _ (hp _ _ (by omega))]; exact a4
  · rw [hh _ _ (hp _ _ (by omega))]; exact a5
  · rw [hh _ _ (hp _ _ (by omega))]; exact a6
  · rw [hh _ _ (hp _ _ (by omega))]; exact a7
  · rw [hh _ _ (hp _ _ (by omega)), hh _ _ (hp _ _ (by omega))]; exact a8 k hk
theorem J.pv {h h1 : qN} (hj : J h) (hv : JV h1) (hh : Off PV h h1) : J h1 :=
  ⟨hv, hj.2.1.off hh (fun a k x y => by unfold PV at y; omega), hj.2.2.1.off hh (fun a k x y => by unfold PV at y; omega), hj.2.2.2.off hh (fun a k x y => by unfold PV at y; omega)⟩
theorem PC2_PV : ∀ a k, PC 2 a k → PV a k := fun a k x => by unfold PC at x; unfold PV; omega
theorem PC19_PV : ∀ a k, PC 19 a k → PV a k := fun a k x => by unfold PC at x; unfold PV; omega
theorem PM_PV : ∀ a k, PM a k → PV a k := fun a k x => by unfold PM at x; unfold PV; omega
/-! arguments -/
theorem i_lt {a b : Int32} : a < b ↔ a.toInt < b.toInt := Int32.lt_iff_toInt_lt
theorem i_le {a b : Int32} : a ≤ b ↔ a.toInt ≤ b.toInt := Int32.le_iff_toInt_le
theorem c01 {c : Prop} (i : Decidable c) (h : qN) : (if c then some ((1 : Int32), h) else some ((0 : Int32), h)) = some ((if c then (1 : Int32) else 0), h) := by by_cases c <;> simp [*]
theorem X5_isPerson (a : Int32) (h : qN) : f_X5_isPerson a h = some ((if 0 ≤ a.toInt ∧ a.toInt < 6 then (1 : Int32) else 0), h) := by
  unfold f_X5_isPerson
  simp only [i_lt, i_le, show (0 : Int32).toInt = 0 from rfl, show (6 : Int32).toInt = 6 from rfl]
  by_cases h1 : a.toInt < 0
  · rw [if_pos h1, if_neg (by omega)]
  · rw [if_neg h1]
    by_cases h2 : (6 : Int) ≤ a.toInt
    · rw [if_pos h2, if_neg (by omega)]
    · rw [if_neg h2, if_pos (by omega)]
theorem X5_isSheet (a : Int32) (h : qN) : f_X5_isSheet a h = some ((if 0 ≤ a.toInt ∧ a.toInt < 4 then (1 : Int32) else 0), h) := by
  unfold f_X5_isSheet
  simp only [i_lt, i_le, show (0 : Int32).toInt = 0 from rfl, show (4 : Int32).toInt = 4 from rfl]
  by_cases h1 : a.toInt < 0
  · rw [if_pos h1, if_neg (by omega)]
  · rw [if_neg h1]
    by_cases h2 : (4 : Int) ≤ a.toInt
    · rw [if_pos h2, if_neg (by omega)]
    · rw [if_neg h2, if_pos (by omega)]
theorem X5_isLane (a : Int32) (h : qN) : f_X5_isLane a h = some ((if 0 ≤ a.toInt ∧ a.toInt < 3 then (1 : Int32) else 0), h) := by
  unfold f_X5_isLane
  simp only [i_lt, i_le, show (0 : Int32).toInt = 0 from rfl, show (3 : Int32).toInt = 3 from rfl]
  by_cases h1 : a.toInt < 0
  · rw [if_pos h1, if_neg (by omega)]
  · rw [if_neg h1]
    by_cases h2 : (3 : Int) ≤ a.toInt
    · rw [if_pos h2, if_neg (by omega)]
    · rw [if_neg h2, if_pos (by omega)]
theorem X5_isWithin (a m : Int32) (h : qN) : f_X5_isWithin a m h = some ((if 0 ≤ a.toInt ∧ a.toInt ≤ m.toInt then (1 : Int32) else 0), h) := by
  unfold f_X5_isWithin
  simp only [i_lt, show (0 : Int32).toInt = 0 from rfl]
  by_cases h1 : a.toInt < 0
  · rw [if_pos h1, if_neg (by omega)]
  · rw [if_neg h1]
    by_cases h2 : m.toInt < a.toInt
    · rw [if_pos h2, if_neg (by omega)]
    · rw [if_neg h2, if_pos (by omega)]
theorem X5_isThing {h : qN} {T : Nat} (hT : h 2 4 = nI T) (hT8 : T ≤ 8) (a : Int32) : f_X5_isThing a h = some ((if 0 ≤ a.toInt ∧ a.toInt < T then (1 : Int32) else 0), h) := by
  unfold f_X5_isThing
  rw [hT]
  simp only [i_lt, i_le, show (0 : Int32).toInt = 0 from rfl, nI_toInt (show T < 2 ^ 31 by omega)]
  by_cases h1 : a.toInt < 0
  · rw [if_pos h1, if_neg (by omega)]
  · rw [if_neg h1]
    by_cases h2 : (T : Int) ≤ a.toInt
    · rw [if_pos h2, if_neg (by omega)]
    · rw [if_neg h2, if_pos (by omega)]
theorem X6_in (x y z : Int64) (h : qN) : f_X6_in x y z h = some ((if y.toInt ≤ x.toInt ∧ x.toInt ≤ z.toInt then (1 : Int32) else 0), h) := by
  unfold f_X6_in
  simp only [lg_cmp_lt, lg_cmp_gt, Int64.lt_iff_toInt_lt]
  by_cases h1 : x.toInt < y.toInt
  · rw [if_pos h1, if_neg (by omega)]
  · rw [if_neg h1]
    by_cases h2 : z.toInt < x.toInt
    · rw [if_pos h2, if_neg (by omega)]
    · rw [if_neg h2, if_pos (by omega)]
theorem a64 (a : Int32) : a.toInt64.toInt = a.toInt := Int32.toInt_toInt64 a
theorem z01 {c : Prop} {i : Decidable c} : (@ite Int32 c i 1 0) = 0 ∨ (@ite Int32 c i 1 0) = 1 := by
  by_cases hc : c
  · rw [if_pos hc]; exact Or.inr rfl
  · rw [if_neg hc]; exact Or.inl rfl
theorem z0 {c : Prop} {i : Decidable c} : ((@ite Int32 c i 1 0) = 0) ↔ ¬ c := by
  by_cases hc : c
  · rw [if_pos hc]; exact ⟨fun h => absurd h (by decide), fun h => absurd hc h⟩
  · rw [if_neg hc]; exact ⟨fun _ => hc, fun _ => rfl⟩
theorem X6_isPerson (a : Int32) (h : qN) : f_X6_isPerson a h = some ((if 0 ≤ a.toInt ∧ a.toInt < 6 then (1 : Int32) else 0), h) := by
  unfold f_X6_isPerson
  rw [X6_in, qb]
  dsimp only
  rw [if_pos z01, a64, show (0 : Int64).toInt = 0 from rfl, show (5 : Int64).toInt = 5 from rfl]
  congr 2
  by_cases c : 0 ≤ a.toInt ∧ a.toInt < 6
  · rw [if_pos c, if_pos (by omega)]
  · rw [if_neg c, if_neg (by omega)]
theorem X6_isSheet (a : Int32) (h : qN) : f_X6_isSheet a h = some ((if 0 ≤ a.toInt ∧ a.toInt < 4 then (1 : Int32) else 0), h) := by
  unfold f_X6_isSheet
  rw [X6_in, qb]
  dsimp only
  rw [if_pos z01, a64, show (0 : Int64).toInt = 0 from rfl, show (3 : Int64).toInt = 3 from rfl]
  congr 2
  by_cases c : 0 ≤ a.toInt ∧ a.toInt < 4
  · rw [if_pos c, if_pos (by omega)]
  · rw [if_neg c, if_neg (by omega)]
theorem X6_isLane (a : Int32) (h : qN) : f_X6_isLane a h = some ((if 0 ≤ a.toInt ∧ a.toInt < 3 then (1 : Int32) else 0), h) := by
  unfold f_X6_isLane
  rw [X6_in, qb]
  dsimp only
  rw [if_pos z01, a64, show (0 : Int64).toInt = 0 from rfl, show (2 : Int64).toInt = 2 from rfl]
  congr 2
  by_cases c : 0 ≤ a.toInt ∧ a.toInt < 3
  · rw [if_pos c, if_pos (by omega)]
  · rw [if_neg c, if_neg (by omega)]
theorem nIm1 {T : Nat} (hT : T ≤ 100) : (nI T - 1).toInt = (T : Int) - 1 := by
  cases T with
  | zero => rfl
  | succ t => rw [nI_pred, nI_toInt (by omega)]; omega
theorem X6_isThing {h : qN} {T : Nat} (hT : h 60 3 = nI T) (hT8 : T ≤ 8) (a : Int32) : f_X6_isThing a h = some ((if 0 ≤ a.toInt ∧ a.toInt < T then (1 : Int32) else 0), h) := by
  unfold f_X6_isThing
  rw [X6_in, qb]
  dsimp only
  rw [if_pos z01, a64, a64, hT, nIm1 (by omega), show (0 : Int64).toInt = 0 from rfl]
  congr 2
  by_cases c : 0 ≤ a.toInt ∧ a.toInt < T
  · rw [if_pos c, if_pos (by omega)]
  · rw [if_neg c, if_neg (by omega)]
/-- an argument in range is a number -/
theorem ofRange {a : Int32} {n : Int} (h : 0 ≤ a.toInt ∧ a.toInt < n) : ∃ p : Nat, (p : Int) < n ∧ a = nI p ∧ p < 2 ^ 31 := by
  refine ⟨a.toInt.toNat, by omega, ?_, ?_⟩
  · apply Int32.toInt_inj.mp
    have := Int32.toInt_lt a
    rw [nI_toInt (by omega)]
    omega
  · have := Int32.toInt_lt a
    omega
theorem ofRangeLe {a : Int32} {n : Int} (h : 0 ≤ a.toInt ∧ a.toInt ≤ n) : ∃ p : Nat, (p : Int) ≤ n ∧ a = nI p ∧ p < 2 ^ 31 := by
  obtain ⟨p, h1, h2, h3⟩ := ofRange (a := a) (n := n + 1) (by omega)
  exact ⟨p, by omega, h2, h3⟩
