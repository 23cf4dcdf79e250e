/-! ===== pure 17: never, what hangs together ===== -/
def nvI (fs sc : Nat → Nat) (ov : Nat → Bool) : Nat → Int32
  | 0 => 0
  | j + 1 => if ov j = false ∧ 10 ≤ fs j ∧ 10 ≤ sc j then nvI fs sc ov j ||| ((1 : Int32) <<< (nI j &&& 31)) else nvI fs sc ov j
theorem nvI_bt {fs sc : Nat → Nat} {ov : Nat → Bool} : ∀ j, j ≤ 12 → ∀ i, i < 32 → bt (nvI fs sc ov j) i = decide (i < j ∧ ov i = false ∧ 10 ≤ fs i ∧ 10 ≤ sc i) := by
  intro j
  induction j with
  | zero => intro _ i hi; simp [nvI, b_0]
  | succ j ih =>
    intro hj i hi
    have := ih (by omega) i hi
    simp only [nvI]
    by_cases c : ov j = false ∧ 10 ≤ fs j ∧ 10 ≤ sc j
    · rw [if_pos c, b_or, this, b_one j (by omega) hi]
      by_cases e : i = j
      · subst e; simp [c]
      · simp only [e, decide_false, Bool.or_false]
        congr 1
        apply propext
        constructor
        · rintro ⟨a, b⟩; exact ⟨by omega, b⟩
        · rintro ⟨a, b⟩; exact ⟨by omega, b⟩
    · rw [if_neg c, this]
      congr 1
      apply propext
      constructor
      · rintro ⟨a, b⟩; exact ⟨by omega, b⟩
      · rintro ⟨a, b⟩
        by_cases e : i = j
        · subst e; exact absurd b c
        · exact ⟨by omega, b⟩
def nvC (c : Ct) : Int32 := nvI c.2.1 c.2.2.1 c.2.2.2.1 c.2.2.2.2.2.1
theorem X0_neverC {N o : Nat} {c : Ct} {h : qN} (wc : WCt c) (hN : 12 < N) (hr : RCt o c h) : f_X0_neverEnding N o h = some (nvC c, h) := by
  obtain ⟨hd, fs, sc, ov, T, U, w0, w1⟩ := c
  have wf : WF hd fs sc ov T U := wc.1
  have hr : RC o hd fs sc ov T U w0 w1 h := hr
  have hU12 := wf.2.1
  obtain ⟨a1, h1, p1, rfl, rfl⟩ := loopA (F := f_X0_neverEnding_L4 N o) (U := U) (Inv := fun j a h1 => a = nvI fs sc ov j ∧ h1 = h)
    (fun n a h1 hi => by
      obtain ⟨-, rfl⟩ := hi
      rw [f_X0_neverEnding_L4.eq_2, hr.2.1, if_pos (nI_le (Nat.le_refl _) (by omega))])
    (fun n j a h1 hj hi => by
      obtain ⟨rfl, rfl⟩ := hi
      obtain ⟨wa, wb⟩ := wf.2.2.2.1 j hj
      have l1 := (wf.st wa).2
      have l2 := (wf.st wb).2
      have cj : (nI j).toNatClampNeg = j := nI_clamp (by omega)
      have hcj := nchk2 (j := j) (n := 12) (by omega) (by omega)
      have e1 : (nI (fs j) < (10 : Int32)) = (fs j < 10) := propext (nI_ltI (b := 10) (by omega) (by omega))
      have e2 : (nI (sc j) < (10 : Int32)) = (sc j < 10) := propext (nI_ltI (b := 10) (by omega) (by omega))
      rw [f_X0_neverEnding_L4.eq_2]
      simp only [hr.2.1, if_neg (nI_ge hj (show U < 2 ^ 31 by omega)), X0_isOver hr (show j < 12 by omega), qb, cj, if_neg hcj, hr.2.2.2.2.1 j (by omega), hr.2.2.2.2.2.1 j (by omega), e1, e2, nI_1]
      simp only [nvI]
      cases hv : ov j with
      | true =>
        rw [if_neg bT, qb]
        exact ⟨_, _, rfl, by simp, rfl⟩
      | false =>
        rw [if_pos bF]
        by_cases q1 : fs j < 10
        · rw [if_pos q1, qb, if_neg (by omega)]
          exact ⟨_, _, rfl, rfl, rfl⟩
        · rw [if_neg q1]
          by_cases q2 : sc j < 10
          · rw [if_pos q2, qb, if_neg (by omega)]
            exact ⟨_, _, rfl, rfl, rfl⟩
          · rw [if_neg q2, qb, if_pos ⟨rfl, by omega, by omega⟩]
            exact ⟨_, _, rfl, rfl, rfl⟩)
    U 0 N 0 h (by omega) (by omega) ⟨rfl, rfl⟩
  unfold f_X0_neverEnding
  rw [show f_X0_neverEnding_L4 N o N 0 0 h1 = _ from p1, qb]
  rfl
theorem X6_neverC {N : Nat} {c : Ct} {h : qN} (wc : WCt c) (hN : 12 < N) (hr : RMt c h) : f_X6_neverOf N h = some (nvC c, h) := by
  obtain ⟨hd, fs, sc, ov, T, U, w0, w1⟩ := c
  have wf : WF hd fs sc ov T U := wc.1
  have hr : RM hd fs sc ov T U w0 w1 h := hr
  have hU12 := wf.2.1
  obtain ⟨a1, h1, p1, rfl, rfl⟩ := loopA (F := f_X6_neverOf_L4 N) (U := U) (Inv := fun j a h1 => a = nvI fs sc ov j ∧ h1 = h)
    (fun n a h1 hi => by
      obtain ⟨-, rfl⟩ := hi
      rw [f_X6_neverOf_L4.eq_2, hr.2.1, if_pos (nI_le (Nat.le_refl _) (by omega))])
    (fun n j a h1 hj hi => by
      obtain ⟨rfl, rfl⟩ := hi
      obtain ⟨wa, wb⟩ := wf.2.2.2.1 j hj
      have l1 := (wf.st wa).2
      have l2 := (wf.st wb).2
      have cj : (nI j).toNatClampNeg = j := nI_clamp (by omega)
      have hcj := nchk2 (j := j) (n := 12) (by omega) (by omega)
      have e1 : (nI (fs j) ≤ (9 : Int32)) = (fs j < 10) := propext (by rw [k9, nI_leI (by omega) (by omega)]; omega)
      have e2 : (nI (sc j) ≤ (9 : Int32)) = (sc j < 10) := propext (by rw [k9, nI_leI (by omega) (by omega)]; omega)
      have oz : ∀ x : Int32, x ||| 0 = x := fun x => b_ext fun i hi => by rw [b_or, b_0]; simp
      rw [f_X6_neverOf_L4.eq_2]
      simp only [hr.2.1, if_neg (nI_ge hj (show U < 2 ^ 31 by omega)), X6_isOver hr (show j < 12 by omega), qb, cj, if_neg hcj, hr.2.2.2.2.1 j (by omega), hr.2.2.2.2.2.1 j (by omega), e1, e2, nI_1]
      simp only [nvI]
      cases hv : ov j with
      | true =>
        rw [if_neg bT, qb, oz]
        exact ⟨_, _, rfl, by simp, rfl⟩
      | false =>
        rw [if_pos bF]
        by_cases q1 : fs j < 10
        · rw [if_pos q1, qb, if_neg (by omega), oz]
          exact ⟨_, _, rfl, rfl, rfl⟩
        · rw [if_neg q1]
          by_cases q2 : sc j < 10
          · rw [if_pos q2, qb, if_neg (by omega), oz]
            exact ⟨_, _, rfl, rfl, rfl⟩
          · rw [if_neg q2, qb, if_pos ⟨rfl, by omega, by omega⟩]
            exact ⟨_, _, rfl, rfl, rfl⟩)
    U 0 N 0 h (by omega) (by omega) ⟨rfl, rfl⟩
  unfold f_X6_neverOf
  rw [show f_X6_neverOf_L4 N N 0 0 h1 = _ from p1, qb]
  rfl
theorem call_never {N : Nat} (hN : 12 < N) {h : qN} (hj : J h) : OKC (f_X5_never N) (f_X6_never N) h := by
  obtain ⟨c, g, wc, wg, rc, rg, rm, r6⟩ := hj.1
  refine ⟨nvC c, h, h, ?_, ?_, hj⟩
  · unfold f_X5_never
    rw [X0_neverC wc hN rc, qb]
  · unfold f_X6_never
    rw [X6_neverC wc hN rm, qb]
/-! groups -/
def sdI (fs sc : Nat → Nat) (s : Nat) : Int32 := ((1 : Int32) <<< (nI (fs s) &&& 31)) ||| ((1 : Int32) <<< (nI (sc s) &&& 31))
def wpI (fs sc : Nat → Nat) (ov : Nat → Bool) : Nat → Int32 → Int32
  | 0, x => x
  | j + 1, x => if ov j = true then wpI fs sc ov j x else if wpI fs sc ov j x &&& sdI fs sc j = 0 then wpI fs sc ov j x else wpI fs sc ov j x ||| sdI fs sc j
def itW (fs sc : Nat → Nat) (ov : Nat → Bool) (U : Nat) : Nat → Int32 → Int32
  | 0, x => x
  | k + 1, x => if wpI fs sc ov U x = x then x else itW fs sc ov U k (wpI fs sc ov U x)
def muW (fs sc : Nat → Nat) (ov : Nat → Bool) (U : Nat) (x : Int32) : Nat := cnt (fun s => !ov s && decide (x ||| sdI fs sc s ≠ x)) 0 U
def sub (x y : Int32) : Prop := ∀ i, i < 32 → bt x i = true → bt y i = true
theorem sub.rf {x : Int32} : sub x x := fun _ _ h => h
theorem sub.tr {x y z : Int32} (a : sub x y) (b : sub y z) : sub x z := fun i hi h => b i hi (a i hi h)
theorem sub.anti {x y : Int32} (a : sub x y) (b : sub y x) : x = y := b_ext fun i hi => by
  cases h : bt x i with
  | true => exact (a i hi h).symm
  | false =>
    cases h2 : bt y i with
    | false => rfl
    | true => rw [b i hi h2] at h; exact absurd h (by simp)
theorem sub.orl {x y : Int32} : sub x (x ||| y) := fun i hi h => by rw [b_or, h]; rfl
theorem or_eq {x y : Int32} : x ||| y = x ↔ sub y x := by
  constructor
  · intro h i hi hy
    rw [← h, b_or, hy]; simp
  · intro h
    apply b_ext
    intro i hi
    rw [b_or]
    cases hx : bt x i with
    | true => rfl
    | false =>
      cases hy : bt y i with
      | false => rfl
      | true => rw [h i hi hy] at hx; exact absurd hx (by simp)
theorem sdI_bt {fs sc : Nat → Nat} {s : Nat} (h1 : fs s < 16) (h2 : sc s < 16) {i : Nat} (hi : i < 32) : bt (sdI fs sc s) i = (decide (i = fs s) || decide (i = sc s)) := by
  unfold sdI
  rw [b_or, b_one _ (by omega) hi, b_one _ (by omega) hi]
theorem and_sd {fs sc : Nat → Nat} {s : Nat} (h1 : fs s < 16) (h2 : sc s < 16) (x : Int32) : x &&& sdI fs sc s = 0 ↔ bt x (fs s) = false ∧ bt x (sc s) = false := by
  constructor
  · intro h
    have e : ∀ i, i < 32 → (bt x i && (decide (i = fs s) || decide (i = sc s))) = false := by
      intro i hi
      rw [← sdI_bt h1 h2 hi, ← b_and, h, b_0]
    have a := e (fs s) (by omega)
    have b := e (sc s) (by omega)
    simp at a b
    exact ⟨a, b⟩
  · rintro ⟨a, b⟩
    apply b_ext
    intro i hi
    rw [b_and, sdI_bt h1 h2 hi, b_0]
    by_cases e1 : i = fs s
    · subst e1; rw [a]; rfl
    · by_cases e2 : i = sc s
      · subst e2; rw [b]; rfl
      · simp [e1, e2]
theorem sub_sd {fs sc : Nat → Nat} {s : Nat} (h1 : fs s < 16) (h2 : sc s < 16) (x : Int32) : sub (sdI fs sc s) x ↔ bt x (fs s) = true ∧ bt x (sc s) = true := by
  constructor
  · intro h
    exact ⟨h _ (by omega) (by rw [sdI_bt h1 h2 (by omega)]; simp), h _ (by omega) (by rw [sdI_bt h1 h2 (by omega)]; simp)⟩
  · rintro ⟨a, b⟩ i hi h
    rw [sdI_bt h1 h2 hi] at h
    simp only [Bool.or_eq_true, decide_eq_true_eq] at h
    rcases h with rfl | rfl
    · exact a
    · exact b
theorem wpI_mono {fs sc : Nat → Nat} {ov : Nat → Bool} (x : Int32) : ∀ j k, sub (wpI fs sc ov j x) (wpI fs sc ov (j + k) x) := by
  intro j k
  induction k with
  | zero => exact sub.rf
  | succ k ih =>
    refine sub.tr ih ?_
    show sub _ (wpI fs sc ov (j + k + 1) x)
    simp only [wpI]
    split
    · exact sub.rf
    · split
      · exact sub.rf
      · exact sub.orl
theorem wpI_fix {fs sc : Nat → Nat} {ov : Nat → Bool} {U : Nat} {x : Int32} (h : wpI fs sc ov U x = x) {j : Nat} (hj : j ≤ U) : wpI fs sc ov j x = x := by
  refine sub.anti ?_ ?_
  · have := wpI_mono (fs := fs) (sc := sc) (ov := ov) x j (U - j)
    rw [show j + (U - j) = U by omega, h] at this
    exact this
  · have := wpI_mono (fs := fs) (sc := sc) (ov := ov) x 0 j
    rw [Nat.zero_add] at this
    exact this
def clo (fs sc : Nat → Nat) (ov : Nat → Bool) (U : Nat) (C : Nat → Bool) : Prop := ∀ s, s < U → ov s = false → C (fs s) = C (sc s)
theorem cnt_lt {f g : Nat → Bool} (hfg : ∀ s, f s = true → g s = true) : ∀ (k j s : Nat), j ≤ s → s < j + k → f s = false → g s = true → cnt f j k < cnt g j k := by
  intro k
  induction k with
  | zero => intro j s a b; omega
  | succ k ih =>
    intro j s a b hf hg
    simp only [cnt]
    by_cases e : s = j
    · subst e
      have := cnt_mono hfg k (s + 1)
      rw [hf, hg]
      simp only [Bool.toNat_false, Bool.toNat_true]
      omega
    · have := ih (j + 1) s (by omega) (by omega) hf hg
      have h1 : (f j).toNat ≤ (g j).toNat := by
        cases hf : f j with
        | false => simp
        | true => rw [hfg j hf]; exact Nat.le_refl _
      omega
section Groups
variable {fs sc : Nat → Nat} {ov : Nat → Bool} {U : Nat}
theorem fix_clo (hb : ∀ s, s < U → fs s < 16 ∧ sc s < 16) {x : Int32} (h : wpI fs sc ov U x = x) : clo fs sc ov U (bt x) := by
  intro s hs ho
  obtain ⟨h1, h2⟩ := hb s hs
  have e1 := wpI_fix h (show s ≤ U by omega)
  have e2 := wpI_fix h (show s + 1 ≤ U by omega)
  simp only [wpI, ho, Bool.false_eq_true, if_false, e1] at e2
  by_cases c : x &&& sdI fs sc s = 0
  · obtain ⟨a, b⟩ := (and_sd h1 h2 x).mp c
    rw [a, b]
  · rw [if_neg c] at e2
    obtain ⟨a, b⟩ := (sub_sd h1 h2 x).mp (or_eq.mp e2)
    rw [a, b]
theorem wpI_in (hb : ∀ s, s < U → fs s < 16 ∧ sc s < 16) {C : Nat → Bool} (hC : clo fs sc ov U C) {x : Int32} (hx : ∀ i, i < 32 → bt x i = true → C i = true) : ∀ j, j ≤ U → ∀ i, i < 32 → bt (wpI fs sc ov j x) i = true → C i = true := by
  intro j
  induction j with
  | zero => intro _; exact hx
  | succ j ih =>
    intro hj i hi h
    obtain ⟨h1, h2⟩ := hb j (by omega)
    have ih := ih (by omega)
    simp only [wpI] at h
    cases ho : ov j with
    | true => rw [ho] at h; simp only [if_true] at h; exact ih i hi h
    | false =>
      rw [ho] at h
      simp only [Bool.false_eq_true, if_false] at h
      by_cases c : wpI fs sc ov j x &&& sdI fs sc j = 0
      · rw [if_pos c] at h; exact ih i hi h
      · rw [if_neg c, b_or, sdI_bt h1 h2 hi] at h
        have cc : C (fs j) = true := by
          have hc := hC j (by omega) ho
          cases q1 : bt (wpI fs sc ov j x) (fs j) with
          | true => exact ih _ (by omega) q1
          | false =>
            cases q2 : bt (wpI fs sc ov j x) (sc j) with
            | true => rw [hc]; exact ih _ (by omega) q2
            | false => exact absurd ((and_sd h1 h2 _).mpr ⟨q1, q2⟩) c
        have cs : C (sc j) = true := by rw [← hC j (by omega) ho]; exact cc
        simp only [Bool.or_eq_true, decide_eq_true_eq] at h
        rcases h with h | rfl | rfl
        · exact ih i hi h
        · exact cc
        · exact cs
theorem muW_lt (hb : ∀ s, s < U → fs s < 16 ∧ sc s < 16) {x : Int32} (h : wpI fs sc ov U x ≠ x) : muW fs sc ov U (wpI fs sc ov U x) < muW fs sc ov U x := by
  have m : sub x (wpI fs sc ov U x) := by
    have := wpI_mono (fs := fs) (sc := sc) (ov := ov) x 0 U
    rw [Nat.zero_add] at this
    exact this
  have key : ∀ j, j ≤ U → wpI fs sc ov j x ≠ x → ∃ s, s < j ∧ ov s = false ∧ x ||| sdI fs sc s ≠ x ∧ sub (sdI fs sc s) (wpI fs sc ov j x) := by
    intro j
    induction j with
    | zero => intro _ z; exact absurd rfl z
    | succ j ih =>
      intro hj z
      by_cases e : wpI fs sc ov j x = x
      · simp only [wpI, e] at z
        cases ho : ov j with
        | true => rw [ho] at z; simp at z
        | false =>
          rw [ho] at z
          simp only [Bool.false_eq_true, if_false] at z
          by_cases c : x &&& sdI fs sc j = 0
          · rw [if_pos c] at z; exact absurd rfl z
          · rw [if_neg c] at z
            refine ⟨j, by omega, ho, z, ?_⟩
            simp only [wpI, ho, Bool.false_eq_true, if_false, e, if_neg c]
            intro i hi hh
            rw [b_or, hh]; simp
      · obtain ⟨s, a, b, c, d⟩ := ih (by omega) e
        exact ⟨s, by omega, b, c, d.tr (wpI_mono x j 1)⟩
  obtain ⟨s, a, b, c, d⟩ := key U (Nat.le_refl _) h
  unfold muW
  refine cnt_lt (fun s hs => ?_) U 0 s (by omega) (by omega) ?_ ?_
  · simp only [Bool.and_eq_true, Bool.not_eq_true', decide_eq_true_eq] at hs ⊢
    refine ⟨hs.1, fun z => hs.2 (or_eq.mpr ((or_eq.mp z).tr m))⟩
  · rw [or_eq.mpr d]; simp
  · simp [b, c]
theorem mu0 {x : Int32} (h : muW fs sc ov U x = 0) (hb : ∀ s, s < U → fs s < 16 ∧ sc s < 16) : wpI fs sc ov U x = x := by
  by_cases e : wpI fs sc ov U x = x
  · exact e
  · have := muW_lt hb e
    omega
theorem itW_fix (hb : ∀ s, s < U → fs s < 16 ∧ sc s < 16) : ∀ (k : Nat) (x : Int32), muW fs sc ov U x ≤ k → wpI fs sc ov U (itW fs sc ov U k x) = itW fs sc ov U k x := by
  intro k
  induction k with
  | zero => intro x h; exact mu0 (show muW fs sc ov U x = 0 by omega) hb
  | succ k ih =>
    intro x h
    simp only [itW]
    by_cases e : wpI fs sc ov U x = x
    · rw [if_pos e]; exact e
    · rw [if_neg e]
      have := muW_lt hb e
      exact ih _ (by omega)
theorem itW_in (hb : ∀ s, s < U → fs s < 16 ∧ sc s < 16) {C : Nat → Bool} (hC : clo fs sc ov U C) : ∀ (k : Nat) {x : Int32}, (∀ i, i < 32 → bt x i = true → C i = true) → ∀ i, i < 32 → bt (itW fs sc ov U k x) i = true → C i = true := by
  intro k
  induction k with
  | zero => intro x hx; exact hx
  | succ k ih =>
    intro x hx
    simp only [itW]
    by_cases e : wpI fs sc ov U x = x
    · rw [if_pos e]; exact hx
    · rw [if_neg e]; exact ih (wpI_in hb hC hx U (Nat.le_refl _))
theorem itW_ext : ∀ (k : Nat) (x : Int32), sub x (itW fs sc ov U k x) := by
  intro k
  induction k with
  | zero => intro x; exact sub.rf
  | succ k ih =>
    intro x
    simp only [itW]
    split
    · exact sub.rf
    · refine sub.tr ?_ (ih _)
      have := wpI_mono (fs := fs) (sc := sc) (ov := ov) x 0 U
      rw [Nat.zero_add] at this
      exact this
end Groups
def grI (fs sc : Nat → Nat) (ov : Nat → Bool) (U : Nat) (a : Nat) : Int32 := itW fs sc ov U U ((1 : Int32) <<< (nI a &&& 31))
theorem muW_le {fs sc : Nat → Nat} {ov : Nat → Bool} {U : Nat} (x : Int32) : muW fs sc ov U x ≤ U := cnt_le _ _ _
section Groups2
variable {o N : Nat} {hd fs sc : Nat → Nat} {ov : Nat → Bool} {T U : Nat} {w0 w1 : Bool} {h : qN}
theorem WF.b16 (wf : WF hd fs sc ov T U) : ∀ s, s < U → fs s < 16 ∧ sc s < 16 := fun s hs => ⟨(wf.st (wf.2.2.2.1 s hs).1).2, (wf.st (wf.2.2.2.1 s hs).2).2⟩
theorem X0_sidesOf (hr : RC o hd fs sc ov T U w0 w1 h) {s : Nat} (hs : s < 12) : f_X0_sidesOf o (nI s) h = some (sdI fs sc s, h) := by
  have cj : (nI s).toNatClampNeg = s := nI_clamp (by omega)
  have hcj := nchk2 (j := s) (n := 12) (by omega) (by omega)
  unfold f_X0_sidesOf
  simp only [cj, if_neg hcj, hr.2.2.2.2.1 s hs, hr.2.2.2.2.2.1 s hs]
  rfl
theorem X0_widen (wf : WF hd fs sc ov T U) (hN : 12 < N) (hr : RC o hd fs sc ov T U w0 w1 h) (x : Int32) : f_X0_widen N o x h = some (wpI fs sc ov U x, h) := by
  have hU12 := wf.2.1
  obtain ⟨a1, h1, p1, rfl, rfl⟩ := loopA (F := f_X0_widen_L2 N o) (U := U) (Inv := fun j a h1 => a = wpI fs sc ov j x ∧ h1 = h)
    (fun n a h1 hi => by
      obtain ⟨-, rfl⟩ := hi
      rw [f_X0_widen_L2.eq_2, hr.2.1, if_pos (nI_le (Nat.le_refl _) (by omega))])
    (fun n j a h1 hj hi => by
      obtain ⟨rfl, rfl⟩ := hi
      rw [f_X0_widen_L2.eq_2]
      simp only [hr.2.1, if_neg (nI_ge hj (show U < 2 ^ 31 by omega)), X0_isOver hr (show j < 12 by omega), qb, X0_sidesOf hr (show j < 12 by omega), nI_1]
      simp only [wpI]
      cases hv : ov j with
      | true =>
        rw [if_neg bT, qb]
        exact ⟨_, _, rfl, by simp, rfl⟩
      | false =>
        rw [if_pos bF]
        by_cases c : wpI fs sc ov j x &&& sdI fs sc j = 0
        · rw [if_pos c, qb]
          exact ⟨_, _, rfl, by simp [c], rfl⟩
        · rw [if_neg c, qb]
          exact ⟨_, _, rfl, by simp [c], rfl⟩)
    U 0 N x h (by omega) (by omega) ⟨rfl, rfl⟩
  unfold f_X0_widen
  rw [k0, p1, qb]
theorem X0_groupOf_L (wf : WF hd fs sc ov T U) (hN : 12 < N) (hr : RC o hd fs sc ov T U w0 w1 h) : ∀ (k j n : Nat) (x : Int32), U = j + k → k < n →
    ∃ r, f_X0_groupOf_L6 N o n x (nI j) h = some r ∧ (r = .inl (itW fs sc ov U k x, h) ∨ r = .inr (itW fs sc ov U k x, h)) := by
  have hU12 := wf.2.1
  intro k
  induction k with
  | zero =>
    intro j n x e hn
    obtain ⟨n, rfl⟩ : ∃ m, n = m + 1 := ⟨n - 1, by omega⟩
    rw [f_X0_groupOf_L6.eq_2, hr.2.1, if_pos (nI_le (by omega) (by omega))]
    exact ⟨_, rfl, Or.inr rfl⟩
  | succ k ih =>
    intro j n x e hn
    obtain ⟨n, rfl⟩ : ∃ m, n = m + 1 := ⟨n - 1, by omega⟩
    rw [f_X0_groupOf_L6.eq_2, hr.2.1, if_neg (nI_ge (by omega) (by omega)), X0_widen wf hN hr, qb]
    dsimp only
    simp only [itW]
    by_cases c : wpI fs sc ov U x = x
    · rw [if_pos c, if_pos c]
      exact ⟨_, rfl, Or.inl rfl⟩
    · rw [if_neg c, if_neg c, nI_1]
      exact ih (j + 1) n _ (by omega) (by omega)
theorem X0_groupOf (wf : WF hd fs sc ov T U) (hN : 12 < N) (hr : RC o hd fs sc ov T U w0 w1 h) (a : Nat) : f_X0_groupOf N o (nI a) h = some (grI fs sc ov U a, h) := by
  have hU12 := wf.2.1
  obtain ⟨r, e, q⟩ := X0_groupOf_L wf hN hr U 0 N ((1 : Int32) <<< (nI a &&& 31)) (by omega) (by omega)
  unfold f_X0_groupOf
  rw [k0, e, qb]
  rcases q with rfl | rfl <;> rfl
theorem X6_groupOf_L16 (wf : WF hd fs sc ov T U) (hN : 12 < N) (hr : RM hd fs sc ov T U w0 w1 h) (x y : Int32) : f_X6_groupOf_L16 N y N x (nI 0) h = some (wpI fs sc ov U x, h) := by
  have hU12 := wf.2.1
  have oz : ∀ x : Int32, x ||| 0 = x := fun x => b_ext fun i hi => by rw [b_or, b_0]; simp
  obtain ⟨a1, h1, p1, rfl, rfl⟩ := loopA (F := f_X6_groupOf_L16 N y) (U := U) (Inv := fun j a h1 => a = wpI fs sc ov j x ∧ h1 = h)
    (fun n a h1 hi => by
      obtain ⟨-, rfl⟩ := hi
      rw [f_X6_groupOf_L16.eq_2, hr.2.1, if_pos (nI_le (Nat.le_refl _) (by omega))])
    (fun n j a h1 hj hi => by
      obtain ⟨rfl, rfl⟩ := hi
      have cj : (nI j).toNatClampNeg = j := nI_clamp (by omega)
      have hcj := nchk2 (j := j) (n := 12) (by omega) (by omega)
      rw [f_X6_groupOf_L16.eq_2]
      simp only [hr.2.1, if_neg (nI_ge hj (show U < 2 ^ 31 by omega)), X6_isOver hr (show j < 12 by omega), qb, cj, if_neg hcj, hr.2.2.2.2.1 j (by omega), hr.2.2.2.2.2.1 j (by omega), nI_1]
      simp only [wpI]
      rw [show ((1 : Int32) <<< (nI (fs j) &&& 31)) ||| ((1 : Int32) <<< (nI (sc j) &&& 31)) = sdI fs sc j from rfl]
      cases hv : ov j with
      | true =>
        rw [if_neg bT, oz]
        exact ⟨_, _, rfl, by simp, rfl⟩
      | false =>
        rw [if_pos bF]
        by_cases c : wpI fs sc ov j x &&& sdI fs sc j = 0
        · rw [if_pos c, oz]
          exact ⟨_, _, rfl, by simp [c], rfl⟩
        · rw [if_neg c]
          exact ⟨_, _, rfl, by simp [c], rfl⟩)
    U 0 N x h (by omega) (by omega) ⟨rfl, rfl⟩
  exact p1
theorem X6_groupOf_L6 (wf : WF hd fs sc ov T U) (hN : 12 < N) (hr : RM hd fs sc ov T U w0 w1 h) : ∀ (k n : Nat) (x l3 : Int32), muW fs sc ov U x ≤ k → x ≠ l3 → k + 1 < n → f_X6_groupOf_L6 N n x l3 h = some (itW fs sc ov U k x, h) := by
  intro k
  induction k with
  | zero =>
    intro n x l3 hm hne hn
    obtain ⟨n, rfl⟩ : ∃ m, n = m + 2 := ⟨n - 2, by omega⟩
    have e := mu0 (show muW fs sc ov U x = 0 by omega) wf.b16
    rw [f_X6_groupOf_L6.eq_2, if_neg hne, show (0 : Int32) = nI 0 from rfl, X6_groupOf_L16 wf hN hr, qb]
    dsimp only
    rw [e, f_X6_groupOf_L6.eq_2, if_pos rfl]
    rfl
  | succ k ih =>
    intro n x l3 hm hne hn
    obtain ⟨n, rfl⟩ : ∃ m, n = m + 2 := ⟨n - 2, by omega⟩
    rw [f_X6_groupOf_L6.eq_2, if_neg hne, show (0 : Int32) = nI 0 from rfl, X6_groupOf_L16 wf hN hr, qb]
    dsimp only
    simp only [itW]
    by_cases e : wpI fs sc ov U x = x
    · rw [if_pos e, e, f_X6_groupOf_L6.eq_2, if_pos rfl]
    · rw [if_neg e]
      have := muW_lt wf.b16 e
      exact ih (n + 1) _ _ (by omega) e (by omega)
theorem one_ne {a : Nat} (ha : a < 16) : (1 : Int32) <<< (nI a &&& 31) ≠ 0 := by
  intro h
  have := b_one a (by omega) (show a < 32 by omega)
  rw [h, b_0] at this
  simp at this
theorem X6_groupOf (wf : WF hd fs sc ov T U) (hN : 14 < N) (hr : RM hd fs sc ov T U w0 w1 h) {a : Nat} (ha : a < 16) : f_X6_groupOf N (nI a) h = some (grI fs sc ov U a, h) := by
  have hU12 := wf.2.1
  unfold f_X6_groupOf
  rw [X6_groupOf_L6 wf (by omega) hr U N _ _ (muW_le _) (one_ne ha) (by omega), qb]
  rfl
end Groups2
