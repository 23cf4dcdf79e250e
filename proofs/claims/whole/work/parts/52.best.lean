/-! ===== pure 32: best, the class ===== -/
section Best5
variable {N : Nat}
theorem X1_isSide_L10 {o t : Nat} {hd fs sc : Nat → Nat} {ov : Nat → Bool} {T U : Nat} {w0 w1 : Bool} {h : qN} (wf : WF hd fs sc ov T U) (ht : t < 8) (hr : RC o hd fs sc ov T U w0 w1 h) : ∀ (k j f : Nat), U = j + k → k < f → (∀ s, s < j → ov s = false → fs s ≠ t ∧ sc s ≠ t) →
    ∃ r, f_X1_isSide_L10 N (nI t) o f (nI j) h = some r ∧ ((r = .inl (1, h) ∧ sS (hd, fs, sc, ov, T, U, w0, w1) t) ∨ (r = .inr h ∧ ¬ sS (hd, fs, sc, ov, T, U, w0, w1) t)) := by
  have hU := wf.2.1
  intro k
  induction k with
  | zero =>
    intro j f e hf hj
    obtain ⟨f, rfl⟩ : ∃ m, f = m + 1 := ⟨f - 1, by omega⟩
    have ej : j = U := by omega
    subst ej
    rw [f_X1_isSide_L10.eq_2, hr.2.1, if_pos (nI_le (Nat.le_refl _) (by omega))]
    refine ⟨_, rfl, Or.inr ⟨rfl, ?_⟩⟩
    rintro ⟨s, a, b, c⟩
    have := hj s a b
    have c : fs s = t ∨ sc s = t := c
    omega
  | succ k ih =>
    intro j f e hf hj
    obtain ⟨f, rfl⟩ : ∃ m, f = m + 1 := ⟨f - 1, by omega⟩
    have hjU : j < U := by omega
    obtain ⟨wa, wb⟩ := wf.2.2.2.1 j hjU
    have a16 := (wf.st wa).2
    have b16 := (wf.st wb).2
    rw [f_X1_isSide_L10.eq_2, hr.2.1, if_neg (nI_ge hjU (by omega)), X0_isOver hr (show j < 12 by omega), qb]
    dsimp only
    cases hv : ov j with
    | true =>
      rw [if_neg bT, nI_1]
      exact ih (j + 1) f (by omega) (by omega) (fun s hs h0 => by
        by_cases q : s = j
        · subst q; rw [hv] at h0; exact absurd h0 (by simp)
        · exact hj s (by omega) h0)
    | false =>
      rw [if_pos bF, X0_sidesOf hr (show j < 12 by omega), qb]
      dsimp only
      rw [b_bit t (by omega), sdI_bt a16 b16 (by omega)]
      by_cases q : t = fs j ∨ t = sc j
      · have : (decide (t = fs j) || decide (t = sc j)) = true := by rw [Bool.or_eq_true, decide_eq_true_eq, decide_eq_true_eq]; exact q
        rw [this, if_pos (show nI true.toNat = 1 from rfl)]
        exact ⟨_, rfl, Or.inl ⟨rfl, j, hjU, hv, by show fs j = t ∨ sc j = t; omega⟩⟩
      · have : (decide (t = fs j) || decide (t = sc j)) = false := by
          rw [Bool.or_eq_false_iff, decide_eq_false_iff_not, decide_eq_false_iff_not]
          exact ⟨fun z => q (Or.inl z), fun z => q (Or.inr z)⟩
        rw [this, if_neg (show ¬ nI false.toNat = 1 by decide), nI_1]
        exact ih (j + 1) f (by omega) (by omega) (fun s hs h0 => by
          by_cases q2 : s = j
          · subst q2; exact ⟨fun z => q (Or.inl z.symm), fun z => q (Or.inr z.symm)⟩
          · exact hj s (by omega) h0)
theorem X1_isSide {c : Ct} {st t : Nat} {h : qN} (wc : WCt c) (hN : 12 < N) (hst : st < 4) (ht : t < 8) (hr : RCt (28 + 5 * st) c h) :
    ∃ b : Bool, f_X1_isSide N (nI st) (nI t) h = some (nI b.toNat, h) ∧ (b = true ↔ sS c t) := by
  obtain ⟨hd, fs, sc, ov, T, U, w0, w1⟩ := c
  have wf : WF hd fs sc ov T U := wc.1
  have hU := wf.2.1
  have hc := nchk2 (j := st) (n := 4) hst (by omega)
  obtain ⟨r, a, b⟩ := X1_isSide_L10 (N := N) (t := t) wf ht hr U 0 N (by omega) (by omega) (fun s hs => by omega)
  unfold f_X1_isSide
  rw [nI_clamp (show st < 2 ^ 31 by omega), if_neg hc, k0, a, qb]
  rcases b with ⟨rfl, b⟩ | ⟨rfl, b⟩
  · exact ⟨true, rfl, fun _ => b, fun _ => rfl⟩
  · exact ⟨false, rfl, fun z => absurd z (by simp), fun z => absurd z b⟩
theorem sS_T {c : Ct} {t : Nat} (wc : WCt c) (ht : t < 8) (h : sS c t) : t < c.2.2.2.2.1 := by
  obtain ⟨s, p, _, q⟩ := h
  obtain ⟨a, b⟩ := wc.1.2.2.2.1 s p
  unfold okS at a b
  omega
theorem X1_wr_L19 {c : Ct} {st : Nat} {ys : Nat} {rec : Int32 → Nat → Nat → Int32 → qN → Option qN} {I : Nat → qN → Prop} (wc : WCt c) (hN : 12 < N) (hst : st < 2)
    (hR : ∀ d h, I d h → RCt (28 + 5 * st) c h)
    (hS : ∀ d h, d < 48 → I d h → (¬ sS c (d / 6) ∨ c.1 (d / 6) = d % 6) → I (d + 1) h)
    (hG : ∀ d h h1, d < 48 → I d h → sS c (d / 6) → c.1 (d / 6) ≠ d % 6 → RCt (28 + 5 * (st + 1)) (mvC c (d / 6) (d % 6)) h1 → h1 26 st = nI (enc d) → Off (PSt st) h h1 → ∃ h2 h3, f_X1_weigh N (nI (st + 1)) 8 6 (nI ys) h1 = some h2 ∧ rec (nI (st + 1)) 8 6 (nI ys) h2 = some h3 ∧ I (d + 1) h3)
    {t : Nat} (ht : t < 8) : ∀ (k y f : Nat) (h : qN), 6 = y + k → k < f → I (6 * t + y) h →
    ∃ h1, f_X1_weighRows_L19 N rec (nI st) 8 6 (nI ys) (nI t) f (nI y) h = some h1 ∧ I (6 * t + 6) h1 := by
  intro k
  induction k with
  | zero =>
    intro y f h e hf hi
    obtain ⟨f, rfl⟩ : ∃ m, f = m + 1 := ⟨f - 1, by omega⟩
    have e6 : y = 6 := by omega
    subst e6
    rw [f_X1_weighRows_L19.eq_2, if_pos (by decide)]
    exact ⟨h, rfl, hi⟩
  | succ k ih =>
    intro y f h e hf hi
    obtain ⟨f, rfl⟩ : ∃ m, f = m + 1 := ⟨f - 1, by omega⟩
    have d1 : (6 * t + y) / 6 = t := by omega
    have d2 : (6 * t + y) % 6 = y := by omega
    obtain ⟨b, a1, b1⟩ := X1_isSide (N := N) wc hN (show st < 4 by omega) ht (hR _ _ hi)
    rw [f_X1_weighRows_L19.eq_2, show (6 : Int32) = nI 6 from rfl, if_neg (nI_ge (by omega) (by omega)), a1, qb]
    dsimp only
    cases b with
    | false =>
      have ns : ¬ sS c t := fun z => absurd (b1.mpr z) (by simp)
      rw [if_pos bF]
      refine ⟨h, rfl, ?_⟩
      have sk : ∀ i, y + i ≤ 6 → I (6 * t + y + i) h := by
        intro i
        induction i with
        | zero => intro _; exact hi
        | succ i ih2 =>
          intro hi2
          exact hS (6 * t + y + i) h (by omega) (ih2 (by omega)) (Or.inl (by rw [show (6 * t + y + i) / 6 = t by omega]; exact ns))
      have := sk (6 - y) (by omega)
      rw [show 6 * t + y + (6 - y) = 6 * t + 6 by omega] at this
      exact this
    | true =>
      have hs : sS c t := b1.mp rfl
      have htT := sS_T wc ht hs
      obtain ⟨s1, s2⟩ := X1_step (N := N) (y := y) wc hN (show st < 3 by omega) htT (by omega) (hR _ _ hi)
      rw [if_neg bT]
      by_cases n1 : c.1 t = y
      · rw [s1 n1, qb]
        dsimp only
        rw [if_pos rfl, qb, nI_1]
        exact ih (y + 1) f h (by omega) (by omega) (hS (6 * t + y) h (by omega) hi (Or.inr (by rw [d1, d2]; exact n1)))
      · obtain ⟨h1, a2, b2, c2, o2⟩ := s2 n1
        obtain ⟨h2, h3, a3, a4, i4⟩ := hG (6 * t + y) h h1 (by omega) hi (by rw [d1]; exact hs) (by rw [d1, d2]; exact n1) (by rw [d1, d2]; exact b2) c2 o2
        rw [a2, qb]
        dsimp only
        rw [if_neg (by decide), nI_1, a3, qb, a4, qb, qb, nI_1]
        exact ih (y + 1) f h3 (by omega) (by omega) i4
theorem X1_wr_L9 {c : Ct} {st : Nat} {ys : Nat} {rec : Int32 → Nat → Nat → Int32 → qN → Option qN} {I : Nat → qN → Prop} (wc : WCt c) (hN : 12 < N) (hst : st < 2)
    (hR : ∀ d h, I d h → RCt (28 + 5 * st) c h)
    (hS : ∀ d h, d < 48 → I d h → (¬ sS c (d / 6) ∨ c.1 (d / 6) = d % 6) → I (d + 1) h)
    (hG : ∀ d h h1, d < 48 → I d h → sS c (d / 6) → c.1 (d / 6) ≠ d % 6 → RCt (28 + 5 * (st + 1)) (mvC c (d / 6) (d % 6)) h1 → h1 26 st = nI (enc d) → Off (PSt st) h h1 → ∃ h2 h3, f_X1_weigh N (nI (st + 1)) 8 6 (nI ys) h1 = some h2 ∧ rec (nI (st + 1)) 8 6 (nI ys) h2 = some h3 ∧ I (d + 1) h3) :
    ∀ (k t f : Nat) (h : qN), 8 = t + k → k < f → I (6 * t) h →
    ∃ h1, f_X1_weighRows_L9 N rec (nI st) 8 6 (nI ys) f (nI t) h = some h1 ∧ I 48 h1 := by
  intro k
  induction k with
  | zero =>
    intro t f h e hf hi
    obtain ⟨f, rfl⟩ : ∃ m, f = m + 1 := ⟨f - 1, by omega⟩
    have e8 : t = 8 := by omega
    subst e8
    rw [f_X1_weighRows_L9.eq_2, if_pos (by decide)]
    exact ⟨h, rfl, hi⟩
  | succ k ih =>
    intro t f h e hf hi
    obtain ⟨f, rfl⟩ : ∃ m, f = m + 1 := ⟨f - 1, by omega⟩
    obtain ⟨h1, a1, i1⟩ := X1_wr_L19 (N := N) (rec := rec) wc hN hst hR hS hG (t := t) (by omega) 6 0 N h (by omega) (by omega) hi
    rw [f_X1_weighRows_L9.eq_2, k8, if_neg (nI_ge (by omega) (by omega)), k0, a1, qb, nI_1]
    exact ih (t + 1) f h1 (by omega) (by omega) (by rw [show 6 * (t + 1) = 6 * t + 6 by omega]; exact i1)
/-! one row weighed -/
def SB (c : Ct) (g : Gt) (ys : Nat) (V : Nat → Nat → Prop) (h : qN) : Prop :=
  ∃ n v, n ≤ 2 ∧ v < (6 * c.2.2.2.2.1) ^ n ∧ BI c g ys V n v ∧ h 24 4 = nI (smC c g ys n v) ∧ h 24 3 = nI n ∧ ∀ i, i < n → h 27 i = nI (enc (dgN (6 * c.2.2.2.2.1) n v i))
theorem SB.off {c : Ct} {g : Gt} {ys : Nat} {V : Nat → Nat → Prop} {h h1 : qN} {P : Nat → Nat → Prop} (hs : SB c g ys V h) (hh : Off P h h1) (hp : ∀ a k, ((a = 24 ∧ (k = 3 ∨ k = 4)) ∨ a = 27) → ¬ P a k) : SB c g ys V h1 := by
  obtain ⟨n, v, a, b, d, e1, e2, e3⟩ := hs
  exact ⟨n, v, a, b, d, by rw [hh _ _ (hp _ _ (by omega))]; exact e1, by rw [hh _ _ (hp _ _ (by omega))]; exact e2, fun i hi => by rw [hh _ _ (hp _ _ (by omega))]; exact e3 i hi⟩
theorem SB.congr {c : Ct} {g : Gt} {ys : Nat} {V W : Nat → Nat → Prop} {h : qN} (hs : SB c g ys V h) (e : ∀ m w, V m w ↔ W m w) : SB c g ys W h := by
  obtain ⟨n, v, a, b, d, x⟩ := hs
  exact ⟨n, v, a, b, d.congr e, x⟩
def PWg : Nat → Nat → Prop := fun a k => (a = 24 ∧ (k = 3 ∨ k = 4)) ∨ a = 27
theorem X1_weigh {c : Ct} {g : Gt} {ys m w : Nat} {h : qN} {V W : Nat → Nat → Prop} (wc : WCt c) (wg : WGt g) (hN : 12 < N) (hy : ys ≤ 9) (hm : m ≤ 2) (hw : w < (6 * c.2.2.2.2.1) ^ m)
    (hr : RCt (28 + 5 * m) (eC c m w) h) (hg : RG1 1 g h) (row : ∀ i, i < m → h 26 i = nI (enc (dgN (6 * c.2.2.2.2.1) m w i))) (hs : SB c g ys V h)
    (hV : ∀ a b, W a b ↔ (V a b ∨ (a = m ∧ b = w))) (hlt : ∀ b, V m b → b < w) :
    ∃ h1, f_X1_weigh N (nI m) 8 6 (nI ys) h = some h1 ∧ SB c g ys W h1 ∧ Off PWg h h1 := by
  obtain ⟨n, v, hn, hv, hB, e4, e3, e27⟩ := hs
  have hc := nchk2 (j := m) (n := 4) (by omega) (by omega)
  have s0 := smC_le wc wg hy hn hv
  have s1 := smC_le wc wg hy hm hw
  have cw : nI (cstC (eC c m w) g) * nI ys + nI m = nI (smC c g ys m w) := by rw [pk_mul, nI_add]; rfl
  have lt : (nI (smC c g ys m w) < nI (smC c g ys n v)) = (smC c g ys m w < smC c g ys n v) := propext (nI_ltI (by omega) (by omega))
  have eq : (nI (smC c g ys m w) = nI (smC c g ys n v)) = (smC c g ys m w = smC c g ys n v) := propext (nI_eq (by omega) (by omega))
  have le : (nI n ≤ nI m) = (n ≤ m) := propext (nI_leI (by omega) (by omega))
  have upd : ∃ h1, f_X1_choose (nI m) (qup h 24 4 (nI (smC c g ys m w))) = some h1 ∧ h1 24 4 = nI (smC c g ys m w) ∧ h1 24 3 = nI m ∧ (∀ i, i < m → h1 27 i = nI (enc (dgN (6 * c.2.2.2.2.1) m w i))) ∧ Off PWg h h1 := by
    obtain ⟨h1, a1, b1, c1, o1⟩ := X1_choose (n := m) (by omega) (qup h 24 4 (nI (smC c g ys m w)))
    refine ⟨h1, a1, by rw [o1 24 4 (by omega), qup_at], b1, fun i hi => by rw [c1 i hi]; exact row i hi, (off_up (by unfold PWg; omega)).tr (o1.weaken (fun a k x => by unfold PWg; omega))⟩
  have better : (smC c g ys m w < smC c g ys n v ∨ (smC c g ys m w = smC c g ys n v ∧ m < n)) → BI c g ys W m w := by
    intro q
    refine ⟨(hV m w).mpr (Or.inr ⟨rfl, rfl⟩), fun a b hab => ?_⟩
    rcases (hV a b).mp hab with z | ⟨rfl, rfl⟩
    · have := hB.2 a b z
      unfold leB at this ⊢
      omega
    · unfold leB; omega
  have worse : ¬ (smC c g ys m w < smC c g ys n v ∨ (smC c g ys m w = smC c g ys n v ∧ m < n)) → BI c g ys W n v := by
    intro q
    refine ⟨(hV n v).mpr (Or.inl hB.1), fun a b hab => ?_⟩
    rcases (hV a b).mp hab with z | ⟨rfl, rfl⟩
    · exact hB.2 a b z
    · by_cases q2 : n = a
      · subst q2
        have := hlt v hB.1
        unfold leB
        omega
      · unfold leB
        omega
  unfold f_X1_weigh
  rw [nI_clamp (show m < 2 ^ 31 by omega), if_neg hc, X0_costOfAll (eC_W m w c wc hw) hN hr hg, qb]
  dsimp only
  rw [cw, e4]
  by_cases q1 : smC c g ys m w < smC c g ys n v
  · obtain ⟨h1, a1, b1, c1, d1, o1⟩ := upd
    rw [if_pos (by rw [lt]; exact q1), a1, qb]
    exact ⟨h1, rfl, ⟨m, w, hm, hw, better (Or.inl q1), b1, c1, d1⟩, o1⟩
  · rw [if_neg (by rw [lt]; exact q1)]
    by_cases q2 : smC c g ys m w = smC c g ys n v
    · rw [if_pos (by rw [eq]; exact q2), e3]
      by_cases q3 : n ≤ m
      · rw [if_pos (by rw [le]; exact q3)]
        exact ⟨h, rfl, ⟨n, v, hn, hv, worse (by omega), e4, e3, e27⟩, Off.rf⟩
      · obtain ⟨h1, a1, b1, c1, d1, o1⟩ := upd
        rw [if_neg (by rw [le]; exact q3), a1, qb]
        exact ⟨h1, rfl, ⟨m, w, hm, hw, better (Or.inr ⟨q2, by omega⟩), b1, c1, d1⟩, o1⟩
    · rw [if_neg (by rw [eq]; exact q2)]
      exact ⟨h, rfl, ⟨n, v, hn, hv, worse (by omega), e4, e3, e27⟩, Off.rf⟩
/-! rows seen so far -/
def V0 (c : Ct) (p q m w : Nat) : Prop := w < (6 * c.2.2.2.2.1) ^ m ∧ vS c m w ∧ (m = 0 ∨ (m = 1 ∧ w < p) ∨ (m = 2 ∧ w < q))
theorem vS1 {c : Ct} {d : Nat} : vS c 1 d ↔ (sS c (d / 6) ∧ c.1 (d / 6) ≠ d % 6) := by
  simp only [vS, Nat.pow_zero, Nat.div_one]
  exact ⟨fun z => ⟨z.1, z.2.1⟩, fun z => ⟨z.1, z.2, trivial⟩⟩
theorem vS2 {c : Ct} {d e : Nat} (he : e < 6 * c.2.2.2.2.1) : vS c 2 (d * (6 * c.2.2.2.2.1) + e) ↔ (sS c (d / 6) ∧ c.1 (d / 6) ≠ d % 6 ∧ vS (mvC c (d / 6) (d % 6)) 1 e) := by
  have h1 : e < (6 * c.2.2.2.2.1) ^ 1 := by rw [Nat.pow_one]; exact he
  have dd := dig_div (d := d) h1
  have dm := dig_mod (d := d) h1
  rw [show (6 * c.2.2.2.2.1) ^ 1 = 6 * c.2.2.2.2.1 from Nat.pow_one _] at dd dm
  show (sS c ((d * (6 * c.2.2.2.2.1) + e) / (6 * c.2.2.2.2.1) ^ 1 / 6) ∧ c.1 ((d * (6 * c.2.2.2.2.1) + e) / (6 * c.2.2.2.2.1) ^ 1 / 6) ≠ (d * (6 * c.2.2.2.2.1) + e) / (6 * c.2.2.2.2.1) ^ 1 % 6 ∧ vS (mvC c ((d * (6 * c.2.2.2.2.1) + e) / (6 * c.2.2.2.2.1) ^ 1 / 6) ((d * (6 * c.2.2.2.2.1) + e) / (6 * c.2.2.2.2.1) ^ 1 % 6)) 1 ((d * (6 * c.2.2.2.2.1) + e) % (6 * c.2.2.2.2.1) ^ 1)) ↔ _
  rw [show (6 * c.2.2.2.2.1) ^ 1 = 6 * c.2.2.2.2.1 from Nat.pow_one _, dd, dm]
theorem eC1 {c : Ct} {d : Nat} : eC c 1 d = mvC c (d / 6) (d % 6) := by
  simp only [eC, Nat.pow_zero, Nat.div_one]
theorem eC2 {c : Ct} {d e : Nat} (he : e < 6 * c.2.2.2.2.1) : eC c 2 (d * (6 * c.2.2.2.2.1) + e) = mvC (mvC c (d / 6) (d % 6)) (e / 6) (e % 6) := by
  have h1 : e < (6 * c.2.2.2.2.1) ^ 1 := by rw [Nat.pow_one]; exact he
  have dd := dig_div (d := d) h1
  have dm := dig_mod (d := d) h1
  rw [show (6 * c.2.2.2.2.1) ^ 1 = 6 * c.2.2.2.2.1 from Nat.pow_one _] at dd dm
  show eC (mvC c ((d * (6 * c.2.2.2.2.1) + e) / (6 * c.2.2.2.2.1) ^ 1 / 6) ((d * (6 * c.2.2.2.2.1) + e) / (6 * c.2.2.2.2.1) ^ 1 % 6)) 1 ((d * (6 * c.2.2.2.2.1) + e) % (6 * c.2.2.2.2.1) ^ 1) = _
  rw [show (6 * c.2.2.2.2.1) ^ 1 = 6 * c.2.2.2.2.1 from Nat.pow_one _, dd, dm, eC1]
theorem dgN1 {D d : Nat} (h : d < D) : dgN D 1 d 0 = d := by
  rw [dgN_0 (by rw [Nat.pow_one]; exact h), Nat.pow_zero, Nat.div_one]
theorem dgN2 {D d e : Nat} (hd : d < D) (he : e < D) : dgN D 2 (d * D + e) 0 = d ∧ dgN D 2 (d * D + e) 1 = e := by
  have h1 : e < D ^ 1 := by rw [Nat.pow_one]; exact he
  have dd := dig_div (d := d) h1
  have dm := dig_mod (d := d) h1
  have dl := dig_lt hd h1
  rw [Nat.pow_one] at dd dm dl
  constructor
  · rw [dgN_0 (k := 1) dl, Nat.pow_one, dd]
  · rw [show (1 : Nat) = 0 + 1 from rfl, ← dgN_s (k := 1) (by omega), Nat.pow_one, dm, dgN1 he]
end Best5
