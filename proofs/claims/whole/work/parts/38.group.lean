/-! ===== pure 18: how many hang together ===== -/
section Grp
variable {N : Nat} {hd fs sc : Nat → Nat} {ov : Nat → Bool} {T U : Nat} {w0 w1 : Bool} {h : qN}
theorem gr_self {a : Nat} (ha : a < 16) : bt (grI fs sc ov U a) a = true := by
  unfold grI
  exact itW_ext U _ a (by omega) (by rw [b_one a (by omega) (by omega)]; simp)
theorem gr_clo (wf : WF hd fs sc ov T U) (a : Nat) : clo fs sc ov U (bt (grI fs sc ov U a)) := fix_clo wf.b16 (itW_fix wf.b16 U _ (muW_le _))
theorem gr_min (wf : WF hd fs sc ov T U) {C : Nat → Bool} (hC : clo fs sc ov U C) {a : Nat} (ha : a < 16) (h : C a = true) : ∀ i, i < 32 → bt (grI fs sc ov U a) i = true → C i = true := by
  refine itW_in wf.b16 hC U (fun i hi hh => ?_)
  rw [b_one a (by omega) hi] at hh
  rw [decide_eq_true_eq] at hh
  rw [hh]; exact h
theorem gr_16 (wf : WF hd fs sc ov T U) {a : Nat} (ha : a < 16) {i : Nat} (hi : i < 32) (h : bt (grI fs sc ov U a) i = true) : i < 16 := by
  have := gr_min wf (C := fun i => decide (i < 16)) (fun s hs ho => by
    obtain ⟨x, y⟩ := wf.b16 s hs
    simp [x, y]) ha (by simp [ha]) i hi h
  simpa using this
theorem gr_sym (wf : WF hd fs sc ov T U) {a b : Nat} (ha : a < 16) (hb : b < 16) (h : bt (grI fs sc ov U a) b = true) : bt (grI fs sc ov U b) a = true := by
  cases q : bt (grI fs sc ov U b) a with
  | true => rfl
  | false =>
    have := gr_min wf (C := fun i => bt (grI fs sc ov U a) i && !bt (grI fs sc ov U b) i) (fun s hs ho => by
      simp only [gr_clo wf a s hs ho, gr_clo wf b s hs ho]) ha (by simp [q, gr_self ha]) b (by omega) h
    rw [gr_self hb] at this
    simp at this
theorem gr_eq (wf : WF hd fs sc ov T U) {a b : Nat} (ha : a < 16) (hb : b < 16) (h : bt (grI fs sc ov U a) b = true) : grI fs sc ov U a = grI fs sc ov U b :=
  sub.anti (gr_min wf (gr_clo wf b) ha (gr_sym wf ha hb h)) (gr_min wf (gr_clo wf a) hb h)
def mnG (fs sc : Nat → Nat) (ov : Nat → Bool) (U x : Nat) : Bool := decide (∀ y, y < x → bt (grI fs sc ov U x) y = false)
def tcG (fs sc : Nat → Nat) (ov : Nat → Bool) (U x : Nat) : Bool := decide (¬ ∀ s, s < U → ¬ (ov s = false ∧ (fs s = x ∨ sc s = x)))
theorem tcG_iff {x : Nat} : tcG fs sc ov U x = true ↔ ∃ s, s < U ∧ ov s = false ∧ (fs s = x ∨ sc s = x) := by
  unfold tcG
  rw [decide_eq_true_eq]
  constructor
  · intro h
    refine Classical.byContradiction fun z => h fun s hs q => z ⟨s, hs, q⟩
  · rintro ⟨s, hs, q⟩ z
    exact z s hs q
theorem alone (wf : WF hd fs sc ov T U) {a : Nat} (ha : a < 16) (h : tcG fs sc ov U a = false) : grI fs sc ov U a = (1 : Int32) <<< (nI a &&& 31) := by
  apply b_ext
  intro i hi
  rw [b_one a (by omega) hi]
  by_cases e : i = a
  · subst e; simp [gr_self ha]
  · cases q : bt (grI fs sc ov U a) i with
    | false => simp [e]
    | true =>
      have := gr_min wf (C := fun i => decide (i = a)) (fun s hs ho => by
        have n1 : fs s ≠ a := fun z => by rw [tcG_iff.mpr ⟨s, hs, ho, Or.inl z⟩] at h; exact absurd h (by simp)
        have n2 : sc s ≠ a := fun z => by rw [tcG_iff.mpr ⟨s, hs, ho, Or.inr z⟩] at h; exact absurd h (by simp)
        simp [n1, n2]) ha (by simp) i hi q
      simp [e] at this
theorem others (wf : WF hd fs sc ov T U) (st : SETT hd fs sc ov U w1) {a : Nat} (h : tcG fs sc ov U a = true) (ha : a < 16) : ∃ b, b < 16 ∧ b ≠ a ∧ bt (grI fs sc ov U a) b = true := by
  obtain ⟨s, hs, ho, e⟩ := tcG_iff.mp h
  obtain ⟨x, y⟩ := wf.b16 s hs
  have c := gr_clo wf a s hs ho
  have d := (st s hs ho).2
  rcases e with rfl | rfl
  · exact ⟨sc s, y, fun z => d z.symm, by rw [← c]; exact gr_self ha⟩
  · exact ⟨fs s, x, d, by rw [c]; exact gr_self ha⟩
end Grp
theorem pw2 : ∀ i, i < 256 → ∀ j, j < 256 → (256 * i + j) &&& (256 * i + j - 1) = 0 → 256 * i + j = 0 ∨ 256 * i + j = 2 ^ (Nat.log2 (256 * i + j)) := by decide +kernel
theorem pw3 (m : Nat) (hm : m < 65536) (h : m &&& (m - 1) = 0) : m = 0 ∨ m = 2 ^ (Nat.log2 m) := by
  have := pw2 (m / 256) (by omega) (m % 256) (by omega)
  rw [show 256 * (m / 256) + m % 256 = m by omega] at this
  exact this h
theorem nI_bt {m : Nat} (hm : m < 2 ^ 32) {i : Nat} (hi : i < 32) : bt (nI m) i = m.testBit i := by
  show (BitVec.ofNat 32 m).getLsbD i = _
  rw [BitVec.getLsbD_ofNat]
  simp [hi]
theorem num16 {x : Int32} (h : ∀ i, i < 32 → bt x i = true → i < 16) : ∃ m, m < 65536 ∧ x = nI m := by
  refine ⟨x.toBitVec.toNat % 2 ^ 16, by omega, ?_⟩
  rw [← pk_and x (m := 65535) 16 (by decide)]
  apply b_ext
  intro i hi
  rw [b_and]
  have : ∀ i, i < 32 → bt 65535 i = decide (i < 16) := by decide +kernel
  rw [this i hi]
  cases q : bt x i with
  | false => simp
  | true => simp [h i hi q]
theorem szF_0 {n m : Nat} (h : m ≤ n) : szF n m = 0 ↔ m = 0 := by
  cases n with
  | zero => simp [szF]; omega
  | succ n =>
    simp only [szF]
    by_cases e : m = 0
    · simp [e]
    · simp [e]
theorem szF_le : ∀ n m, szF n m ≤ n := by
  intro n
  induction n with
  | zero => intro m; simp [szF]
  | succ n ih =>
    intro m
    simp only [szF]
    split
    · omega
    · have := ih (m &&& (m - 1)); omega
theorem sz_two {m a b : Nat} (hm : m < 65536) (hab : a ≠ b) (ha : m.testBit a = true) (hb : m.testBit b = true) : ¬ szF m m ≤ 1 := by
  intro h
  have h0 : m ≠ 0 := by rintro rfl; simp at ha
  obtain ⟨k, rfl⟩ : ∃ j, m = j + 1 := ⟨m - 1, by omega⟩
  simp only [szF, if_neg h0] at h
  have z : (k + 1) &&& (k + 1 - 1) = 0 := by
    have hle : (k + 1) &&& (k + 1 - 1) ≤ k + 1 - 1 := Nat.and_le_right
    have : szF k ((k + 1) &&& (k + 1 - 1)) = 0 := by omega
    exact (szF_0 (by omega)).mp this
  rcases pw3 _ hm z with e | e
  · omega
  · rw [e, Nat.testBit_two_pow] at ha hb
    simp at ha hb
    omega
theorem sz_one : ∀ a, a < 16 → szF (2 ^ a) (2 ^ a) = 1 := by
  intro a ha
  have h0 : 2 ^ a ≠ 0 := by have := Nat.two_pow_pos a; omega
  have : ∀ a, a < 16 → (2 ^ a) &&& (2 ^ a - 1) = 0 := by decide +kernel
  rw [szF_fuel (2 ^ a) (2 ^ a) (2 ^ a + 1) (Nat.le_refl _) (by omega)]
  simp only [szF, if_neg h0, this a ha]
  rw [(szF_0 (Nat.zero_le _)).mpr rfl]
theorem shlN : ∀ a, a < 16 → (1 : Int32) <<< (nI a &&& 31) = nI (2 ^ a) := by decide +kernel
section Grp2
variable {N : Nat} {hd fs sc : Nat → Nat} {ov : Nat → Bool} {T U : Nat} {w0 w1 : Bool} {h : qN}
theorem size_gr (wf : WF hd fs sc ov T U) (st : SETT hd fs sc ov U w1) (hN : 65536 < N) {a : Nat} (ha : a < 16) : ∃ k, k < 2 ^ 31 ∧ f_X6_size N (grI fs sc ov U a) h = some (nI k, h) ∧ (k ≤ 1 ↔ tcG fs sc ov U a = false) := by
  obtain ⟨m, hm, e⟩ := num16 (fun i hi hh => gr_16 wf ha hi hh)
  have hl := szF_le m m
  refine ⟨szF m m, by omega, by rw [e]; exact X6_size (by omega) (by omega), ?_⟩
  cases q : tcG fs sc ov U a with
  | false =>
    have al := alone wf ha q
    rw [e, shlN a ha] at al
    have pl : 2 ^ a < 65536 := by
      have : ∀ a, a < 16 → 2 ^ a < 65536 := by decide +kernel
      exact this a ha
    have hmm : m = 2 ^ a := (nI_eq (by omega) (by omega)).mp al
    rw [hmm, sz_one a ha]
    simp
  | true =>
    obtain ⟨b, hb, hne, hbt⟩ := others wf st q ha
    have sa := gr_self (fs := fs) (sc := sc) (ov := ov) (U := U) ha
    rw [e, nI_bt (by omega) (by omega)] at hbt sa
    have := sz_two hm (fun z => hne z.symm) sa hbt
    simp only [Bool.true_eq_false, iff_false]
    exact this
theorem tc_ok (wf : WF hd fs sc ov T U) {x : Nat} (h : tcG fs sc ov U x = true) : okS T x := by
  obtain ⟨s, hs, ho, e⟩ := tcG_iff.mp h
  obtain ⟨a, b⟩ := wf.2.2.2.1 s hs
  rcases e with rfl | rfl
  · exact a
  · exact b
theorem X6_group_L32 (wf : WF hd fs sc ov T U) (st : SETT hd fs sc ov U w1) (hN : 65536 < N) (hr : RM hd fs sc ov T U w0 w1 h) : ∀ (k j n : Nat) (l2 : Int32), 16 = j + k → k < n →
    (∀ i, i < 32 → (bt l2 i = true ↔ ∃ x, x < j ∧ okS T x ∧ bt (grI fs sc ov U x) i = true)) →
    f_X6_group_L32 N n l2 (nI (cnt (fun x => mnG fs sc ov U x && tcG fs sc ov U x) 0 j)) (nI j) h = some (nI (cnt (fun x => mnG fs sc ov U x && tcG fs sc ov U x) 0 16), h) := by
  have hT := wf.1
  intro k
  induction k with
  | zero =>
    intro j n l2 e hn hi
    obtain ⟨n, rfl⟩ : ∃ m, n = m + 1 := ⟨n - 1, by omega⟩
    rw [f_X6_group_L32.eq_2, show j = 16 by omega, if_pos (by decide)]
  | succ k ih =>
    intro j n l2 e hn hi
    obtain ⟨n, rfl⟩ : ∃ m, n = m + 1 := ⟨n - 1, by omega⟩
    have hj : j < 16 := by omega
    rw [f_X6_group_L32.eq_2, k16, if_neg (nI_ge hj (by omega)), X6_isSide (h := h) hr.1 hT (nI j), qb]
    dsimp only
    have cs : ((0 ≤ (nI j).toInt ∧ (nI j).toInt < (T : Int)) ∨ (10 ≤ (nI j).toInt ∧ (nI j).toInt < 16)) ↔ okS T j := by
      rw [nI_toInt (by omega)]
      unfold okS
      constructor <;> omega
    by_cases ok : okS T j
    · rw [if_pos (cs.mpr ok), if_neg (by decide), b_bit j (by omega)]
      have mn : bt l2 j = true ↔ mnG fs sc ov U j = false := by
        rw [hi j (by omega)]
        constructor
        · rintro ⟨x, hx, ho, hb⟩
          unfold mnG
          rw [decide_eq_false_iff_not]
          intro z
          have := gr_sym wf (show x < 16 by omega) hj hb
          rw [z x hx] at this
          exact absurd this (by simp)
        · intro q
          unfold mnG at q
          rw [decide_eq_false_iff_not] at q
          refine Classical.byContradiction fun z => q fun y hy => ?_
          cases hb : bt (grI fs sc ov U j) y with
          | false => rfl
          | true =>
            have hs := gr_sym wf hj (show y < 16 by omega) hb
            cases hv : tcG fs sc ov U y with
            | true => exact absurd ⟨y, hy, tc_ok wf hv, hs⟩ z
            | false =>
              rw [alone wf (show y < 16 by omega) hv, b_one y (by omega) (by omega)] at hs
              simp at hs
              omega
      cases hv : bt l2 j with
      | true =>
        rw [if_neg bT, qb, nI_1]
        have m0 := mn.mp hv
        have e2 : cnt (fun x => mnG fs sc ov U x && tcG fs sc ov U x) 0 j = cnt (fun x => mnG fs sc ov U x && tcG fs sc ov U x) 0 (j + 1) := by
          rw [cnt_last, Nat.zero_add, m0]; simp
        rw [e2]
        refine ih (j + 1) n l2 (by omega) (by omega) (fun i hi2 => ?_)
        rw [hi i hi2]
        constructor
        · rintro ⟨x, a, b, c⟩; exact ⟨x, by omega, b, c⟩
        · rintro ⟨x, a, b, c⟩
          by_cases q : x = j
          · subst q
            obtain ⟨y, p1, p2, p3⟩ := (hi x (by omega)).mp hv
            exact ⟨y, p1, p2, by rw [gr_eq wf (show y < 16 by omega) hj p3]; exact c⟩
          · exact ⟨x, by omega, b, c⟩
      | false =>
        have m1 : mnG fs sc ov U j = true := by
          cases q : mnG fs sc ov U j with
          | true => rfl
          | false => rw [mn.mpr q] at hv; exact absurd hv (by simp)
        obtain ⟨sz, sl, s1, s2⟩ := size_gr (h := h) wf st hN hj
        rw [if_pos bF, X6_groupOf wf (by omega) hr hj, qb]
        dsimp only
        rw [s1, qb]
        dsimp only
        rw [qb, nI_1]
        have el : nI sz ≤ (1 : Int32) ↔ sz ≤ 1 := nI_leI (b := 1) sl (by omega)
        have e2 : nI (cnt (fun x => mnG fs sc ov U x && tcG fs sc ov U x) 0 j) + (if nI sz ≤ (1 : Int32) then (0 : Int32) else (1 : Int32)) = nI (cnt (fun x => mnG fs sc ov U x && tcG fs sc ov U x) 0 (j + 1)) := by
          rw [cnt_last, Nat.zero_add, m1]
          cases q : tcG fs sc ov U j with
          | true =>
            rw [if_neg (fun z => by rw [s2.mp (el.mp z)] at q; exact absurd q (by simp)), nI_1]
            rfl
          | false =>
            rw [if_pos (el.mpr (s2.mpr q)), show (0 : Int32) = nI 0 from rfl, nI_add]
            rfl
        rw [e2]
        refine ih (j + 1) n _ (by omega) (by omega) (fun i hi2 => ?_)
        rw [b_or, Bool.or_eq_true, hi i hi2]
        constructor
        · rintro (⟨x, a, b, c⟩ | c)
          · exact ⟨x, by omega, b, c⟩
          · exact ⟨j, by omega, ok, c⟩
        · rintro ⟨x, a, b, c⟩
          by_cases q : x = j
          · subst q; exact Or.inr c
          · exact Or.inl ⟨x, by omega, b, c⟩
    · rw [if_neg (fun z => ok (cs.mp z)), if_pos rfl, qb, nI_1]
      have t0 : tcG fs sc ov U j = false := by
        cases q : tcG fs sc ov U j with
        | false => rfl
        | true => exact absurd (tc_ok wf q) ok
      have e2 : cnt (fun x => mnG fs sc ov U x && tcG fs sc ov U x) 0 j = cnt (fun x => mnG fs sc ov U x && tcG fs sc ov U x) 0 (j + 1) := by
        rw [cnt_last, Nat.zero_add, t0]; simp
      rw [e2]
      refine ih (j + 1) n l2 (by omega) (by omega) (fun i hi2 => ?_)
      rw [hi i hi2]
      constructor
      · rintro ⟨x, a, b, c⟩; exact ⟨x, by omega, b, c⟩
      · rintro ⟨x, a, b, c⟩
        by_cases q : x = j
        · subst q; exact absurd b ok
        · exact ⟨x, by omega, b, c⟩
theorem cnt_congr {f g : Nat → Bool} : ∀ (k j : Nat), (∀ x, j ≤ x → x < j + k → f x = g x) → cnt f j k = cnt g j k := by
  intro k
  induction k with
  | zero => intro j _; rfl
  | succ k ih =>
    intro j hx
    simp only [cnt]
    rw [hx j (by omega) (by omega), ih (j + 1) (fun x a b => hx x (by omega) (by omega))]
/-- one more -/
theorem cnt_one {f g : Nat → Bool} {m : Nat} : ∀ (k j : Nat), (∀ x, x ≠ m → f x = g x) → f m = true → g m = false → j ≤ m → m < j + k → cnt f j k = cnt g j k + 1 := by
  intro k
  induction k with
  | zero => intro j _ _ _ a b; omega
  | succ k ih =>
    intro j hx hf hg a b
    simp only [cnt]
    by_cases e : j = m
    · subst e
      rw [hf, hg, cnt_congr (f := f) (g := g) k (j + 1) (fun x p q => hx x (by omega))]
      simp; omega
    · rw [hx j e, ih (j + 1) hx hf hg (by omega) (by omega)]
      omega
theorem least (p : Nat → Bool) : ∀ n, p n = true → ∃ m, m ≤ n ∧ p m = true ∧ ∀ y, y < m → p y = false := by
  intro n
  induction n using Nat.strongRecOn with
  | ind n ih =>
    intro h
    by_cases c : ∀ y, y < n → p y = false
    · exact ⟨n, Nat.le_refl _, h, c⟩
    · have : ∃ y, y < n ∧ p y = true := Classical.byContradiction fun z => c fun y hy => by
        cases q : p y with
        | false => rfl
        | true => exact absurd ⟨y, hy, q⟩ z
      obtain ⟨y, hy, hp⟩ := this
      obtain ⟨m, a, b, d⟩ := ih y hy hp
      exact ⟨m, by omega, b, d⟩
theorem X0_countGroups_L (wf : WF hd fs sc ov T U) (hN : 12 < N) (hr : RC 2 hd fs sc ov T U w0 w1 h) : ∀ (k j n : Nat) (l2 : Int32), U = j + k → k < n →
    (∀ i, i < 32 → (bt l2 i = true ↔ ∃ s, s < j ∧ ov s = false ∧ bt (grI fs sc ov U (fs s)) i = true)) →
    ∃ l2', f_X0_countGroups_L6 N 2 n (nI (cnt (fun x => mnG fs sc ov U x && bt l2 x) 0 16)) l2 (nI j) h = some (nI (cnt (fun x => mnG fs sc ov U x && bt l2' x) 0 16), h) ∧
      (∀ i, i < 32 → (bt l2' i = true ↔ ∃ s, s < U ∧ ov s = false ∧ bt (grI fs sc ov U (fs s)) i = true)) := by
  have hU12 := wf.2.1
  intro k
  induction k with
  | zero =>
    intro j n l2 e hn hi
    obtain ⟨n, rfl⟩ : ∃ m, n = m + 1 := ⟨n - 1, by omega⟩
    rw [f_X0_countGroups_L6.eq_2, hr.2.1, if_pos (nI_le (by omega) (by omega))]
    refine ⟨l2, rfl, ?_⟩
    rw [show U = j by omega]
    rw [show U = j by omega] at hi
    exact hi
  | succ k ih =>
    intro j n l2 e hn hi
    obtain ⟨n, rfl⟩ : ∃ m, n = m + 1 := ⟨n - 1, by omega⟩
    have hj : j < U := by omega
    obtain ⟨h1, h2⟩ := wf.b16 j hj
    have cj : (nI j).toNatClampNeg = j := nI_clamp (by omega)
    have hcj := nchk2 (j := j) (n := 12) (by omega) (by omega)
    rw [f_X0_countGroups_L6.eq_2]
    simp only [hr.2.1, if_neg (nI_ge hj (show U < 2 ^ 31 by omega)), X0_isOver hr (show j < 12 by omega), qb, X0_sidesOf hr (show j < 12 by omega), cj, if_neg hcj, hr.2.2.2.2.1 j (by omega), X0_groupOf wf hN hr, nI_1]
    cases hv : ov j with
    | true =>
      rw [if_neg bT, qb]
      refine ih (j + 1) n l2 (by omega) (by omega) (fun i hi2 => ?_)
      rw [hi i hi2]
      constructor
      · rintro ⟨x, a, b, c⟩; exact ⟨x, by omega, b, c⟩
      · rintro ⟨x, a, b, c⟩
        by_cases q : x = j
        · subst q; rw [hv] at b; exact absurd b (by simp)
        · exact ⟨x, by omega, b, c⟩
    | false =>
      rw [if_pos bF]
      have cl : bt l2 (fs j) = bt l2 (sc j) := by
        cases q : bt l2 (fs j) with
        | true =>
          obtain ⟨x, a, b, c⟩ := (hi _ (by omega)).mp q
          rw [gr_clo wf (fs x) j hj hv] at c
          exact ((hi _ (by omega)).mpr ⟨x, a, b, c⟩).symm
        | false =>
          cases q2 : bt l2 (sc j) with
          | false => rfl
          | true =>
            obtain ⟨x, a, b, c⟩ := (hi _ (by omega)).mp q2
            rw [← gr_clo wf (fs x) j hj hv] at c
            rw [(hi _ (by omega)).mpr ⟨x, a, b, c⟩] at q
            exact absurd q (by simp)
      by_cases d : l2 &&& sdI fs sc j = 0
      · obtain ⟨d1, d2⟩ := (and_sd h1 h2 l2).mp d
        rw [if_pos d, qb]
        -- the least of the new group
        obtain ⟨m, ml, mb, mm⟩ := least (bt (grI fs sc ov U (fs j))) (fs j) (gr_self h1)
        have m16 : m < 16 := by omega
        have ge := gr_eq wf h1 m16 mb
        have disj : ∀ i, i < 32 → bt (grI fs sc ov U (fs j)) i = true → bt l2 i = false := by
          have cc : clo fs sc ov U (fun i => if i < 32 then !bt l2 i else true) := by
            intro s hs ho
            obtain ⟨b1, b2⟩ := wf.b16 s hs
            have q : bt l2 (fs s) = bt l2 (sc s) := by
              cases q : bt l2 (fs s) with
              | true =>
                obtain ⟨x, a, b, c⟩ := (hi _ (by omega)).mp q
                rw [gr_clo wf (fs x) s hs ho] at c
                exact ((hi _ (by omega)).mpr ⟨x, a, b, c⟩).symm
              | false =>
                cases q2 : bt l2 (sc s) with
                | false => rfl
                | true =>
                  obtain ⟨x, a, b, c⟩ := (hi _ (by omega)).mp q2
                  rw [← gr_clo wf (fs x) s hs ho] at c
                  rw [(hi _ (by omega)).mpr ⟨x, a, b, c⟩] at q
                  exact absurd q (by simp)
            dsimp only
            rw [if_pos (by omega), if_pos (by omega), q]
          intro i hi2 hb
          have := gr_min wf cc h1 (by
            show (if fs j < 32 then !bt l2 (fs j) else true) = true
            rw [if_pos (by omega), d1]; rfl) i hi2 hb
          have this : (if i < 32 then !bt l2 i else true) = true := this
          rw [if_pos hi2] at this
          simpa using this
        have e2 : cnt (fun x => mnG fs sc ov U x && bt (l2 ||| grI fs sc ov U (fs j)) x) 0 16 = cnt (fun x => mnG fs sc ov U x && (decide (x < 16) && bt l2 x)) 0 16 + 1 := by
          have e3 : cnt (fun x => mnG fs sc ov U x && bt (l2 ||| grI fs sc ov U (fs j)) x) 0 16 = cnt (fun x => mnG fs sc ov U x && (decide (x < 16) && bt (l2 ||| grI fs sc ov U (fs j)) x)) 0 16 := cnt_congr 16 0 (fun x a b => by simp [show x < 16 by omega])
          rw [e3]
          refine cnt_one (m := m) 16 0 (fun x hx => ?_) ?_ ?_ (by omega) (by omega)
          · by_cases x16 : x < 16
            · rw [b_or]
              cases q : bt (grI fs sc ov U (fs j)) x with
              | false => simp
              | true =>
                have g2 := gr_eq wf h1 x16 q
                have : mnG fs sc ov U x = false := by
                  unfold mnG
                  rw [decide_eq_false_iff_not]
                  intro z
                  by_cases lt : m < x
                  · have := z m lt
                    rw [← g2, mb] at this
                    exact absurd this (by simp)
                  · have := mm x (by omega)
                    rw [q] at this
                    exact absurd this (by simp)
                rw [this]; rfl
            · simp [x16]
          · have : mnG fs sc ov U m = true := by
              unfold mnG
              rw [decide_eq_true_eq]
              intro y hy
              rw [← ge]; exact mm y hy
            rw [this, b_or, mb]; simp [m16]
          · rw [disj m (by omega) mb]; simp
        have e4 : cnt (fun x => mnG fs sc ov U x && (decide (x < 16) && bt l2 x)) 0 16 = cnt (fun x => mnG fs sc ov U x && bt l2 x) 0 16 := cnt_congr 16 0 (fun x a b => by simp [show x < 16 by omega])
        rw [e4] at e2
        rw [← e2]
        refine ih (j + 1) n _ (by omega) (by omega) (fun i hi2 => ?_)
        rw [b_or, Bool.or_eq_true, hi i hi2]
        constructor
        · rintro (⟨x, a, b, c⟩ | c)
          · exact ⟨x, by omega, b, c⟩
          · exact ⟨j, by omega, hv, c⟩
        · rintro ⟨x, a, b, c⟩
          by_cases q : x = j
          · subst q; exact Or.inr c
          · exact Or.inl ⟨x, by omega, b, c⟩
      · rw [if_neg d, qb]
        have d1 : bt l2 (fs j) = true := by
          cases q : bt l2 (fs j) with
          | true => rfl
          | false => exact absurd ((and_sd h1 h2 l2).mpr ⟨q, by rw [← cl]; exact q⟩) d
        refine ih (j + 1) n l2 (by omega) (by omega) (fun i hi2 => ?_)
        rw [hi i hi2]
        constructor
        · rintro ⟨x, a, b, c⟩; exact ⟨x, by omega, b, c⟩
        · rintro ⟨x, a, b, c⟩
          by_cases q : x = j
          · subst q
            obtain ⟨y, p1, p2, p3⟩ := (hi _ (by omega)).mp d1
            refine ⟨y, p1, p2, ?_⟩
            rw [gr_eq wf (wf.b16 y (by omega)).1 h1 p3]
            exact c
          · exact ⟨x, by omega, b, c⟩
theorem cnt_0 {f : Nat → Bool} (h : ∀ x, f x = false) : ∀ k j, cnt f j k = 0 := by
  intro k
  induction k with
  | zero => intro j; rfl
  | succ k ih => intro j; simp [cnt, h, ih]
theorem tc_fin (wf : WF hd fs sc ov T U) {l2' : Int32} (b : ∀ i, i < 32 → (bt l2' i = true ↔ ∃ s, s < U ∧ ov s = false ∧ bt (grI fs sc ov U (fs s)) i = true)) {x : Nat} (x16 : x < 16) : bt l2' x = tcG fs sc ov U x := by
  cases hv : tcG fs sc ov U x with
  | true =>
    obtain ⟨s, hs, ho, e⟩ := tcG_iff.mp hv
    refine (b x (by omega)).mpr ⟨s, hs, ho, ?_⟩
    obtain ⟨h1, h2⟩ := wf.b16 s hs
    rcases e with rfl | rfl
    · exact gr_self h1
    · rw [← gr_clo wf (fs s) s hs ho]; exact gr_self h1
  | false =>
    cases q2 : bt l2' x with
    | false => rfl
    | true =>
      obtain ⟨s, hs, ho, e⟩ := (b x (by omega)).mp q2
      obtain ⟨h1, h2⟩ := wf.b16 s hs
      have := gr_sym wf h1 x16 e
      rw [alone wf x16 hv, b_one x (by omega) (by omega)] at this
      simp at this
      rw [tcG_iff.mpr ⟨s, hs, ho, Or.inl this⟩] at hv
      exact absurd hv (by simp)
theorem X0_countGroups (wf : WF hd fs sc ov T U) (hN : 12 < N) (hr : RC 2 hd fs sc ov T U w0 w1 h) : f_X0_countGroups N 2 h = some (nI (cnt (fun x => mnG fs sc ov U x && tcG fs sc ov U x) 0 16), h) := by
  have hU12 := wf.2.1
  obtain ⟨l2', a, b⟩ := X0_countGroups_L wf hN hr U 0 N 0 (by omega) (by omega) (fun i hi => by
    rw [b_0]
    constructor
    · intro z; exact absurd z (by simp)
    · rintro ⟨s, z, _⟩; omega)
  have z : cnt (fun x => mnG fs sc ov U x && bt 0 x) 0 16 = 0 := cnt_0 (fun x => by rw [b_0, Bool.and_false]) 16 0
  rw [z] at a
  have a2 : f_X0_countGroups_L6 N 2 N (0 : Int32) 0 (0 : Int32) h = some (nI (cnt (fun x => mnG fs sc ov U x && bt l2' x) 0 16), h) := a
  unfold f_X0_countGroups
  rw [a2, qb]
  have fin : ∀ x, x < 16 → bt l2' x = tcG fs sc ov U x := fun x x16 => tc_fin wf b x16
  have e : cnt (fun x => mnG fs sc ov U x && bt l2' x) 0 16 = cnt (fun x => mnG fs sc ov U x && tcG fs sc ov U x) 0 16 := cnt_congr 16 0 (fun x p q => by rw [fin x (by omega)])
  rw [e]
theorem call_group {N : Nat} (hN : 65536 < N) (a : Int32) {h : qN} (hj : J h) : OKC (f_X5_group N a) (f_X6_group N a) h := by
  obtain ⟨⟨hd, fs, sc, ov, T, U, w0, w1⟩, g, wc, wg, rc, rg, rm, r6⟩ := hj.1
  have wf : WF hd fs sc ov T U := wc.1
  have st : SETT hd fs sc ov U w1 := wc.2
  have hT : T ≤ 8 := wf.1
  by_cases m1 : a = -1
  · subst m1
    refine ⟨nI (cnt (fun x => mnG fs sc ov U x && tcG fs sc ov U x) 0 16), h, h, ?_, ?_, hj⟩
    · unfold f_X5_group
      rw [if_pos rfl, X0_countGroups wf (by omega) rc, qb]
    · unfold f_X6_group
      rw [if_pos rfl, if_pos (by decide)]
      have := X6_group_L32 wf st hN rm 16 0 N 0 (by omega) (by omega) (fun i hi => by
        rw [b_0]
        constructor
        · intro z; exact absurd z (by simp)
        · rintro ⟨s, z, _⟩; omega)
      rw [show f_X6_group_L32 N N 0 0 0 h = _ from this, qb]
  · have t5 := X5_isThing (h := h) (T := T) rc.1 hT a
    have t6 := X6_isThing (h := h) (T := T) rm.1 hT a
    by_cases c : 0 ≤ a.toInt ∧ a.toInt < T
    · obtain ⟨p, hp, rfl, hp2⟩ := ofRange c
      refine ⟨grI fs sc ov U p, h, h, ?_, ?_, hj⟩
      · unfold f_X5_group
        simp only [if_neg m1, t5, qb, if_pos c, one0, if_false, X0_groupOf wf (show 12 < N by omega) rc]
      · unfold f_X6_group
        simp only [if_neg m1, t6, qb, if_pos c, one0, if_false, if_neg (nI_pos hp2), X6_groupOf wf (show 14 < N by omega) rm (show p < 16 by omega)]
    · refine ⟨-1, h, h, ?_, ?_, hj⟩
      · unfold f_X5_group
        simp only [if_neg m1, t5, qb, if_neg c, zero0, if_true]
      · unfold f_X6_group
        simp only [if_neg m1, t6, qb, if_neg c, zero0, if_true]
end Grp2
