/-! ===== pure 16: costs, count, saves, match ===== -/
def coP (co : Nat → Nat) (p : Nat) : Nat := if p = 6 then 0 else co p
def cs1 (hd fs sc : Nat → Nat) (ov : Nat → Bool) (co : Nat → Nat) : Nat → Nat
  | 0 => 0
  | j + 1 => cs1 hd fs sc ov co j + (if ov j = true then 0 else coP co (stN hd (fs j)) + coP co (stN hd (sc j)))
def S6 (F : Nat → Nat) : Nat := F 0 + F 1 + F 2 + F 3 + F 4 + F 5
theorem S6_ind (co : Nat → Nat) {a b : Nat} (ha : a ≤ 6) (hb : b ≤ 6) (h : a = b → a = 6) : S6 (fun p => co p * (decide (a = p) || decide (b = p)).toNat) = coP co a + coP co b := by
  rcases (show a = 0 ∨ a = 1 ∨ a = 2 ∨ a = 3 ∨ a = 4 ∨ a = 5 ∨ a = 6 by omega) with rfl | rfl | rfl | rfl | rfl | rfl | rfl <;>
  rcases (show b = 0 ∨ b = 1 ∨ b = 2 ∨ b = 3 ∨ b = 4 ∨ b = 5 ∨ b = 6 by omega) with rfl | rfl | rfl | rfl | rfl | rfl | rfl <;>
  first
  | (exact absurd (h rfl) (by omega))
  | (simp [S6, coP]; done)
  | (simp [S6, coP]; omega)
theorem cs_eq {hd fs sc : Nat → Nat} {ov : Nat → Bool} {T U : Nat} {w0 w1 : Bool} (wc : WCt (hd, fs, sc, ov, T, U, w0, w1)) (co : Nat → Nat) : ∀ j, j ≤ U → S6 (fun p => co p * cnt (stF hd fs sc ov p) 0 j) = cs1 hd fs sc ov co j := by
  obtain ⟨wf, st⟩ := wc
  have wf : WF hd fs sc ov T U := wf
  intro j
  induction j with
  | zero => intro _; simp [S6, cnt, cs1]
  | succ j ih =>
    intro hj
    have i := ih (by omega)
    obtain ⟨oa, ob⟩ := wf.2.2.2.1 j (by omega)
    have la := (wf.st oa).1
    have lb := (wf.st ob).1
    have e : S6 (fun p => co p * cnt (stF hd fs sc ov p) 0 (j + 1)) = S6 (fun p => co p * cnt (stF hd fs sc ov p) 0 j) + S6 (fun p => co p * (stF hd fs sc ov p j).toNat) := by
      simp only [cnt_last, Nat.zero_add, Nat.mul_add, S6]
      omega
    rw [e, i]
    simp only [cs1]
    congr 1
    cases ho : ov j with
    | true => simp [S6, stF, ho]
    | false =>
      have hs := (st j (by omega : j < U) ho).1
      have hne : stN hd (fs j) = stN hd (sc j) → stN hd (fs j) = 6 := by
        intro q
        unfold endN at hs
        dsimp only at hs
        by_cases c : stN hd (fs j) = 6 ∨ stN hd (sc j) = 6
        · rcases c with c | c
          · exact c
          · rw [q]; exact c
        · rw [if_neg c] at hs
          simp [q] at hs
      have := S6_ind co la lb hne
      simp only [stF, ho, Bool.not_false, Bool.true_and]
      rw [this]
      simp
def cstC (c : Ct) (g : Gt) : Nat := cs1 c.1 c.2.1 c.2.2.1 c.2.2.2.1 g.2.1 c.2.2.2.2.2.1
theorem cs1_le {hd fs sc : Nat → Nat} {ov : Nat → Bool} {co : Nat → Nat} (hc : ∀ k, k < 6 → co k ≤ 99) : ∀ j, (∀ s, s < j → stN hd (fs s) ≤ 6 ∧ stN hd (sc s) ≤ 6) → cs1 hd fs sc ov co j ≤ 198 * j := by
  intro j
  induction j with
  | zero => intro _; simp [cs1]
  | succ j ih =>
    intro h
    have i := ih (fun s hs => h s (by omega))
    obtain ⟨a, b⟩ := h j (by omega)
    have p : ∀ x, x ≤ 6 → coP co x ≤ 99 := by
      intro x hx
      unfold coP
      split
      · omega
      · exact hc x (by omega)
    have pa := p _ a
    have pb := p _ b
    simp only [cs1]
    split <;> omega
theorem cstC_le {c : Ct} {g : Gt} (wc : WCt c) (wg : WGt g) : cstC c g ≤ 2376 := by
  obtain ⟨hd, fs, sc, ov, T, U, w0, w1⟩ := c
  obtain ⟨pu, co, wo, so⟩ := g
  have wf : WF hd fs sc ov T U := wc.1
  have := cs1_le (hd := hd) (fs := fs) (sc := sc) (ov := ov) wg.2.1 U (fun s hs => ⟨(wf.st (wf.2.2.2.1 s hs).1).1, (wf.st (wf.2.2.2.1 s hs).2).1⟩)
  have hU := wf.2.1
  show cs1 hd fs sc ov co U ≤ 2376
  have e : cs1 hd fs sc ov (pu, co, wo, so).2.1 U = cs1 hd fs sc ov co U := rfl
  omega
theorem X0_costTo {co : Nat → Nat} {h : qN} (hc : ∀ k, k < 6 → h 8 k = nI (co k)) {a : Nat} (ha : a ≤ 6) : f_X0_costTo (nI a) 8 6 h = some (nI (coP co a), h) := by
  unfold f_X0_costTo coP
  have en : (nI a = (6 : Int32)) = (a = 6) := propext (nI_eq (a := a) (b := 6) (by omega) (by omega))
  by_cases e : a = 6
  · rw [if_pos (by rw [en]; exact e), if_pos e]; rfl
  · rw [if_neg (by rw [en]; exact e), if_neg e, if_neg (nchk (by omega) (by omega)), nI_clamp (by omega), hc a (by omega)]
theorem X0_costOfAll {N o : Nat} {c : Ct} {g : Gt} {h : qN} (wc : WCt c) (hN : 12 < N) (hr : RCt o c h) (hg : RG1 1 g h) : f_X0_costOfAll N o 8 6 h = some (nI (cstC c g), h) := by
  obtain ⟨hd, fs, sc, ov, T, U, w0, w1⟩ := c
  obtain ⟨pu, co, wo, so⟩ := g
  have wf : WF hd fs sc ov T U := wc.1
  have hr : RC o hd fs sc ov T U w0 w1 h := hr
  have hT := wf.1
  have hU12 := wf.2.1
  obtain ⟨a1, h1, p1, rfl, rfl⟩ := loopA (F := f_X0_costOfAll_L4 N o 8 6) (U := U) (Inv := fun j a h1 => a = nI (cs1 hd fs sc ov co j) ∧ h1 = h)
    (fun n a h1 hi => by
      obtain ⟨-, rfl⟩ := hi
      rw [f_X0_costOfAll_L4.eq_2, hr.2.1, if_pos (nI_le (Nat.le_refl _) (by omega))])
    (fun n j a h1 hj hi => by
      obtain ⟨rfl, rfl⟩ := hi
      obtain ⟨wa, wb⟩ := wf.2.2.2.1 j hj
      have l1 := (wf.st wa).1
      have l2 := (wf.st wb).1
      have cj : (nI j).toNatClampNeg = j := nI_clamp (by omega)
      have hcj := nchk2 (j := j) (n := 12) (by omega) (by omega)
      rw [f_X0_costOfAll_L4.eq_2]
      simp only [hr.2.1, if_neg (nI_ge hj (show U < 2 ^ 31 by omega)), X0_isOver hr (show j < 12 by omega), qb, cj, if_neg hcj, hr.2.2.2.2.1 j (by omega), hr.2.2.2.2.2.1 j (by omega), X0_standing hr hT wa, X0_standing hr hT wb, X0_costTo hg.2.1 l1, X0_costTo hg.2.1 l2, nI_add, nI_1]
      simp only [cs1]
      cases hv : ov j with
      | true =>
        rw [if_neg bT, qb]
        exact ⟨_, _, rfl, by simp, rfl⟩
      | false =>
        rw [if_pos bF, qb]
        exact ⟨_, _, rfl, by simp, rfl⟩)
    U 0 N (nI 0) h (by omega) (by omega) ⟨rfl, rfl⟩
  unfold f_X0_costOfAll
  rw [k0, p1, qb]
  rfl
theorem X6_costAll {N : Nat} {c : Ct} {g : Gt} {h : qN} (wc : WCt c) (hN : 12 < N) (hr : RMt c h) (hg : RG6 g h) : f_X6_costAll N h = some (nI (cstC c g), h) := by
  have st : ∀ p, p < 6 → f_X6_standsIn N (nI p) h = some (nI (skC c p), h) := fun p hp => X6_stoodC wc hp hN hr
  have step : ∀ n p a, p < 6 → f_X6_costAll_L4 N (n + 1) a (nI p) h = f_X6_costAll_L4 N n (a + nI (g.2.1 p * skC c p)) (nI (p + 1)) h := by
    intro n p a hp
    have hc := nchk2 (j := p) (n := 6) hp (by omega)
    rw [f_X6_costAll_L4.eq_2, k6, if_neg (nI_ge hp (by omega))]
    simp only [nI_clamp (show p < 2 ^ 31 by omega), if_neg hc, st p hp, qb, hg.2.1 p hp, pk_mul, nI_1]
  obtain ⟨N', hN'⟩ : ∃ m, N = m + 7 := ⟨N - 7, by omega⟩
  unfold f_X6_costAll
  have run : f_X6_costAll_L4 N (N' + 7) (nI 0) (nI 0) h = some (nI (S6 (fun p => g.2.1 p * skC c p)), h) := by
    rw [step _ 0 _ (by omega), step _ 1 _ (by omega), step _ 2 _ (by omega), step _ 3 _ (by omega), step _ 4 _ (by omega), step _ 5 _ (by omega), f_X6_costAll_L4.eq_2, if_pos (by decide)]
    simp only [nI_add, Nat.zero_add]
    rfl
  rw [← hN'] at run
  rw [k0, run, qb]
  obtain ⟨hd, fs, sc, ov, T, U, w0, w1⟩ := c
  have := cs_eq wc g.2.1 U (Nat.le_refl _)
  dsimp only
  show some (nI (S6 fun p => g.2.1 p * cnt (stF hd fs sc ov p) 0 U), h) = _
  rw [this]
  rfl
/-! bits counted -/
def szF : Nat → Nat → Nat
  | 0, _ => 0
  | n + 1, m => if m = 0 then 0 else szF n (m &&& (m - 1)) + 1
theorem nI_and {a b : Nat} (ha : a < 2 ^ 32) (hb : b < 2 ^ 32) : nI a &&& nI b = nI (a &&& b) := by
  apply Int32.toBitVec_inj.mp
  rw [Int32.toBitVec_and]
  apply BitVec.eq_of_toNat_eq
  rw [BitVec.toNat_and, pk_tn ha, pk_tn hb, pk_tn]
  exact Nat.lt_of_le_of_lt Nat.and_le_left ha
theorem szF_fuel : ∀ (n m k : Nat), m ≤ n → m ≤ k → szF n m = szF k m := by
  intro n
  induction n with
  | zero =>
    intro m k h1 h2
    have : m = 0 := by omega
    subst this
    cases k <;> simp [szF]
  | succ n ih =>
    intro m k h1 h2
    by_cases e : m = 0
    · subst e; cases k <;> simp [szF]
    · obtain ⟨k, rfl⟩ : ∃ j, k = j + 1 := ⟨k - 1, by omega⟩
      simp only [szF, if_neg e]
      have : m &&& (m - 1) ≤ m - 1 := Nat.and_le_right
      rw [ih (m &&& (m - 1)) k (by omega) (by omega)]
theorem X6_size_L {N : Nat} {h : qN} : ∀ (m n a : Nat), m < n → m < 2 ^ 31 → f_X6_size_L4 N n (nI a) (nI m) h = some (nI (a + szF m m), h) := by
  intro m
  induction m using Nat.strongRecOn with
  | ind m ih =>
    intro n a hn hm
    obtain ⟨n, rfl⟩ : ∃ j, n = j + 1 := ⟨n - 1, by omega⟩
    rw [f_X6_size_L4.eq_2]
    by_cases e : m = 0
    · subst e
      rw [if_pos (show nI 0 = 0 from rfl)]; rfl
    · rw [if_neg (nI_ne0 (by omega) hm)]
      have hle : m &&& (m - 1) ≤ m - 1 := Nat.and_le_right
      have e2 : nI m &&& (nI m - (1 : Int32)) = nI (m &&& (m - 1)) := by
        rw [show (1 : Int32) = nI 1 from rfl, pk_sub (by omega), nI_and (by omega) (by omega)]
      rw [e2, nI_1, ih (m &&& (m - 1)) (by omega) n (a + 1) (by omega) (by omega)]
      obtain ⟨k, rfl⟩ : ∃ j, m = j + 1 := ⟨m - 1, by omega⟩
      simp only [szF, if_neg e]
      rw [szF_fuel _ _ k (Nat.le_refl _) (by omega)]
      congr 3
      omega
theorem X6_size {N m : Nat} {h : qN} (hm : m < N) (hm2 : m < 2 ^ 31) : f_X6_size N (nI m) h = some (nI (szF m m), h) := by
  unfold f_X6_size
  rw [k0, X6_size_L m N 0 hm hm2, qb, Nat.zero_add]
def bcV (a0 : Int32) : Int32 :=
  let x := a0 - ((a0.toUInt32 >>> ((1 : Int32).toUInt32 &&& Int32.toUInt32 31)).toInt32 &&& (1431655765 : Int32))
  let y := (x &&& (858993459 : Int32)) + ((x.toUInt32 >>> ((2 : Int32).toUInt32 &&& Int32.toUInt32 31)).toInt32 &&& (858993459 : Int32))
  let z := (y + (y.toUInt32 >>> ((4 : Int32).toUInt32 &&& Int32.toUInt32 31)).toInt32) &&& (252645135 : Int32)
  let u := z + (z.toUInt32 >>> ((8 : Int32).toUInt32 &&& Int32.toUInt32 31)).toInt32
  (u + (u.toUInt32 >>> ((16 : Int32).toUInt32 &&& Int32.toUInt32 31)).toInt32) &&& (63 : Int32)
theorem bc_eq (a : Int32) (h : qN) : f_J6_bitCount_0f7a4 a h = some (bcV a, h) := rfl
theorem bc_all2 : ∀ i, i < 64 → ∀ j, j < 64 → bcV (nI (64 * i + j)) = nI (szF 13 (64 * i + j)) ∧ szF 13 (64 * i + j) = szF (64 * i + j) (64 * i + j) := by decide +kernel
theorem bc_all (m : Nat) (hm : m < 4096) : bcV (nI m) = nI (szF 13 m) ∧ szF 13 m = szF m m := by
  have := bc_all2 (m / 64) (by omega) (m % 64) (by omega)
  rwa [show 64 * (m / 64) + m % 64 = m by omega] at this
theorem OVW.num {w : Int32} {ov : Nat → Bool} (h : OVW w ov) : ∃ m, m < 4096 ∧ w = nI m := by
  refine ⟨w.toBitVec.toNat % 2 ^ 12, by omega, ?_⟩
  rw [← pk_and w (m := 4095) 12 (by decide)]
  apply b_ext
  intro i hi
  rw [b_and]
  have : ∀ i, i < 32 → bt 4095 i = decide (i < 12) := by decide +kernel
  rw [this i hi, h i hi]
  cases decide (i < 12) <;> simp
theorem call_count {N : Nat} (hN : 4096 < N) (a : Int32) {h : qN} (hj : J h) : OKC (f_X5_count N a) (f_X6_count N a) h := by
  obtain ⟨c, g, wc, wg, rc, rg, rm, r6⟩ := hj.1
  have hN2 : 12 < N := by omega
  by_cases e0 : a = 0
  · subst e0
    refine ⟨nI c.2.2.2.2.1, h, h, ?_, ?_, hj⟩
    · unfold f_X5_count
      simp only [ne_m2_m2, ne_m2_m1, ne_m2_0, ne_m2_1, ne_m2_2, ne_m2_3, ne_m2_4, ne_m1_m2, ne_m1_m1, ne_m1_0, ne_m1_1, ne_m1_2, ne_m1_3, ne_m1_4, ne_0_m2, ne_0_m1, ne_0_0, ne_0_1, ne_0_2, ne_0_3, ne_0_4, ne_1_m2, ne_1_m1, ne_1_0, ne_1_1, ne_1_2, ne_1_3, ne_1_4, ne_2_m2, ne_2_m1, ne_2_0, ne_2_1, ne_2_2, ne_2_3, ne_2_4, ne_3_m2, ne_3_m1, ne_3_0, ne_3_1, ne_3_2, ne_3_3, ne_3_4, ne_4_m2, ne_4_m1, ne_4_0, ne_4_1, ne_4_2, ne_4_3, ne_4_4, nn_0_m2, nn_0_m1, nn_0_0, nn_0_1, nn_0_2, nn_0_3, nn_0_4, nn_1_m2, nn_1_m1, nn_1_0, nn_1_1, nn_1_2, nn_1_3, nn_1_4, nn_2_m2, nn_2_m1, nn_2_0, nn_2_1, nn_2_2, nn_2_3, nn_2_4, nn_3_m2, nn_3_m1, nn_3_0, nn_3_1, nn_3_2, nn_3_3, nn_3_4, nn_4_m2, nn_4_m1, nn_4_0, nn_4_1, nn_4_2, nn_4_3, nn_4_4, if_true, show h 2 4 = nI c.2.2.2.2.1 from rc.1]
    · unfold f_X6_count
      simp only [ne_m2_m2, ne_m2_m1, ne_m2_0, ne_m2_1, ne_m2_2, ne_m2_3, ne_m2_4, ne_m1_m2, ne_m1_m1, ne_m1_0, ne_m1_1, ne_m1_2, ne_m1_3, ne_m1_4, ne_0_m2, ne_0_m1, ne_0_0, ne_0_1, ne_0_2, ne_0_3, ne_0_4, ne_1_m2, ne_1_m1, ne_1_0, ne_1_1, ne_1_2, ne_1_3, ne_1_4, ne_2_m2, ne_2_m1, ne_2_0, ne_2_1, ne_2_2, ne_2_3, ne_2_4, ne_3_m2, ne_3_m1, ne_3_0, ne_3_1, ne_3_2, ne_3_3, ne_3_4, ne_4_m2, ne_4_m1, ne_4_0, ne_4_1, ne_4_2, ne_4_3, ne_4_4, nn_0_m2, nn_0_m1, nn_0_0, nn_0_1, nn_0_2, nn_0_3, nn_0_4, nn_1_m2, nn_1_m1, nn_1_0, nn_1_1, nn_1_2, nn_1_3, nn_1_4, nn_2_m2, nn_2_m1, nn_2_0, nn_2_1, nn_2_2, nn_2_3, nn_2_4, nn_3_m2, nn_3_m1, nn_3_0, nn_3_1, nn_3_2, nn_3_3, nn_3_4, nn_4_m2, nn_4_m1, nn_4_0, nn_4_1, nn_4_2, nn_4_3, nn_4_4, if_true, show h 60 3 = nI c.2.2.2.2.1 from rm.1]
  · by_cases e1 : a = 1
    · subst e1
      refine ⟨nI c.2.2.2.2.2.1, h, h, ?_, ?_, hj⟩
      · unfold f_X5_count
        simp only [ne_m2_m2, ne_m2_m1, ne_m2_0, ne_m2_1, ne_m2_2, ne_m2_3, ne_m2_4, ne_m1_m2, ne_m1_m1, ne_m1_0, ne_m1_1, ne_m1_2, ne_m1_3, ne_m1_4, ne_0_m2, ne_0_m1, ne_0_0, ne_0_1, ne_0_2, ne_0_3, ne_0_4, ne_1_m2, ne_1_m1, ne_1_0, ne_1_1, ne_1_2, ne_1_3, ne_1_4, ne_2_m2, ne_2_m1, ne_2_0, ne_2_1, ne_2_2, ne_2_3, ne_2_4, ne_3_m2, ne_3_m1, ne_3_0, ne_3_1, ne_3_2, ne_3_3, ne_3_4, ne_4_m2, ne_4_m1, ne_4_0, ne_4_1, ne_4_2, ne_4_3, ne_4_4, nn_0_m2, nn_0_m1, nn_0_0, nn_0_1, nn_0_2, nn_0_3, nn_0_4, nn_1_m2, nn_1_m1, nn_1_0, nn_1_1, nn_1_2, nn_1_3, nn_1_4, nn_2_m2, nn_2_m1, nn_2_0, nn_2_1, nn_2_2, nn_2_3, nn_2_4, nn_3_m2, nn_3_m1, nn_3_0, nn_3_1, nn_3_2, nn_3_3, nn_3_4, nn_4_m2, nn_4_m1, nn_4_0, nn_4_1, nn_4_2, nn_4_3, nn_4_4, if_true, if_false, show h 2 5 = nI c.2.2.2.2.2.1 from rc.2.1]
      · unfold f_X6_count
        simp only [ne_m2_m2, ne_m2_m1, ne_m2_0, ne_m2_1, ne_m2_2, ne_m2_3, ne_m2_4, ne_m1_m2, ne_m1_m1, ne_m1_0, ne_m1_1, ne_m1_2, ne_m1_3, ne_m1_4, ne_0_m2, ne_0_m1, ne_0_0, ne_0_1, ne_0_2, ne_0_3, ne_0_4, ne_1_m2, ne_1_m1, ne_1_0, ne_1_1, ne_1_2, ne_1_3, ne_1_4, ne_2_m2, ne_2_m1, ne_2_0, ne_2_1, ne_2_2, ne_2_3, ne_2_4, ne_3_m2, ne_3_m1, ne_3_0, ne_3_1, ne_3_2, ne_3_3, ne_3_4, ne_4_m2, ne_4_m1, ne_4_0, ne_4_1, ne_4_2, ne_4_3, ne_4_4, nn_0_m2, nn_0_m1, nn_0_0, nn_0_1, nn_0_2, nn_0_3, nn_0_4, nn_1_m2, nn_1_m1, nn_1_0, nn_1_1, nn_1_2, nn_1_3, nn_1_4, nn_2_m2, nn_2_m1, nn_2_0, nn_2_1, nn_2_2, nn_2_3, nn_2_4, nn_3_m2, nn_3_m1, nn_3_0, nn_3_1, nn_3_2, nn_3_3, nn_3_4, nn_4_m2, nn_4_m1, nn_4_0, nn_4_1, nn_4_2, nn_4_3, nn_4_4, if_true, if_false, show h 60 6 = nI c.2.2.2.2.2.1 from rm.2.1]
    · by_cases e2 : a = 2
      · subst e2
        obtain ⟨m, hm, q⟩ := OVW.num rc.2.2.1
        have q6 : h 60 9 = nI m := by rw [← q]; exact OVW.uniq rm.2.2.1 rc.2.2.1
        obtain ⟨b1, b2⟩ := bc_all m hm
        refine ⟨nI (szF m m), h, h, ?_, ?_, hj⟩
        · unfold f_X5_count
          simp only [ne_m2_m2, ne_m2_m1, ne_m2_0, ne_m2_1, ne_m2_2, ne_m2_3, ne_m2_4, ne_m1_m2, ne_m1_m1, ne_m1_0, ne_m1_1, ne_m1_2, ne_m1_3, ne_m1_4, ne_0_m2, ne_0_m1, ne_0_0, ne_0_1, ne_0_2, ne_0_3, ne_0_4, ne_1_m2, ne_1_m1, ne_1_0, ne_1_1, ne_1_2, ne_1_3, ne_1_4, ne_2_m2, ne_2_m1, ne_2_0, ne_2_1, ne_2_2, ne_2_3, ne_2_4, ne_3_m2, ne_3_m1, ne_3_0, ne_3_1, ne_3_2, ne_3_3, ne_3_4, ne_4_m2, ne_4_m1, ne_4_0, ne_4_1, ne_4_2, ne_4_3, ne_4_4, nn_0_m2, nn_0_m1, nn_0_0, nn_0_1, nn_0_2, nn_0_3, nn_0_4, nn_1_m2, nn_1_m1, nn_1_0, nn_1_1, nn_1_2, nn_1_3, nn_1_4, nn_2_m2, nn_2_m1, nn_2_0, nn_2_1, nn_2_2, nn_2_3, nn_2_4, nn_3_m2, nn_3_m1, nn_3_0, nn_3_1, nn_3_2, nn_3_3, nn_3_4, nn_4_m2, nn_4_m1, nn_4_0, nn_4_1, nn_4_2, nn_4_3, nn_4_4, if_true, if_false, q, bc_eq, qb, b1, b2]
        · unfold f_X6_count
          simp only [ne_m2_m2, ne_m2_m1, ne_m2_0, ne_m2_1, ne_m2_2, ne_m2_3, ne_m2_4, ne_m1_m2, ne_m1_m1, ne_m1_0, ne_m1_1, ne_m1_2, ne_m1_3, ne_m1_4, ne_0_m2, ne_0_m1, ne_0_0, ne_0_1, ne_0_2, ne_0_3, ne_0_4, ne_1_m2, ne_1_m1, ne_1_0, ne_1_1, ne_1_2, ne_1_3, ne_1_4, ne_2_m2, ne_2_m1, ne_2_0, ne_2_1, ne_2_2, ne_2_3, ne_2_4, ne_3_m2, ne_3_m1, ne_3_0, ne_3_1, ne_3_2, ne_3_3, ne_3_4, ne_4_m2, ne_4_m1, ne_4_0, ne_4_1, ne_4_2, ne_4_3, ne_4_4, nn_0_m2, nn_0_m1, nn_0_0, nn_0_1, nn_0_2, nn_0_3, nn_0_4, nn_1_m2, nn_1_m1, nn_1_0, nn_1_1, nn_1_2, nn_1_3, nn_1_4, nn_2_m2, nn_2_m1, nn_2_0, nn_2_1, nn_2_2, nn_2_3, nn_2_4, nn_3_m2, nn_3_m1, nn_3_0, nn_3_1, nn_3_2, nn_3_3, nn_3_4, nn_4_m2, nn_4_m1, nn_4_0, nn_4_1, nn_4_2, nn_4_3, nn_4_4, if_true, if_false, q6, X6_size (show m < N by omega) (show m < 2 ^ 31 by omega), qb]
      · by_cases e3 : a = 3
        · subst e3
          refine ⟨nI (cstC c g), h, h, ?_, ?_, hj⟩
          · unfold f_X5_count
            simp only [ne_m2_m2, ne_m2_m1, ne_m2_0, ne_m2_1, ne_m2_2, ne_m2_3, ne_m2_4, ne_m1_m2, ne_m1_m1, ne_m1_0, ne_m1_1, ne_m1_2, ne_m1_3, ne_m1_4, ne_0_m2, ne_0_m1, ne_0_0, ne_0_1, ne_0_2, ne_0_3, ne_0_4, ne_1_m2, ne_1_m1, ne_1_0, ne_1_1, ne_1_2, ne_1_3, ne_1_4, ne_2_m2, ne_2_m1, ne_2_0, ne_2_1, ne_2_2, ne_2_3, ne_2_4, ne_3_m2, ne_3_m1, ne_3_0, ne_3_1, ne_3_2, ne_3_3, ne_3_4, ne_4_m2, ne_4_m1, ne_4_0, ne_4_1, ne_4_2, ne_4_3, ne_4_4, nn_0_m2, nn_0_m1, nn_0_0, nn_0_1, nn_0_2, nn_0_3, nn_0_4, nn_1_m2, nn_1_m1, nn_1_0, nn_1_1, nn_1_2, nn_1_3, nn_1_4, nn_2_m2, nn_2_m1, nn_2_0, nn_2_1, nn_2_2, nn_2_3, nn_2_4, nn_3_m2, nn_3_m1, nn_3_0, nn_3_1, nn_3_2, nn_3_3, nn_3_4, nn_4_m2, nn_4_m1, nn_4_0, nn_4_1, nn_4_2, nn_4_3, nn_4_4, if_true, if_false, X0_costOfAll wc hN2 rc rg, qb]
          · unfold f_X6_count
            simp only [ne_m2_m2, ne_m2_m1, ne_m2_0, ne_m2_1, ne_m2_2, ne_m2_3, ne_m2_4, ne_m1_m2, ne_m1_m1, ne_m1_0, ne_m1_1, ne_m1_2, ne_m1_3, ne_m1_4, ne_0_m2, ne_0_m1, ne_0_0, ne_0_1, ne_0_2, ne_0_3, ne_0_4, ne_1_m2, ne_1_m1, ne_1_0, ne_1_1, ne_1_2, ne_1_3, ne_1_4, ne_2_m2, ne_2_m1, ne_2_0, ne_2_1, ne_2_2, ne_2_3, ne_2_4, ne_3_m2, ne_3_m1, ne_3_0, ne_3_1, ne_3_2, ne_3_3, ne_3_4, ne_4_m2, ne_4_m1, ne_4_0, ne_4_1, ne_4_2, ne_4_3, ne_4_4, nn_0_m2, nn_0_m1, nn_0_0, nn_0_1, nn_0_2, nn_0_3, nn_0_4, nn_1_m2, nn_1_m1, nn_1_0, nn_1_1, nn_1_2, nn_1_3, nn_1_4, nn_2_m2, nn_2_m1, nn_2_0, nn_2_1, nn_2_2, nn_2_3, nn_2_4, nn_3_m2, nn_3_m1, nn_3_0, nn_3_1, nn_3_2, nn_3_3, nn_3_4, nn_4_m2, nn_4_m1, nn_4_0, nn_4_1, nn_4_2, nn_4_3, nn_4_4, if_true, if_false, X6_costAll wc hN2 rm r6, qb]
        · by_cases e4 : a = 4
          · subst e4
            refine ⟨g.2.2.2, h, h, ?_, ?_, hj⟩
            · unfold f_X5_count
              simp only [ne_m2_m2, ne_m2_m1, ne_m2_0, ne_m2_1, ne_m2_2, ne_m2_3, ne_m2_4, ne_m1_m2, ne_m1_m1, ne_m1_0, ne_m1_1, ne_m1_2, ne_m1_3, ne_m1_4, ne_0_m2, ne_0_m1, ne_0_0, ne_0_1, ne_0_2, ne_0_3, ne_0_4, ne_1_m2, ne_1_m1, ne_1_0, ne_1_1, ne_1_2, ne_1_3, ne_1_4, ne_2_m2, ne_2_m1, ne_2_0, ne_2_1, ne_2_2, ne_2_3, ne_2_4, ne_3_m2, ne_3_m1, ne_3_0, ne_3_1, ne_3_2, ne_3_3, ne_3_4, ne_4_m2, ne_4_m1, ne_4_0, ne_4_1, ne_4_2, ne_4_3, ne_4_4, nn_0_m2, nn_0_m1, nn_0_0, nn_0_1, nn_0_2, nn_0_3, nn_0_4, nn_1_m2, nn_1_m1, nn_1_0, nn_1_1, nn_1_2, nn_1_3, nn_1_4, nn_2_m2, nn_2_m1, nn_2_0, nn_2_1, nn_2_2, nn_2_3, nn_2_4, nn_3_m2, nn_3_m1, nn_3_0, nn_3_1, nn_3_2, nn_3_3, nn_3_4, nn_4_m2, nn_4_m1, nn_4_0, nn_4_1, nn_4_2, nn_4_3, nn_4_4, if_true, if_false, show h 1 4 = g.2.2.2 from rg.2.2.2]
            · unfold f_X6_count
              simp only [ne_m2_m2, ne_m2_m1, ne_m2_0, ne_m2_1, ne_m2_2, ne_m2_3, ne_m2_4, ne_m1_m2, ne_m1_m1, ne_m1_0, ne_m1_1, ne_m1_2, ne_m1_3, ne_m1_4, ne_0_m2, ne_0_m1, ne_0_0, ne_0_1, ne_0_2, ne_0_3, ne_0_4, ne_1_m2, ne_1_m1, ne_1_0, ne_1_1, ne_1_2, ne_1_3, ne_1_4, ne_2_m2, ne_2_m1, ne_2_0, ne_2_1, ne_2_2, ne_2_3, ne_2_4, ne_3_m2, ne_3_m1, ne_3_0, ne_3_1, ne_3_2, ne_3_3, ne_3_4, ne_4_m2, ne_4_m1, ne_4_0, ne_4_1, ne_4_2, ne_4_3, ne_4_4, nn_0_m2, nn_0_m1, nn_0_0, nn_0_1, nn_0_2, nn_0_3, nn_0_4, nn_1_m2, nn_1_m1, nn_1_0, nn_1_1, nn_1_2, nn_1_3, nn_1_4, nn_2_m2, nn_2_m1, nn_2_0, nn_2_1, nn_2_2, nn_2_3, nn_2_4, nn_3_m2, nn_3_m1, nn_3_0, nn_3_1, nn_3_2, nn_3_3, nn_3_4, nn_4_m2, nn_4_m1, nn_4_0, nn_4_1, nn_4_2, nn_4_3, nn_4_4, if_true, if_false, show h 60 10 = g.2.2.2 from r6.2.2.2]
          · refine ⟨-1, h, h, ?_, ?_, hj⟩
            · unfold f_X5_count
              simp only [if_neg e0, if_neg e1, if_neg e2, if_neg e3, if_neg e4]
            · unfold f_X6_count
              simp only [if_neg e0, if_neg e1, if_neg e2, if_neg e3, if_neg e4]
/-! saves, match -/
def svC (c : Ct) (g : Gt) (a b : Nat) : Int32 := nI (cstC c g) - nI (cstC (wdC c a b) g)
theorem X5_saves_ok {N : Nat} {c : Ct} {g : Gt} {h : qN} (wc : WCt c) {a b : Nat} (ha : a < 6) (hb : b < 6) (hab : a ≠ b) (hN : 12 < N) (hr : RCt 2 c h) (hg : RG1 1 g h) :
    ∃ h1, f_X5_saves N (nI a) (nI b) h = some (svC c g a b, h1) ∧ Off (PC 19) h h1 := by
  have aa : 0 ≤ (nI a).toInt ∧ (nI a).toInt < 6 := by rw [nI_toInt (by omega)]; omega
  have ab : 0 ≤ (nI b).toInt ∧ (nI b).toInt < 6 := by rw [nI_toInt (by omega)]; omega
  have ey : (nI a = nI b) = (a = b) := propext (nI_eq (by omega) (by omega))
  obtain ⟨h1, a1, b1, c1⟩ := X0_becomeC (o := 19) (r1 := 2) (by omega) hr
  obtain ⟨h2, a2, b2, c2⟩ := X0_marryC wc ha hb hN b1
  have o := c1.tr c2
  refine ⟨h2, ?_, o⟩
  unfold f_X5_saves
  simp only [X5_isPerson, X6_isPerson, X5_isWithin, X6_in, a64, qb, one0, zero0, if_true, if_false, L0, L1, L2, L4, L5, L6, L9, L10, L15, L16, L60, L99, L999, I0, I1, I6, I9, I16, I60, I99, I999, if_pos aa, if_pos ab, ey, if_neg hab, a1, a2, X0_costOfAll wc hN (hr.p19 o) (hg.p19 o), X0_costOfAll (wc.wd ha) hN b2 (hg.p19 o)]
  rfl
theorem X6_savesOf_ok {N : Nat} {c : Ct} {g : Gt} {h : qN} (wc : WCt c) {a b : Nat} (ha : a < 6) (hb : b < 6) (hN : 12 < N) (hr : RMt c h) (hg : RG6 g h) :
    ∃ h1, f_X6_savesOf N (nI a) (nI b) h = some (svC c g a b, h1) ∧ RMt c h1 ∧ RG6 g h1 ∧ Off P6 h h1 := by
  obtain ⟨h1, a1, b1, c1⟩ := X6_keeps hN hr
  obtain ⟨h2, a2, b2, c2⟩ := X6_wedsC wc ha hb hN (RM.pk hr c1)
  have g2 := (hg.pk c1).pm c2
  obtain ⟨h3, a3, b3, c3⟩ := X6_back hN (b1.pm c2) b2 rfl
  refine ⟨h3, ?_, b3, g2.pm c3, ((c1.weaken PK_6).tr (c2.weaken PM_6)).tr (c3.weaken PM_6)⟩
  unfold f_X6_savesOf
  simp only [X6_costAll wc hN hr hg, qb, a1, a2, X6_costAll (wc.wd ha) hN b2 g2, a3]
  rfl
theorem call_saves {N : Nat} (hN : 12 < N) (a b : Int32) {h : qN} (hj : J h) : OKC (f_X5_saves N a b) (f_X6_saves N a b) h := by
  obtain ⟨c, g, wc, wg, rc, rg, rm, r6⟩ := hj.1
  by_cases ca : 0 ≤ a.toInt ∧ a.toInt < 6
  · by_cases cb : 0 ≤ b.toInt ∧ b.toInt < 6
    · obtain ⟨p, hp, rfl, hp2⟩ := ofRange ca
      obtain ⟨q, hq, rfl, hq2⟩ := ofRange cb
      have ey : (nI p = nI q) = (p = q) := propext (nI_eq (by omega) (by omega))
      by_cases n1 : p = q
      · refine ⟨-100001, h, h, ?_, ?_, hj⟩
        · unfold f_X5_saves
          simp only [X5_isPerson, X6_isPerson, X5_isWithin, X6_in, a64, qb, one0, zero0, if_true, if_false, L0, L1, L2, L4, L5, L6, L9, L10, L15, L16, L60, L99, L999, I0, I1, I6, I9, I16, I60, I99, I999, if_pos ca, if_pos cb, ey, if_pos n1]
        · unfold f_X6_saves
          simp only [X5_isPerson, X6_isPerson, X5_isWithin, X6_in, a64, qb, one0, zero0, if_true, if_false, L0, L1, L2, L4, L5, L6, L9, L10, L15, L16, L60, L99, L999, I0, I1, I6, I9, I16, I60, I99, I999, if_pos ca, if_pos cb, ey, if_pos n1]
      · obtain ⟨h1, a1, c1⟩ := X5_saves_ok wc (show p < 6 by omega) (show q < 6 by omega) n1 hN rc rg
        have o5 := c1.weaken PC19_5
        have rm5 : RMt c h1 := RM.p5 rm o5
        obtain ⟨h2, a2, b2, c2, d2⟩ := X6_savesOf_ok wc (show p < 6 by omega) (show q < 6 by omega) hN rm5 (r6.p5 o5)
        refine ⟨_, h1, h2, a1, ?_, hj.bld wc wg (rc.p19 c1) (rg.p19 c1) b2 c2 o5 d2⟩
        unfold f_X6_saves
        simp only [X5_isPerson, X6_isPerson, X5_isWithin, X6_in, a64, qb, one0, zero0, if_true, if_false, L0, L1, L2, L4, L5, L6, L9, L10, L15, L16, L60, L99, L999, I0, I1, I6, I9, I16, I60, I99, I999, if_pos ca, if_pos cb, ey, if_neg n1, a2]
    · refine ⟨-100001, h, h, ?_, ?_, hj⟩
      · unfold f_X5_saves
        simp only [X5_isPerson, X6_isPerson, X5_isWithin, X6_in, a64, qb, one0, zero0, if_true, if_false, L0, L1, L2, L4, L5, L6, L9, L10, L15, L16, L60, L99, L999, I0, I1, I6, I9, I16, I60, I99, I999, if_pos ca, if_neg cb]
      · unfold f_X6_saves
        simp only [X5_isPerson, X6_isPerson, X5_isWithin, X6_in, a64, qb, one0, zero0, if_true, if_false, L0, L1, L2, L4, L5, L6, L9, L10, L15, L16, L60, L99, L999, I0, I1, I6, I9, I16, I60, I99, I999, if_pos ca, if_neg cb]
  · refine ⟨-100001, h, h, ?_, ?_, hj⟩
    · unfold f_X5_saves
      simp only [X5_isPerson, X6_isPerson, X5_isWithin, X6_in, a64, qb, one0, zero0, if_true, if_false, L0, L1, L2, L4, L5, L6, L9, L10, L15, L16, L60, L99, L999, I0, I1, I6, I9, I16, I60, I99, I999, if_neg ca]
    · unfold f_X6_saves
      simp only [X5_isPerson, X6_isPerson, X5_isWithin, X6_in, a64, qb, one0, zero0, if_true, if_false, L0, L1, L2, L4, L5, L6, L9, L10, L15, L16, L60, L99, L999, I0, I1, I6, I9, I16, I60, I99, I999, if_neg ca]
def m22 (sv : Nat → Nat → Int32) (l3 : Nat) : Nat → Int32 → Int32 → Nat → Int32 × Int32
  | 0, l1, l2, _ => (l1, l2)
  | k + 1, l1, l2, l4 => if sv l3 l4 ≤ l2 then m22 sv l3 k l1 l2 (l4 + 1) else m22 sv l3 k ((10 : Int32) * nI l3 + nI l4) (sv l3 l4) (l4 + 1)
def m11 (sv : Nat → Nat → Int32) : Nat → Int32 → Int32 → Nat → Int32
  | 0, l1, _, _ => l1
  | k + 1, l1, l2, l3 => m11 sv k (m22 sv l3 (5 - l3) l1 l2 (l3 + 1)).1 (m22 sv l3 (5 - l3) l1 l2 (l3 + 1)).2 (l3 + 1)
theorem X5_match_L22 {N : Nat} {c : Ct} {g : Gt} (wc : WCt c) (hN : 12 < N) {l3 : Nat} (h3 : l3 < 6) : ∀ (k l4 n : Nat) (l1 l2 : Int32) (h : qN), 6 = l4 + k → l3 < l4 → k < n → RCt 2 c h → RG1 1 g h →
    ∃ h1, f_X5_match_L22 N (nI l3) n l1 l2 (nI l4) h = some ((m22 (svC c g) l3 k l1 l2 l4).1, (m22 (svC c g) l3 k l1 l2 l4).2, h1) ∧ Off (PC 19) h h1 := by
  intro k
  induction k with
  | zero =>
    intro l4 n l1 l2 h e hl hn rc rg
    obtain ⟨n, rfl⟩ : ∃ m, n = m + 1 := ⟨n - 1, by omega⟩
    rw [f_X5_match_L22.eq_2, show l4 = 6 by omega, if_pos (by decide)]
    exact ⟨h, rfl, Off.rf⟩
  | succ k ih =>
    intro l4 n l1 l2 h e hl hn rc rg
    obtain ⟨n, rfl⟩ : ∃ m, n = m + 1 := ⟨n - 1, by omega⟩
    obtain ⟨h1, a1, c1⟩ := X5_saves_ok wc h3 (show l4 < 6 by omega) (by omega) hN rc rg
    rw [f_X5_match_L22.eq_2, k6, if_neg (nI_ge (by omega) (by omega)), a1, qb]
    dsimp only
    simp only [m22]
    by_cases q : svC c g l3 l4 ≤ l2
    · rw [if_pos q, if_pos q, qb, nI_1]
      obtain ⟨h2, a2, c2⟩ := ih (l4 + 1) n l1 l2 h1 (by omega) (by omega) (by omega) (rc.p19 c1) (rg.p19 c1)
      exact ⟨h2, a2, c1.tr c2⟩
    · rw [if_neg q, if_neg q, qb, nI_1]
      obtain ⟨h2, a2, c2⟩ := ih (l4 + 1) n _ _ h1 (by omega) (by omega) (by omega) (rc.p19 c1) (rg.p19 c1)
      exact ⟨h2, a2, c1.tr c2⟩
theorem X5_match_L11 {N : Nat} {c : Ct} {g : Gt} (wc : WCt c) (hN : 12 < N) : ∀ (k l3 n : Nat) (l1 l2 : Int32) (h : qN), 6 = l3 + k → k < n → RCt 2 c h → RG1 1 g h →
    ∃ h1, f_X5_match_L11 N n l1 l2 (nI l3) h = some (m11 (svC c g) k l1 l2 l3, h1) ∧ Off (PC 19) h h1 := by
  intro k
  induction k with
  | zero =>
    intro l3 n l1 l2 h e hn rc rg
    obtain ⟨n, rfl⟩ : ∃ m, n = m + 1 := ⟨n - 1, by omega⟩
    rw [f_X5_match_L11.eq_2, show l3 = 6 by omega, if_pos (by decide)]
    exact ⟨h, rfl, Off.rf⟩
  | succ k ih =>
    intro l3 n l1 l2 h e hn rc rg
    obtain ⟨n, rfl⟩ : ∃ m, n = m + 1 := ⟨n - 1, by omega⟩
    obtain ⟨h1, a1, c1⟩ := X5_match_L22 wc hN (show l3 < 6 by omega) (5 - l3) (l3 + 1) N l1 l2 h (by omega) (by omega) (by omega) rc rg
    rw [f_X5_match_L11.eq_2, k6, if_neg (nI_ge (by omega) (by omega)), nI_1, a1, qb]
    dsimp only
    obtain ⟨h2, a2, c2⟩ := ih (l3 + 1) n _ _ h1 (by omega) (by omega) (rc.p19 c1) (rg.p19 c1)
    exact ⟨h2, a2, c1.tr c2⟩
theorem X6_match_L22 {N : Nat} {c : Ct} {g : Gt} (wc : WCt c) (hN : 12 < N) {l3 : Nat} (h3 : l3 < 6) : ∀ (k l4 n : Nat) (l1 l2 : Int32) (h : qN), 6 = l4 + k → l3 < l4 → k < n → RMt c h → RG6 g h →
    ∃ h1, f_X6_match_L22 N (nI l3) n l1 l2 (nI l4) h = some ((m22 (svC c g) l3 k l1 l2 l4).1, (m22 (svC c g) l3 k l1 l2 l4).2, h1) ∧ RMt c h1 ∧ RG6 g h1 ∧ Off P6 h h1 := by
  intro k
  induction k with
  | zero =>
    intro l4 n l1 l2 h e hl hn rc rg
    obtain ⟨n, rfl⟩ : ∃ m, n = m + 1 := ⟨n - 1, by omega⟩
    rw [f_X6_match_L22.eq_2, show l4 = 6 by omega, if_pos (by decide)]
    exact ⟨h, rfl, rc, rg, Off.rf⟩
  | succ k ih =>
    intro l4 n l1 l2 h e hl hn rc rg
    obtain ⟨n, rfl⟩ : ∃ m, n = m + 1 := ⟨n - 1, by omega⟩
    obtain ⟨h1, a1, b1, c1, d1⟩ := X6_savesOf_ok wc h3 (show l4 < 6 by omega) hN rc rg
    rw [f_X6_match_L22.eq_2, k6, if_neg (nI_ge (by omega) (by omega)), a1, qb]
    dsimp only
    simp only [m22]
    by_cases q : svC c g l3 l4 ≤ l2
    · rw [if_pos q, if_pos q, if_pos q, nI_1]
      obtain ⟨h2, a2, b2, c2, d2⟩ := ih (l4 + 1) n l1 l2 h1 (by omega) (by omega) (by omega) b1 c1
      exact ⟨h2, a2, b2, c2, d1.tr d2⟩
    · rw [if_neg q, if_neg q, if_neg q, nI_1]
      obtain ⟨h2, a2, b2, c2, d2⟩ := ih (l4 + 1) n _ _ h1 (by omega) (by omega) (by omega) b1 c1
      exact ⟨h2, a2, b2, c2, d1.tr d2⟩
theorem X6_match_L11 {N : Nat} {c : Ct} {g : Gt} (wc : WCt c) (hN : 12 < N) : ∀ (k l3 n : Nat) (l1 l2 : Int32) (h : qN), 6 = l3 + k → k < n → RMt c h → RG6 g h →
    ∃ h1, f_X6_match_L11 N n l1 l2 (nI l3) h = some (m11 (svC c g) k l1 l2 l3, h1) ∧ RMt c h1 ∧ RG6 g h1 ∧ Off P6 h h1 := by
  intro k
  induction k with
  | zero =>
    intro l3 n l1 l2 h e hn rc rg
    obtain ⟨n, rfl⟩ : ∃ m, n = m + 1 := ⟨n - 1, by omega⟩
    rw [f_X6_match_L11.eq_2, show l3 = 6 by omega, if_pos (by decide)]
    exact ⟨h, rfl, rc, rg, Off.rf⟩
  | succ k ih =>
    intro l3 n l1 l2 h e hn rc rg
    obtain ⟨n, rfl⟩ : ∃ m, n = m + 1 := ⟨n - 1, by omega⟩
    obtain ⟨h1, a1, b1, c1, d1⟩ := X6_match_L22 wc hN (show l3 < 6 by omega) (5 - l3) (l3 + 1) N l1 l2 h (by omega) (by omega) (by omega) rc rg
    rw [f_X6_match_L11.eq_2, k6, if_neg (nI_ge (by omega) (by omega)), nI_1, a1, qb]
    dsimp only
    obtain ⟨h2, a2, b2, c2, d2⟩ := ih (l3 + 1) n _ _ h1 (by omega) (by omega) b1 c1
    exact ⟨h2, a2, b2, c2, d1.tr d2⟩
theorem call_match {N : Nat} (hN : 12 < N) {h : qN} (hj : J h) : OKC (f_X5_match N) (f_X6_match N) h := by
  obtain ⟨c, g, wc, wg, rc, rg, rm, r6⟩ := hj.1
  obtain ⟨h1, a1, c1⟩ := X5_saves_ok wc (a := 0) (b := 1) (by omega) (by omega) (by omega) hN rc rg
  obtain ⟨h2, a2, c2⟩ := X5_match_L11 wc hN 6 0 N 1 (svC c g 0 1) h1 (by omega) (by omega) (rc.p19 c1) (rg.p19 c1)
  have o := c1.tr c2
  have o5 := o.weaken PC19_5
  obtain ⟨h3, a3, b3, c3, d3⟩ := X6_savesOf_ok wc (a := 0) (b := 1) (by omega) (by omega) hN (RM.p5 rm o5) (r6.p5 o5)
  obtain ⟨h4, a4, b4, c4, d4⟩ := X6_match_L11 wc hN 6 0 N 1 (svC c g 0 1) h3 (by omega) (by omega) b3 c3
  refine ⟨m11 (svC c g) 6 1 (svC c g 0 1) 0, h2, h4, ?_, ?_, hj.bld wc wg (rc.p19 o) (rg.p19 o) b4 c4 o5 (d3.tr d4)⟩
  · unfold f_X5_match
    rw [show (0 : Int32) = nI 0 from rfl, show (1 : Int32) = nI 1 from rfl, a1, qb]
    dsimp only
    rw [show nI 1 = (1 : Int32) from rfl, a2, qb]
  · unfold f_X6_match
    rw [show (0 : Int32) = nI 0 from rfl, show (1 : Int32) = nI 1 from rfl, a3, qb]
    dsimp only
    rw [show nI 1 = (1 : Int32) from rfl, a4, qb]
