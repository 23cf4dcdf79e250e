/-! ===== pure 15: agreed, rest ===== -/
def pzC (c : Ct) (g : Gt) (t y : Nat) : Int := if 0 < 1 - gnC c g t y (c.1 t) then 1 - gnC c g t y (c.1 t) else 0
def agC (c : Ct) (g : Gt) (t y : Nat) : Option Nat := if c.1 t = 6 ∨ c.1 t = y then none else if pzC c g t y < gnC c g t y y ∧ pzC c g t y ≤ (g.1 y : Int) then some (pzC c g t y).toNat else none
theorem pzC_le {c : Ct} {g : Gt} (wc : WCt c) (wg : WGt g) {t y : Nat} (ht : t < c.2.2.2.2.1) (hne : c.1 t ≠ y) (h6 : c.1 t < 6) : 0 ≤ pzC c g t y ∧ pzC c g t y ≤ 100 := by
  have := gnC_seller wc wg ht hne h6
  unfold pzC
  split <;> omega
theorem agC_le {c : Ct} {g : Gt} (wc : WCt c) (wg : WGt g) {t y q : Nat} (ht : t < c.2.2.2.2.1) (h : agC c g t y = some q) : c.1 t ≠ 6 ∧ c.1 t ≠ y ∧ q ≤ 100 ∧ q ≤ g.1 y ∧ zI (pzC c g t y) = nI q := by
  unfold agC at h
  by_cases e : c.1 t = 6 ∨ c.1 t = y
  · rw [if_pos e] at h; exact absurd h (by simp)
  · rw [if_neg e] at h
    have h6 : c.1 t < 6 := by
      have := wc.1.2.2.1 t ht
      omega
    have hz := pzC_le wc wg ht (fun z => e (Or.inr z)) h6
    by_cases d : pzC c g t y < gnC c g t y y ∧ pzC c g t y ≤ (g.1 y : Int)
    · rw [if_pos d] at h
      have hq : (pzC c g t y).toNat = q := Option.some.inj h
      refine ⟨fun z => e (Or.inl z), fun z => e (Or.inr z), by omega, by omega, ?_⟩
      rw [nI_z]
      congr 1
      omega
    · rw [if_neg d] at h; exact absurd h (by simp)
def agV (o : Option Nat) : Int32 := match o with | none => -4 | some q => nI q
theorem pz_I (s : Int) (hs : -5000 ≤ s ∧ s ≤ 5000) : (if (0 : Int32) < (1 : Int32) - zI s then (1 : Int32) - zI s else (0 : Int32)) = zI (if 0 < 1 - s then 1 - s else 0) ∧ (if (0 : Int32) ≤ (1 : Int32) - zI s then (1 : Int32) - zI s else (0 : Int32)) = zI (if 0 < 1 - s then 1 - s else 0) := by
  have e : (1 : Int32) - zI s = zI (1 - s) := by rw [show (1 : Int32) = zI 1 from rfl, zI_sub]
  rw [e, show (0 : Int32) = zI 0 from rfl]
  have l1 := zI_lt (a := 0) (b := 1 - s) (by omega) (by omega)
  have l2 := zI_le (a := 0) (b := 1 - s) (by omega) (by omega)
  constructor
  · by_cases c : 0 < 1 - s
    · rw [if_pos (l1.mpr c), if_pos c]
    · rw [if_neg (fun z => c (l1.mp z)), if_neg c]
  · by_cases c : 0 < 1 - s
    · rw [if_pos (l2.mpr (by omega)), if_pos c]
    · rw [if_neg c]
      by_cases d : 0 ≤ 1 - s
      · rw [if_pos (l2.mpr d), show (1 - s) = 0 by omega]
      · rw [if_neg (fun z => d (l2.mp z))]
theorem X5_agreed_ok {N : Nat} {c : Ct} {g : Gt} {h : qN} (wc : WCt c) (wg : WGt g) {t y : Nat} (ht : t < c.2.2.2.2.1) (hy : y < 6) (hN : 12 < N) (hr : RCt 2 c h) (hg : RG1 1 g h) :
    ∃ h1, f_X5_agreed N (nI t) (nI y) h = some (if c.1 t = 6 ∨ c.1 t = y then -2 else agV (agC c g t y), h1) ∧ Off (PC 19) h h1 := by
  have h6 : c.1 t ≤ 6 := wc.1.2.2.1 t ht
  have hT : c.2.2.2.2.1 ≤ 8 := wc.1.1
  have t5 := X5_isThing (h := h) hr.1 hT (nI t)
  have at1 : 0 ≤ (nI t).toInt ∧ (nI t).toInt < (c.2.2.2.2.1 : Int) := by rw [nI_toInt (by omega)]; omega
  have ay1 : 0 ≤ (nI y).toInt ∧ (nI y).toInt < 6 := by rw [nI_toInt (by omega)]; omega
  have ct : (nI t).toNatClampNeg = t := nI_clamp (by omega)
  have cy : (nI y).toNatClampNeg = y := nI_clamp (by omega)
  have hct := nchk2 (j := t) (n := 8) (by omega) (by omega)
  have hcy := nchk2 (j := y) (n := 6) (by omega) (by omega)
  have e4 : h 4 t = nI (c.1 t) := hr.2.2.2.1 t (by omega)
  have ey : (nI (c.1 t) = nI y) = (c.1 t = y) := propext (nI_eq (by omega) (by omega))
  have en : (nI (c.1 t) = (6 : Int32)) = (c.1 t = 6) := propext (nI_eq (a := c.1 t) (b := 6) (by omega) (by omega))
  unfold f_X5_agreed
  simp only [t5, X5_isPerson, X6_isPerson, X5_isWithin, X6_in, a64, qb, one0, zero0, if_true, if_false, L0, L1, L2, L4, L5, L6, L9, L10, L15, L16, L60, L99, L999, I0, I1, I6, I9, I16, I60, I99, I999, if_pos at1, if_pos ay1, ct, cy, if_neg hct, if_neg hcy, e4, ey, en]
  by_cases n6 : c.1 t = 6
  · rw [if_pos n6, if_pos (Or.inl n6)]
    exact ⟨h, rfl, Off.rf⟩
  · rw [if_neg n6]
    by_cases n1 : c.1 t = y
    · rw [if_pos n1, if_pos (Or.inr n1)]
      exact ⟨h, rfl, Off.rf⟩
    · have nn : ¬ (c.1 t = 6 ∨ c.1 t = y) := by intro z; rcases z with z | z; exact n6 z; exact n1 z
      rw [if_neg n1, if_neg nn]
      obtain ⟨h1, a1, b1, c1⟩ := X5_trySale (y := y) wc ht (by omega) hN hr
      have g1 := hg.p19 c1
      have r1 := hr.p19 c1
      have bs := gnC_le (t := t) (y := y) (p := c.1 t) wc wg ht (by omega) h6
      have bb := gnC_le (t := t) (y := y) (p := y) wc wg ht (by omega) (by omega)
      have hz := pzC_le wc wg ht n1 (by omega)
      have py := wg.1 y hy
      have e7 : h1 7 y = nI (g.1 y) := g1.1 y hy
      have p1 : (if (0 : Int32) < (1 : Int32) - zI (gnC c g t y (c.1 t)) then (1 : Int32) - zI (gnC c g t y (c.1 t)) else (0 : Int32)) = zI (pzC c g t y) := (pz_I _ (by omega)).1
      have q1 : ((999 : Int32) < zI (pzC c g t y)) = False := eq_false (by rw [show (999 : Int32) = zI 999 from rfl, zI_lt (by omega) (by omega)]; omega)
      have q2 : (nI (g.1 y) < zI (pzC c g t y)) = ((g.1 y : Int) < pzC c g t y) := propext (by rw [nI_z, zI_lt (by omega) (by omega)])
      have q3 : (zI (gnC c g t y y) ≤ zI (pzC c g t y)) = (gnC c g t y y ≤ pzC c g t y) := propext (zI_le (by omega) (by omega))
      refine ⟨h1, ?_, c1⟩
      simp only [a1, qb, X5_gainOf wc ht (show y ≤ 6 by omega) h6 hN r1 b1 g1, X5_gainOf wc ht (show y ≤ 6 by omega) (show y ≤ 6 by omega) hN r1 b1 g1, p1, q1, if_false, e7, q2, q3]
      unfold agC
      rw [if_neg nn]
      by_cases d1 : (g.1 y : Int) < pzC c g t y
      · rw [if_pos d1, if_neg (by omega)]
        rfl
      · rw [if_neg d1]
        by_cases d2 : gnC c g t y y ≤ pzC c g t y
        · rw [if_pos d2, if_neg (by omega)]
          rfl
        · rw [if_neg d2, if_pos (by omega)]
          show some (zI (pzC c g t y), h1) = some (nI (pzC c g t y).toNat, h1)
          rw [nI_z]
          congr 3
          omega
theorem X6_priceOf_ok {N : Nat} {c : Ct} {g : Gt} {h : qN} (wc : WCt c) (wg : WGt g) {t y : Nat} (ht : t < c.2.2.2.2.1) (hy : y < 6) (n6 : c.1 t ≠ 6) (n1 : c.1 t ≠ y) (hN : 12 < N) (hr : RMt c h) (hg : RG6 g h) :
    ∃ h1, f_X6_priceOf N (nI t) (nI y) h = some (agV (agC c g t y), h1) ∧ RMt c h1 ∧ RG6 g h1 ∧ Off P6 h h1 := by
  have h6 : c.1 t ≤ 6 := wc.1.2.2.1 t ht
  have hT : c.2.2.2.2.1 ≤ 8 := wc.1.1
  have ct : (nI t).toNatClampNeg = t := nI_clamp (by omega)
  have cy : (nI y).toNatClampNeg = y := nI_clamp (by omega)
  have hct := nchk2 (j := t) (n := 8) (by omega) (by omega)
  have hcy := nchk2 (j := y) (n := 6) (by omega) (by omega)
  have e4 : h 64 t = nI (c.1 t) := hr.2.2.2.1 t (by omega)
  have nn : ¬ (c.1 t = 6 ∨ c.1 t = y) := by intro z; rcases z with z | z; exact n6 z; exact n1 z
  obtain ⟨h1, a1, b1, c1, d1⟩ := X6_gainOf (t := t) (y := y) (p := c.1 t) wc ht (by omega) h6 hN hr hg
  obtain ⟨h2, a2, b2, c2, d2⟩ := X6_gainOf (t := t) (y := y) (p := y) wc ht (by omega) (by omega) hN b1 c1
  have bs := gnC_le (t := t) (y := y) (p := c.1 t) wc wg ht (by omega) h6
  have bb := gnC_le (t := t) (y := y) (p := y) wc wg ht (by omega) (by omega)
  have hz := pzC_le wc wg ht n1 (by omega)
  have py := wg.1 y hy
  have e7 : h2 61 y = nI (g.1 y) := c2.1 y hy
  have p1 : (if (0 : Int32) ≤ (1 : Int32) - zI (gnC c g t y (c.1 t)) then (1 : Int32) - zI (gnC c g t y (c.1 t)) else (0 : Int32)) = zI (pzC c g t y) := (pz_I _ (by omega)).2
  have q2 : (nI (g.1 y) < zI (pzC c g t y)) = ((g.1 y : Int) < pzC c g t y) := propext (by rw [nI_z, zI_lt (by omega) (by omega)])
  have q3 : (zI (gnC c g t y y - pzC c g t y) ≤ (0 : Int32)) = (gnC c g t y y - pzC c g t y ≤ 0) := propext (by rw [show (0 : Int32) = zI 0 from rfl, zI_le (by omega) (by omega)])
  refine ⟨h2, ?_, b2, c2, d1.tr d2⟩
  unfold f_X6_priceOf
  simp only [ct, cy, if_neg hct, if_neg hcy, e4, a1, a2, qb, p1, zI_sub, e7, q2, q3]
  unfold agC
  rw [if_neg nn]
  by_cases d2 : gnC c g t y y - pzC c g t y ≤ 0
  · rw [if_pos d2, if_neg (by omega)]
    rfl
  · rw [if_neg d2]
    by_cases d1 : (g.1 y : Int) < pzC c g t y
    · rw [if_pos d1, if_neg (by omega)]
      rfl
    · rw [if_neg d1, if_pos (by omega)]
      show some (zI (pzC c g t y), h2) = some (nI (pzC c g t y).toNat, h2)
      rw [nI_z]
      congr 3
      omega
theorem call_agreed {N : Nat} (hN : 12 < N) (a b : Int32) {h : qN} (hj : J h) : OKC (f_X5_agreed N a b) (f_X6_agreed N a b) h := by
  obtain ⟨c, g, wc, wg, rc, rg, rm, r6⟩ := hj.1
  have hT : c.2.2.2.2.1 ≤ 8 := wc.1.1
  have t5 := X5_isThing (h := h) rc.1 hT a
  have t6 := X6_isThing (h := h) rm.1 hT a
  by_cases ca : 0 ≤ a.toInt ∧ a.toInt < (c.2.2.2.2.1 : Int)
  · by_cases cb : 0 ≤ b.toInt ∧ b.toInt < 6
    · obtain ⟨t, ht, rfl, ht2⟩ := ofRange ca
      obtain ⟨y, hy, rfl, hy2⟩ := ofRange cb
      have ht3 : t < c.2.2.2.2.1 := by omega
      have hy3 : y < 6 := by omega
      have h6 : c.1 t ≤ 6 := wc.1.2.2.1 t ht3
      obtain ⟨h1, a1, c1⟩ := X5_agreed_ok (t := t) (y := y) wc wg ht3 hy3 hN rc rg
      have o5 := c1.weaken PC19_5
      have rm5 : RMt c h1 := RM.p5 rm o5
      have r65 := r6.p5 o5
      have ct : (nI t).toNatClampNeg = t := nI_clamp (by omega)
      have hct := nchk2 (j := t) (n := 8) (by omega) (by omega)
      have f4 : h1 64 t = nI (c.1 t) := rm5.2.2.2.1 t (by omega)
      have t6' := X6_isThing (h := h1) rm5.1 hT (nI t)
      have ey : (nI (c.1 t) = nI y) = (c.1 t = y) := propext (nI_eq (by omega) (by omega))
      have en : (nI (c.1 t) = (6 : Int32)) = (c.1 t = 6) := propext (nI_eq (a := c.1 t) (b := 6) (by omega) (by omega))
      by_cases n6 : c.1 t = 6
      · rw [if_pos (Or.inl n6)] at a1
        refine ⟨-2, h1, h1, a1, ?_, hj.bld wc wg (rc.p19 c1) (rg.p19 c1) rm5 r65 o5 Off.rf⟩
        unfold f_X6_agreed
        simp only [t6', X5_isPerson, X6_isPerson, X5_isWithin, X6_in, a64, qb, one0, zero0, if_true, if_false, L0, L1, L2, L4, L5, L6, L9, L10, L15, L16, L60, L99, L999, I0, I1, I6, I9, I16, I60, I99, I999, if_pos ca, if_pos cb, ct, if_neg hct, f4, en, if_pos n6]
      · by_cases n1 : c.1 t = y
        · rw [if_pos (Or.inr n1)] at a1
          refine ⟨-2, h1, h1, a1, ?_, hj.bld wc wg (rc.p19 c1) (rg.p19 c1) rm5 r65 o5 Off.rf⟩
          unfold f_X6_agreed
          simp only [t6', X5_isPerson, X6_isPerson, X5_isWithin, X6_in, a64, qb, one0, zero0, if_true, if_false, L0, L1, L2, L4, L5, L6, L9, L10, L15, L16, L60, L99, L999, I0, I1, I6, I9, I16, I60, I99, I999, if_pos ca, if_pos cb, ct, if_neg hct, f4, en, ey, if_neg n6, if_pos n1]
        · have nn : ¬ (c.1 t = 6 ∨ c.1 t = y) := by intro z; rcases z with z | z; exact n6 z; exact n1 z
          rw [if_neg nn] at a1
          obtain ⟨h2, a2, b2, c2, d2⟩ := X6_priceOf_ok wc wg ht3 hy3 n6 n1 hN rm5 r65
          refine ⟨_, h1, h2, a1, ?_, hj.bld wc wg (rc.p19 c1) (rg.p19 c1) b2 c2 o5 d2⟩
          unfold f_X6_agreed
          simp only [t6', X5_isPerson, X6_isPerson, X5_isWithin, X6_in, a64, qb, one0, zero0, if_true, if_false, L0, L1, L2, L4, L5, L6, L9, L10, L15, L16, L60, L99, L999, I0, I1, I6, I9, I16, I60, I99, I999, if_pos ca, if_pos cb, ct, if_neg hct, f4, en, ey, if_neg n6, if_neg n1, a2]
    · refine ⟨-1, h, h, ?_, ?_, hj⟩
      · unfold f_X5_agreed
        simp only [t5, X5_isPerson, X6_isPerson, X5_isWithin, X6_in, a64, qb, one0, zero0, if_true, if_false, L0, L1, L2, L4, L5, L6, L9, L10, L15, L16, L60, L99, L999, I0, I1, I6, I9, I16, I60, I99, I999, if_pos ca, if_neg cb]
      · unfold f_X6_agreed
        simp only [t6, X5_isPerson, X6_isPerson, X5_isWithin, X6_in, a64, qb, one0, zero0, if_true, if_false, L0, L1, L2, L4, L5, L6, L9, L10, L15, L16, L60, L99, L999, I0, I1, I6, I9, I16, I60, I99, I999, if_pos ca, if_neg cb]
  · refine ⟨-1, h, h, ?_, ?_, hj⟩
    · unfold f_X5_agreed
      simp only [t5, X5_isPerson, X6_isPerson, X5_isWithin, X6_in, a64, qb, one0, zero0, if_true, if_false, L0, L1, L2, L4, L5, L6, L9, L10, L15, L16, L60, L99, L999, I0, I1, I6, I9, I16, I60, I99, I999, if_neg ca]
    · unfold f_X6_agreed
      simp only [t6, X5_isPerson, X6_isPerson, X5_isWithin, X6_in, a64, qb, one0, zero0, if_true, if_false, L0, L1, L2, L4, L5, L6, L9, L10, L15, L16, L60, L99, L999, I0, I1, I6, I9, I16, I60, I99, I999, if_neg ca]
/-! rest -/
def fnd (A : Nat → Option Nat) : Nat → Nat → Option (Nat × Nat)
  | 0, _ => none
  | k + 1, l => match A l with
    | some q => some (l, q)
    | none => fnd A k (l + 1)
theorem fnd_add (A : Nat → Option Nat) : ∀ (k m l : Nat), fnd A (k + m) l = match fnd A k l with | some r => some r | none => fnd A m (l + k) := by
  intro k
  induction k with
  | zero => intro m l; simp [fnd]
  | succ k ih =>
    intro m l
    rw [show k + 1 + m = (k + m) + 1 by omega]
    simp only [fnd]
    cases A l with
    | some q => rfl
    | none =>
      show fnd A (k + m) (l + 1) = _
      rw [ih m (l + 1), show l + 1 + k = l + (k + 1) by omega]
def agL (c : Ct) (g : Gt) (l : Nat) : Option Nat := agC c g (l / 6) (l % 6)
/-- the state behind an agreed sale -/
def sdC (c : Ct) (g : Gt) (t y q : Nat) : Ct × Gt := (mvC c t y, (puS c.1 g.1 t y q, g.2.1, g.2.2.1, g.2.2.2 + 1))
theorem X4_sellC {N : Nat} {c : Ct} {g : Gt} {h : qN} {t y q : Nat} (wc : WCt c) (wg : WGt g) (ht : t < c.2.2.2.2.1) (hy : y < 6) (hne : c.1 t ≠ y) (hq : q ≤ g.1 y) (hN : 12 < N) (rc : RCt 2 c h) (rg : RG1 1 g h) :
    ∃ h1 v, f_X4_sell N 1 (nI t) (nI y) (nI q) h = some (v, h1) ∧ RCt 2 (sdC c g t y q).1 h1 ∧ RG1 1 (sdC c g t y q).2 h1 ∧ Off P5 h h1 := by
  obtain ⟨hd, fs, sc, ov, T, U, w0, w1⟩ := c
  obtain ⟨pu, co, wo, so⟩ := g
  obtain ⟨h1, a, b⟩ := X4_sell_ok wc wg ht hy hne hq hN rc rg
  exact ⟨h1, _, a, b⟩
theorem X6_saleC {N : Nat} {c : Ct} {g : Gt} {h : qN} {t y q : Nat} (wc : WCt c) (wg : WGt g) (ht : t < c.2.2.2.2.1) (hy : y < 6) (hne : c.1 t ≠ y) (hq : q ≤ g.1 y) (hq9 : q ≤ 999) (hN : 12 < N) (rm : RMt c h) (r6 : RG6 g h) :
    ∃ h1 v, f_X6_sale N (nI t) (nI y) (nI q) h = some (v, h1) ∧ RMt (sdC c g t y q).1 h1 ∧ RG6 (sdC c g t y q).2 h1 ∧ Off P6 h h1 := by
  obtain ⟨hd, fs, sc, ov, T, U, w0, w1⟩ := c
  obtain ⟨pu, co, wo, so⟩ := g
  obtain ⟨h1, a, b⟩ := X6_sale_ok wc wg ht hy hne hq hq9 hN rm r6
  exact ⟨h1, _, a, b⟩
theorem WGt.sd {c : Ct} {g : Gt} (wg : WGt g) {t y q : Nat} (hy : y < 6) : WGt (sdC c g t y q).2 := by
  obtain ⟨pu, co, wo, so⟩ := g
  exact ⟨puS_le wg.1 hy, wg.2⟩
/-- an end of a search for a sale, on the class's side -/
def E5 (c : Ct) (g : Gt) (r : Option (Nat × Nat)) (h h1 : qN) : Prop := match r with
  | none => RCt 2 c h1 ∧ RG1 1 g h1 ∧ Off P5 h h1
  | some (l, q) => RCt 2 (sdC c g (l / 6) (l % 6) q).1 h1 ∧ RG1 1 (sdC c g (l / 6) (l % 6) q).2 h1 ∧ Off P5 h h1
def E6 (c : Ct) (g : Gt) (r : Option (Nat × Nat)) (h h1 : qN) : Prop := match r with
  | none => RMt c h1 ∧ RG6 g h1 ∧ Off P6 h h1
  | some (l, q) => RMt (sdC c g (l / 6) (l % 6) q).1 h1 ∧ RG6 (sdC c g (l / 6) (l % 6) q).2 h1 ∧ Off P6 h h1
def E5v (r : Option (Nat × Nat)) (h1 : qN) : (Int32 × qN) ⊕ qN := match r with | none => .inr h1 | some _ => .inl (1, h1)
theorem E5.tr {c : Ct} {g : Gt} {r : Option (Nat × Nat)} {h h1 h2 : qN} (o : Off P5 h h1) (e : E5 c g r h1 h2) : E5 c g r h h2 := by
  cases r with
  | none => exact ⟨e.1, e.2.1, o.tr e.2.2⟩
  | some x => exact ⟨e.1, e.2.1, o.tr e.2.2⟩
theorem E6.tr {c : Ct} {g : Gt} {r : Option (Nat × Nat)} {h h1 h2 : qN} (o : Off P6 h h1) (e : E6 c g r h1 h2) : E6 c g r h h2 := by
  cases r with
  | none => exact ⟨e.1, e.2.1, o.tr e.2.2⟩
  | some x => exact ⟨e.1, e.2.1, o.tr e.2.2⟩
theorem agV_neg (o : Option Nat) (ho : ∀ q, o = some q → q ≤ 1000) : (agV o < 0) ↔ o = none := by
  cases o with
  | none => simp only [agV]; exact ⟨fun _ => trivial, fun _ => by decide⟩
  | some q =>
    have := ho q rfl
    simp only [agV]
    exact ⟨fun z => absurd z (nI_pos (by omega)), fun z => absurd z (by simp)⟩
theorem MFA_L18 {N : Nat} {c : Ct} {g : Gt} (wc : WCt c) (wg : WGt g) {t : Nat} (ht : t < c.2.2.2.2.1) (hN : 12 < N) : ∀ (k y n : Nat) (h : qN), 6 = y + k → k < n → RCt 2 c h → RG1 1 g h →
    ∃ h1, f_X5_makeFirstAgreed_L18 N (nI t) n (nI y) h = some (E5v (fnd (agL c g) k (6 * t + y)) h1) ∧ E5 c g (fnd (agL c g) k (6 * t + y)) h h1 := by
  have hT : c.2.2.2.2.1 ≤ 8 := wc.1.1
  intro k
  induction k with
  | zero =>
    intro y n h hy hn rc rg
    obtain ⟨n, rfl⟩ : ∃ m, n = m + 1 := ⟨n - 1, by omega⟩
    rw [f_X5_makeFirstAgreed_L18.eq_2, show y = 6 by omega, if_pos (by decide)]
    exact ⟨h, rfl, rc, rg, Off.rf⟩
  | succ k ih =>
    intro y n h hy hn rc rg
    obtain ⟨n, rfl⟩ : ∃ m, n = m + 1 := ⟨n - 1, by omega⟩
    obtain ⟨h1, a1, c1⟩ := X5_agreed_ok (t := t) (y := y) wc wg ht (by omega) hN rc rg
    have o5 := c1.weaken PC19_5
    have r1 := rc.p19 c1
    have g1 := rg.p19 c1
    have el : agL c g (6 * t + y) = agC c g t y := by
      unfold agL
      rw [show (6 * t + y) / 6 = t by omega, show (6 * t + y) % 6 = y by omega]
    rw [f_X5_makeFirstAgreed_L18.eq_2, k6, if_neg (nI_ge (by omega) (by omega)), a1, qb]
    dsimp only
    simp only [fnd, el]
    cases ha : agC c g t y with
    | none =>
      have neg : (if c.1 t = 6 ∨ c.1 t = y then (-2 : Int32) else agV none) < 0 := by
        split <;> decide
      rw [if_pos neg, nI_1]
      obtain ⟨h2, a2, b2⟩ := ih (y + 1) n h1 (by omega) (by omega) r1 g1
      exact ⟨h2, a2, b2.tr o5⟩
    | some q =>
      obtain ⟨n6, n1, q1, q2, q3⟩ := agC_le wc wg ht ha
      have nn : ¬ (c.1 t = 6 ∨ c.1 t = y) := by intro z; rcases z with z | z; exact n6 z; exact n1 z
      rw [if_neg nn, show agV (some q) = nI q from rfl, if_neg (nI_pos (by omega))]
      obtain ⟨h2, v, a2, b2, c2, d2⟩ := X4_sellC (q := q) wc wg ht (show y < 6 by omega) n1 q2 hN r1 g1
      rw [a2, qb]
      refine ⟨h2, rfl, ?_⟩
      show RCt 2 (sdC c g ((6 * t + y) / 6) ((6 * t + y) % 6) q).1 h2 ∧ RG1 1 (sdC c g ((6 * t + y) / 6) ((6 * t + y) % 6) q).2 h2 ∧ Off P5 h h2
      rw [show (6 * t + y) / 6 = t by omega, show (6 * t + y) % 6 = y by omega]
      exact ⟨b2, c2, o5.tr d2⟩
theorem MFA_L2 {N : Nat} {c : Ct} {g : Gt} (wc : WCt c) (wg : WGt g) (hN : 12 < N) : ∀ (k t n : Nat) (h : qN), c.2.2.2.2.1 = t + k → k < n → RCt 2 c h → RG1 1 g h →
    ∃ h1, f_X5_makeFirstAgreed_L2 N n (nI t) h = some (E5v (fnd (agL c g) (6 * k) (6 * t)) h1) ∧ E5 c g (fnd (agL c g) (6 * k) (6 * t)) h h1 := by
  have hT : c.2.2.2.2.1 ≤ 8 := wc.1.1
  intro k
  induction k with
  | zero =>
    intro t n h ht hn rc rg
    obtain ⟨n, rfl⟩ : ∃ m, n = m + 1 := ⟨n - 1, by omega⟩
    rw [f_X5_makeFirstAgreed_L2.eq_2, show h 2 4 = nI c.2.2.2.2.1 from rc.1, if_pos (nI_le (by omega) (by omega))]
    exact ⟨h, rfl, rc, rg, Off.rf⟩
  | succ k ih =>
    intro t n h ht hn rc rg
    obtain ⟨n, rfl⟩ : ∃ m, n = m + 1 := ⟨n - 1, by omega⟩
    obtain ⟨h1, a1, b1⟩ := MFA_L18 wc wg (t := t) (by omega) hN 6 0 N h (by omega) (by omega) rc rg
    rw [f_X5_makeFirstAgreed_L2.eq_2, show h 2 4 = nI c.2.2.2.2.1 from rc.1, if_neg (nI_ge (by omega) (by omega)), k0, a1, qb]
    rw [show 6 * (k + 1) = 6 + 6 * k by omega, fnd_add]
    rw [Nat.add_zero] at b1 ⊢
    cases hf : fnd (agL c g) 6 (6 * t) with
    | none =>
      rw [hf] at b1
      obtain ⟨x1, x2, x3⟩ := b1
      obtain ⟨h2, a2, b2⟩ := ih (t + 1) n h1 (by omega) (by omega) x1 x2
      dsimp only [E5v]
      rw [nI_1]
      refine ⟨h2, ?_, ?_⟩
      · rw [show 6 * t + 6 = 6 * (t + 1) by omega]; exact a2
      · rw [show 6 * t + 6 = 6 * (t + 1) by omega]; exact b2.tr x3
    | some r =>
      rw [hf] at b1
      exact ⟨h1, rfl, b1⟩
theorem X6_deals_L {N : Nat} {c : Ct} {g : Gt} (wc : WCt c) (wg : WGt g) (hN : 12 < N) : ∀ (k l n : Nat) (h : qN), 6 * c.2.2.2.2.1 = l + k → k < n → RMt c h → RG6 g h →
    ∃ h1, f_X6_deals_L2 N n (nI l) h = some (E5v (fnd (agL c g) k l) h1) ∧ E6 c g (fnd (agL c g) k l) h h1 := by
  have hT : c.2.2.2.2.1 ≤ 8 := wc.1.1
  intro k
  induction k with
  | zero =>
    intro l n h hl hn rm r6
    obtain ⟨n, rfl⟩ : ∃ m, n = m + 1 := ⟨n - 1, by omega⟩
    rw [f_X6_deals_L2.eq_2, show h 60 3 = nI c.2.2.2.2.1 from rm.1, k6, pk_mul, if_pos (nI_le (by omega) (by omega))]
    exact ⟨h, rfl, rm, r6, Off.rf⟩
  | succ k ih =>
    intro l n h hl hn rm r6
    obtain ⟨n, rfl⟩ : ∃ m, n = m + 1 := ⟨n - 1, by omega⟩
    have ht : l / 6 < c.2.2.2.2.1 := by omega
    have h6 : c.1 (l / 6) ≤ 6 := wc.1.2.2.1 _ ht
    have d1 : nI l / (6 : Int32) = nI (l / 6) := by rw [k6, pk_div (by omega) (by omega) (by omega)]
    have d2 : nI l - nI (l / 6) * (6 : Int32) = nI (l % 6) := by rw [← d1, k6, pk_rem (by omega) (by omega) (by omega)]
    have ct : (nI (l / 6)).toNatClampNeg = l / 6 := nI_clamp (by omega)
    have hct := nchk2 (j := l / 6) (n := 8) (by omega) (by omega)
    have f4 : h 64 (l / 6) = nI (c.1 (l / 6)) := rm.2.2.2.1 _ (by omega)
    have ey : (nI (c.1 (l / 6)) = nI (l % 6)) = (c.1 (l / 6) = l % 6) := propext (nI_eq (by omega) (by omega))
    have en : (nI (c.1 (l / 6)) = (6 : Int32)) = (c.1 (l / 6) = 6) := propext (nI_eq (a := c.1 (l / 6)) (b := 6) (by omega) (by omega))
    have ex : ((6 : Int32) * h 60 3 ≤ nI l) = False := eq_false (by rw [show h 60 3 = nI c.2.2.2.2.1 from rm.1, k6, pk_mul]; exact nI_ge (by omega) (by omega))
    rw [f_X6_deals_L2.eq_2]
    simp only [ex, if_false, d1, d2, ct, if_neg hct, f4, ey, en, nI_1]
    have el : agL c g l = agC c g (l / 6) (l % 6) := rfl
    simp only [fnd, el]
    by_cases nn : c.1 (l / 6) = 6 ∨ c.1 (l / 6) = l % 6
    · have ha : agC c g (l / 6) (l % 6) = none := by unfold agC; rw [if_pos nn]
      obtain ⟨h2, a2, b2⟩ := ih (l + 1) n h (by omega) (by omega) rm r6
      rw [ha]
      by_cases n6 : c.1 (l / 6) = 6
      · rw [if_pos n6]
        exact ⟨h2, a2, b2⟩
      · rw [if_neg n6, if_pos (by rcases nn with z | z; exact absurd z n6; exact z)]
        exact ⟨h2, a2, b2⟩
    · have n6 : ¬ c.1 (l / 6) = 6 := fun z => nn (Or.inl z)
      have n1 : ¬ c.1 (l / 6) = l % 6 := fun z => nn (Or.inr z)
      rw [if_neg n6, if_neg n1]
      obtain ⟨h1, a1, b1, c1, o1⟩ := X6_priceOf_ok (t := l / 6) (y := l % 6) wc wg ht (by omega) n6 n1 hN rm r6
      rw [a1, qb]
      dsimp only
      cases ha : agC c g (l / 6) (l % 6) with
      | none =>
        rw [if_pos (show agV none < 0 by decide)]
        obtain ⟨h2, a2, b2⟩ := ih (l + 1) n h1 (by omega) (by omega) b1 c1
        exact ⟨h2, a2, b2.tr o1⟩
      | some q =>
        obtain ⟨-, -, q1, q2, q3⟩ := agC_le wc wg ht ha
        rw [show agV (some q) = nI q from rfl, if_neg (nI_pos (by omega))]
        obtain ⟨h2, v, a2, b2, c2, d2⟩ := X6_saleC (q := q) wc wg ht (show l % 6 < 6 by omega) n1 q2 (by omega) hN b1 c1
        rw [a2, qb]
        exact ⟨h2, rfl, b2, c2, o1.tr d2⟩
/-- one agreed sale, or none -/
def stp (c : Ct) (g : Gt) : Option (Ct × Gt) := match fnd (agL c g) (6 * c.2.2.2.2.1) 0 with
  | none => none
  | some (l, q) => some (sdC c g (l / 6) (l % 6) q)
theorem fnd_some {A : Nat → Option Nat} : ∀ (k l l' q : Nat), fnd A k l = some (l', q) → l ≤ l' ∧ l' < l + k ∧ A l' = some q := by
  intro k
  induction k with
  | zero => intro l l' q h; simp [fnd] at h
  | succ k ih =>
    intro l l' q h
    simp only [fnd] at h
    cases ha : A l with
    | some q2 =>
      rw [ha] at h
      simp only [Option.some.injEq, Prod.mk.injEq] at h
      obtain ⟨rfl, rfl⟩ := h
      exact ⟨by omega, by omega, ha⟩
    | none =>
      rw [ha] at h
      obtain ⟨x, y, z⟩ := ih (l + 1) l' q h
      exact ⟨by omega, by omega, z⟩
theorem stp_ok {c c' : Ct} {g g' : Gt} (wc : WCt c) (wg : WGt g) (h : stp c g = some (c', g')) : WCt c' ∧ WGt g' := by
  unfold stp at h
  cases hf : fnd (agL c g) (6 * c.2.2.2.2.1) 0 with
  | none => rw [hf] at h; simp at h
  | some r =>
    obtain ⟨l, q⟩ := r
    rw [hf] at h
    have h := Option.some.inj h
    obtain ⟨x, y, z⟩ := fnd_some _ _ _ _ hf
    have e1 : c' = (sdC c g (l / 6) (l % 6) q).1 := by rw [h]
    have e2 : g' = (sdC c g (l / 6) (l % 6) q).2 := by rw [h]
    rw [e1, e2]
    exact ⟨wc.mv (by omega) (by omega), wg.sd (by omega)⟩
/-- the rows of sales: how many, and the end -/
def rst : Nat → Nat → Ct → Gt → Nat × Ct × Gt
  | 0, n, c, g => (n, c, g)
  | k + 1, n, c, g => match stp c g with
    | none => (n, c, g)
    | some (c', g') => rst k (n + 1) c' g'
theorem X5_MFA {N : Nat} {c : Ct} {g : Gt} {h : qN} (wc : WCt c) (wg : WGt g) (hN : 12 < N) (rc : RCt 2 c h) (rg : RG1 1 g h) :
    ∃ h1, (match stp c g with
      | none => f_X5_makeFirstAgreed N h = some (0, h1) ∧ RCt 2 c h1 ∧ RG1 1 g h1
      | some (c', g') => f_X5_makeFirstAgreed N h = some (1, h1) ∧ RCt 2 c' h1 ∧ RG1 1 g' h1) ∧ Off P5 h h1 := by
  have hT : c.2.2.2.2.1 ≤ 8 := wc.1.1
  obtain ⟨h1, a1, b1⟩ := MFA_L2 wc wg hN c.2.2.2.2.1 0 N h (by omega) (by omega) rc rg
  refine ⟨h1, ?_⟩
  unfold f_X5_makeFirstAgreed stp
  rw [k0, a1, qb]
  rw [Nat.mul_zero] at b1 ⊢
  cases hf : fnd (agL c g) (6 * c.2.2.2.2.1) 0 with
  | none => rw [hf] at b1; exact ⟨⟨rfl, b1.1, b1.2.1⟩, b1.2.2⟩
  | some r => rw [hf] at b1; exact ⟨⟨rfl, b1.1, b1.2.1⟩, b1.2.2⟩
theorem X6_dealsC {N : Nat} {c : Ct} {g : Gt} {h : qN} (wc : WCt c) (wg : WGt g) (hN : 48 < N) (rm : RMt c h) (r6 : RG6 g h) :
    ∃ h1, (match stp c g with
      | none => f_X6_deals N h = some (0, h1) ∧ RMt c h1 ∧ RG6 g h1
      | some (c', g') => f_X6_deals N h = some (1, h1) ∧ RMt c' h1 ∧ RG6 g' h1) ∧ Off P6 h h1 := by
  have hT : c.2.2.2.2.1 ≤ 8 := wc.1.1
  obtain ⟨h1, a1, b1⟩ := X6_deals_L wc wg (show 12 < N by omega) (6 * c.2.2.2.2.1) 0 N h (by omega) (by omega) rm r6
  refine ⟨h1, ?_⟩
  unfold f_X6_deals stp
  rw [k0, a1, qb]
  cases hf : fnd (agL c g) (6 * c.2.2.2.2.1) 0 with
  | none => rw [hf] at b1; exact ⟨⟨rfl, b1.1, b1.2.1⟩, b1.2.2⟩
  | some r => rw [hf] at b1; exact ⟨⟨rfl, b1.1, b1.2.1⟩, b1.2.2⟩
theorem X5_rest_L {N m : Nat} (hN : 12 < N) (hm : m ≤ 60) : ∀ (k j n : Nat) (c : Ct) (g : Gt) (h : qN), m = j + k → k < n → WCt c → WGt g → RCt 2 c h → RG1 1 g h →
    ∃ h1, f_X5_rest_L15 N (nI m) n (nI j) h = some (nI (rst k j c g).1, h1) ∧ RCt 2 (rst k j c g).2.1 h1 ∧ RG1 1 (rst k j c g).2.2 h1 ∧ Off P5 h h1 := by
  intro k
  induction k with
  | zero =>
    intro j n c g h hj hn wc wg rc rg
    obtain ⟨n, rfl⟩ : ∃ m, n = m + 1 := ⟨n - 1, by omega⟩
    rw [f_X5_rest_L15.eq_2, if_pos (nI_le (by omega) (by omega))]
    exact ⟨h, rfl, rc, rg, Off.rf⟩
  | succ k ih =>
    intro j n c g h hj hn wc wg rc rg
    obtain ⟨n, rfl⟩ : ∃ m, n = m + 1 := ⟨n - 1, by omega⟩
    obtain ⟨h1, a1, o1⟩ := X5_MFA wc wg hN rc rg
    rw [f_X5_rest_L15.eq_2, if_neg (nI_ge (by omega) (by omega))]
    simp only [rst]
    cases hs : stp c g with
    | none =>
      rw [hs] at a1
      rw [a1.1, qb]
      exact ⟨h1, rfl, a1.2.1, a1.2.2, o1⟩
    | some r =>
      obtain ⟨c', g'⟩ := r
      rw [hs] at a1
      obtain ⟨x1, x2, x3⟩ := a1
      obtain ⟨w1, w2⟩ := stp_ok wc wg hs
      obtain ⟨h2, a2, b2, c2, d2⟩ := ih (j + 1) n c' g' h1 (by omega) (by omega) w1 w2 x2 x3
      rw [x1, qb]
      dsimp only
      rw [if_neg (by decide), nI_1]
      exact ⟨h2, a2, b2, c2, o1.tr d2⟩
theorem X6_rest_L {N m : Nat} (hN : 48 < N) (hm : m ≤ 60) : ∀ (k j n : Nat) (c : Ct) (g : Gt) (h : qN), m = j + k → k < n → WCt c → WGt g → RMt c h → RG6 g h →
    ∃ h1, f_X6_rest_L16 N (nI m) n (nI j) h = some (nI (rst k j c g).1, h1) ∧ RMt (rst k j c g).2.1 h1 ∧ RG6 (rst k j c g).2.2 h1 ∧ Off P6 h h1 := by
  intro k
  induction k with
  | zero =>
    intro j n c g h hj hn wc wg rc rg
    obtain ⟨n, rfl⟩ : ∃ m, n = m + 1 := ⟨n - 1, by omega⟩
    rw [f_X6_rest_L16.eq_2, if_pos (nI_le (by omega) (by omega))]
    exact ⟨h, rfl, rc, rg, Off.rf⟩
  | succ k ih =>
    intro j n c g h hj hn wc wg rc rg
    obtain ⟨n, rfl⟩ : ∃ m, n = m + 1 := ⟨n - 1, by omega⟩
    obtain ⟨h1, a1, o1⟩ := X6_dealsC wc wg hN rc rg
    rw [f_X6_rest_L16.eq_2, if_neg (nI_ge (by omega) (by omega))]
    simp only [rst]
    cases hs : stp c g with
    | none =>
      rw [hs] at a1
      rw [a1.1, qb]
      exact ⟨h1, rfl, a1.2.1, a1.2.2, o1⟩
    | some r =>
      obtain ⟨c', g'⟩ := r
      rw [hs] at a1
      obtain ⟨x1, x2, x3⟩ := a1
      obtain ⟨w1, w2⟩ := stp_ok wc wg hs
      obtain ⟨h2, a2, b2, c2, d2⟩ := ih (j + 1) n c' g' h1 (by omega) (by omega) w1 w2 x2 x3
      rw [x1, qb]
      dsimp only
      rw [if_neg (by decide), nI_1]
      exact ⟨h2, a2, b2, c2, o1.tr d2⟩
theorem rst_ok : ∀ (k j : Nat) (c : Ct) (g : Gt), WCt c → WGt g → WCt (rst k j c g).2.1 ∧ WGt (rst k j c g).2.2 := by
  intro k
  induction k with
  | zero => intro j c g wc wg; exact ⟨wc, wg⟩
  | succ k ih =>
    intro j c g wc wg
    simp only [rst]
    cases hs : stp c g with
    | none => exact ⟨wc, wg⟩
    | some r =>
      obtain ⟨c', g'⟩ := r
      obtain ⟨w1, w2⟩ := stp_ok wc wg hs
      exact ih (j + 1) c' g' w1 w2
theorem call_rest {N : Nat} (hN : 60 < N) (a : Int32) {h : qN} (hj : J h) : OKC (f_X5_rest N a) (f_X6_rest N a) h := by
  obtain ⟨c, g, wc, wg, rc, rg, rm, r6⟩ := hj.1
  by_cases ca : 1 ≤ a.toInt ∧ a.toInt ≤ 60
  · have z1 : ¬ a < 1 := by rw [i_lt, I1]; omega
    have z9 : a ≤ (60 : Int32) := by rw [i_le, I60]; omega
    obtain ⟨m, hm, rfl, hm2⟩ := ofRangeLe (a := a) (n := 60) (by omega)
    obtain ⟨h1, a1, b1, c1, d1⟩ := X5_rest_L (m := m) (show 12 < N by omega) (by omega) m 0 N c g h (by omega) (by omega) wc wg rc rg
    obtain ⟨h2, a2, b2, c2, d2⟩ := X6_rest_L (m := m) (show 48 < N by omega) (by omega) m 0 N c g h1 (by omega) (by omega) wc wg (RM.p5 rm d1) (r6.p5 d1)
    obtain ⟨w1, w2⟩ := rst_ok m 0 c g wc wg
    refine ⟨nI (rst m 0 c g).1, h1, h2, ?_, ?_, hj.bld w1 w2 b1 c1 b2 c2 d1 d2⟩
    · unfold f_X5_rest
      rw [if_neg z1, if_pos z9, k0, a1, qb]
    · unfold f_X6_rest
      simp only [X5_isPerson, X6_isPerson, X5_isWithin, X6_in, a64, qb, one0, zero0, if_true, if_false, L0, L1, L2, L4, L5, L6, L9, L10, L15, L16, L60, L99, L999, I0, I1, I6, I9, I16, I60, I99, I999, if_pos ca]
      rw [k0, a2, qb]
  · refine ⟨-1, h, h, ?_, ?_, hj⟩
    · unfold f_X5_rest
      simp only [i_lt, i_le, I1, I60]
      by_cases s : a.toInt < 1
      · rw [if_pos s]
      · rw [if_neg s, if_neg (by omega)]
    · unfold f_X6_rest
      simp only [X5_isPerson, X6_isPerson, X5_isWithin, X6_in, a64, qb, one0, zero0, if_true, if_false, L0, L1, L2, L4, L5, L6, L9, L10, L15, L16, L60, L99, L999, I0, I1, I6, I9, I16, I60, I99, I999, if_neg ca]
