/-! ===== pure 29: fewest in the class ===== -/
def gU (c : Ct) (sp : Nat → Bool) (n v : Nat) : Prop := vU c sp n v ∧ endd (eC c n v) sp
theorem bt_255 : ∀ i, i < 32 → bt 255 i = decide (i < 8) := by decide +kernel
theorem side0 {T a b : Nat} {fs sc : Nat → Nat} {s : Nat} (hT : T ≤ 8) (h1 : okS T (fs s)) (h2 : okS T (sc s)) : (sdI fs sc s &&& (255 : Int32) = 0) ↔ (10 ≤ fs s ∧ 10 ≤ sc s) := by
  have a16 : fs s < 16 := by unfold okS at h1; omega
  have b16 : sc s < 16 := by unfold okS at h2; omega
  constructor
  · intro h
    have key : ∀ i, i < 8 → ¬ (i = fs s ∨ i = sc s) := by
      intro i hi q
      have h2 : bt (sdI fs sc s &&& (255 : Int32)) i = bt 0 i := by rw [h]
      rw [b_and, sdI_bt a16 b16 (by omega), bt_255 i (by omega), b_0] at h2
      rcases q with q | q <;> simp [← q, hi] at h2
    have q1 := key (fs s)
    have q2 := key (sc s)
    unfold okS at h1 h2
    omega
  · rintro ⟨h3, h4⟩
    apply b_ext
    intro i hi
    rw [b_and, sdI_bt a16 b16 hi, bt_255 i hi, b_0]
    by_cases c : i < 8
    · simp [show ¬ i = fs s by omega, show ¬ i = sc s by omega]
    · simp [c]
section Srch
variable {N : Nat}
theorem X1_useful_L17 {o : Nat} {hd fs sc : Nat → Nat} {ov : Nat → Bool} {T U : Nat} {w0 w1 : Bool} {h : qN} {l2 nv : Int32} (wf : WF hd fs sc ov T U) (hr : RC o hd fs sc ov T U w0 w1 h) : ∀ (k j f : Nat) (x y : Int32), U = j + k → k < f →
    (∀ t, t < 8 → (bt x t = true ↔ ∃ s, s < j ∧ pd (hd, fs, sc, ov, T, U, w0, w1) (spB nv) s ∧ (fs s = t ∨ sc s = t))) → (∀ t, t < 8 → (bt y t = true ↔ ∀ s, s < j → pd (hd, fs, sc, ov, T, U, w0, w1) (spB nv) s → fs s = t ∨ sc s = t)) → (∀ s, s < j → pd (hd, fs, sc, ov, T, U, w0, w1) (spB nv) s → ¬ (10 ≤ fs s ∧ 10 ≤ sc s)) →
    ∃ r, f_X1_usefulThings_L17 N l2 nv o f x y (nI j) h = some r ∧ ((r = .inl (0, h) ∧ ∃ s, pd (hd, fs, sc, ov, T, U, w0, w1) (spB nv) s ∧ 10 ≤ fs s ∧ 10 ≤ sc s) ∨
      ∃ x' y', r = .inr (x', y', h) ∧ (∀ t, t < 8 → (bt x' t = true ↔ ∃ s, pd (hd, fs, sc, ov, T, U, w0, w1) (spB nv) s ∧ (fs s = t ∨ sc s = t))) ∧ (∀ t, t < 8 → (bt y' t = true ↔ ∀ s, pd (hd, fs, sc, ov, T, U, w0, w1) (spB nv) s → fs s = t ∨ sc s = t)) ∧ (∀ s, pd (hd, fs, sc, ov, T, U, w0, w1) (spB nv) s → ¬ (10 ≤ fs s ∧ 10 ≤ sc s))) := by
  have hU := wf.2.1
  intro k
  induction k with
  | zero =>
    intro j f x y e hf hx hy hp
    obtain ⟨f, rfl⟩ : ∃ m, f = m + 1 := ⟨f - 1, by omega⟩
    have hj : j = U := by omega
    subst hj
    rw [f_X1_usefulThings_L17.eq_2, hr.2.1, if_pos (nI_le (Nat.le_refl _) (by omega))]
    refine ⟨_, rfl, Or.inr ⟨x, y, rfl, fun t ht => ?_, fun t ht => ?_, fun s hs => hp s hs.1 hs⟩⟩
    · rw [hx t ht]
      exact ⟨fun ⟨s, a, b, c⟩ => ⟨s, b, c⟩, fun ⟨s, b, c⟩ => ⟨s, b.1, b, c⟩⟩
    · rw [hy t ht]
      exact ⟨fun z s hs => z s hs.1 hs, fun z s _ hs => z s hs⟩
  | succ k ih =>
    intro j f x y e hf hx hy hp
    obtain ⟨f, rfl⟩ : ∃ m, f = m + 1 := ⟨f - 1, by omega⟩
    have hjU : j < U := by omega
    obtain ⟨wa, wb⟩ := wf.2.2.2.1 j hjU
    have a16 := (wf.st wa).2
    have b16 := (wf.st wb).2
    rw [f_X1_usefulThings_L17.eq_2, hr.2.1, if_neg (nI_ge hjU (by omega)), X0_isOver hr (show j < 12 by omega), qb]
    dsimp only
    have skip : ¬ pd (hd, fs, sc, ov, T, U, w0, w1) (spB nv) j → ∃ r, f_X1_usefulThings_L17 N l2 nv o f x y (nI j + 1) h = some r ∧ ((r = .inl (0, h) ∧ ∃ s, pd (hd, fs, sc, ov, T, U, w0, w1) (spB nv) s ∧ 10 ≤ fs s ∧ 10 ≤ sc s) ∨
      ∃ x' y', r = .inr (x', y', h) ∧ (∀ t, t < 8 → (bt x' t = true ↔ ∃ s, pd (hd, fs, sc, ov, T, U, w0, w1) (spB nv) s ∧ (fs s = t ∨ sc s = t))) ∧ (∀ t, t < 8 → (bt y' t = true ↔ ∀ s, pd (hd, fs, sc, ov, T, U, w0, w1) (spB nv) s → fs s = t ∨ sc s = t)) ∧ (∀ s, pd (hd, fs, sc, ov, T, U, w0, w1) (spB nv) s → ¬ (10 ≤ fs s ∧ 10 ≤ sc s))) := by
      intro np
      rw [nI_1]
      refine ih (j + 1) f x y (by omega) (by omega) (fun t ht => ?_) (fun t ht => ?_) (fun s hs q => ?_)
      · rw [hx t ht]
        refine ⟨fun ⟨s, a, b, c⟩ => ⟨s, by omega, b, c⟩, fun ⟨s, a, b, c⟩ => ⟨s, ?_, b, c⟩⟩
        have : s ≠ j := fun z => np (z ▸ b)
        omega
      · rw [hy t ht]
        refine ⟨fun z s hs q => ?_, fun z s hs q => z s (by omega) q⟩
        have : s ≠ j := fun z => np (z ▸ q)
        exact z s (by omega) q
      · have : s ≠ j := fun z => np (z ▸ q)
        exact hp s (by omega) q
    cases hv : ov j with
    | true =>
      rw [if_neg bT]
      exact skip (fun z => by have : ov j = false := z.2.1; rw [hv] at this; exact absurd this (by simp))
    | false =>
      rw [if_pos bF, b_bit j (by omega)]
      cases hs : bt nv j with
      | true =>
        rw [if_neg bT]
        exact skip (fun z => by have : bt nv j = false := z.2.2; rw [hs] at this; exact absurd this (by simp))
      | false =>
        have pj : pd (hd, fs, sc, ov, T, U, w0, w1) (spB nv) j := ⟨hjU, hv, hs⟩
        rw [if_pos bF, X0_sidesOf hr (show j < 12 by omega), qb]
        dsimp only
        by_cases pp : 10 ≤ fs j ∧ 10 ≤ sc j
        · rw [if_pos ((side0 (a := 0) (b := 0) wf.1 wa wb).mpr pp)]
          exact ⟨_, rfl, Or.inl ⟨rfl, j, pj, pp⟩⟩
        · rw [if_neg (fun z => pp ((side0 (a := 0) (b := 0) wf.1 wa wb).mp z)), nI_1]
          have bb : ∀ t, t < 8 → bt (sdI fs sc j &&& 255) t = (decide (t = fs j) || decide (t = sc j)) := fun t ht => by
            rw [b_and, sdI_bt a16 b16 (by omega), bt_255 t (by omega)]; simp [ht]
          refine ih (j + 1) f _ _ (by omega) (by omega) (fun t ht => ?_) (fun t ht => ?_) (fun s hs q => ?_)
          · rw [b_or, bb t ht, Bool.or_eq_true, hx t ht, Bool.or_eq_true, decide_eq_true_eq, decide_eq_true_eq]
            constructor
            · rintro (⟨s, a, b, c⟩ | q)
              · exact ⟨s, by omega, b, c⟩
              · exact ⟨j, by omega, pj, by omega⟩
            · rintro ⟨s, a, b, c⟩
              by_cases q : s = j
              · subst q; exact Or.inr (by omega)
              · exact Or.inl ⟨s, by omega, b, c⟩
          · rw [b_and, bb t ht, Bool.and_eq_true, hy t ht, Bool.or_eq_true, decide_eq_true_eq, decide_eq_true_eq]
            constructor
            · rintro ⟨z, q⟩ s hs b
              by_cases e : s = j
              · subst e; omega
              · exact z s (by omega) b
            · intro z
              have := z j (by omega) pj
              exact ⟨fun s hs b => z s (by omega) b, by omega⟩
          · by_cases e : s = j
            · subst e; exact pp
            · exact hp s (by omega) q
theorem X1_useful {c : Ct} {st l : Nat} {h : qN} {nv : Int32} (wc : WCt c) (hN : 12 < N) (hst : st < 4) (hl : l ≤ 3) (hr : RCt (28 + 5 * st) c h) :
    ∃ w, f_X1_usefulThings N (nI st) (nI l) nv h = some (w, h) ∧ ∀ t, t < 8 → (bt w t = true ↔ uf c (spB nv) l t) := by
  obtain ⟨hd, fs, sc, ov, T, U, w0, w1⟩ := c
  have wf : WF hd fs sc ov T U := wc.1
  have hU := wf.2.1
  have hc := nchk2 (j := st) (n := 4) hst (by omega)
  obtain ⟨r, a, b⟩ := X1_useful_L17 (N := N) (l2 := nI l) (nv := nv) wf hr U 0 N 0 (-1) (by omega) (by omega)
    (fun t ht => by rw [b_0]; exact ⟨fun z => absurd z (by simp), fun ⟨s, q, _⟩ => by omega⟩)
    (fun t ht => by rw [b_m1 t (by omega)]; exact ⟨fun _ s q => by omega, fun _ => rfl⟩)
    (fun s hs => by omega)
  have el : (nI l = (1 : Int32)) = (l = 1) := propext (nI_eq (b := 1) (by omega) (by omega))
  unfold f_X1_usefulThings
  rw [nI_clamp (show st < 2 ^ 31 by omega), if_neg hc]
  rw [show f_X1_usefulThings_L17 N (nI l) nv (28 + 5 * st) N 0 (-1) 0 h = some r from a, qb]
  rcases b with ⟨rfl, s, q, q1, q2⟩ | ⟨x, y, rfl, hx, hy, hp⟩
  · refine ⟨0, rfl, fun t ht => ?_⟩
    rw [b_0]
    exact ⟨fun z => absurd z (by simp), fun z => absurd ⟨q1, q2⟩ (z.1 s q)⟩
  · dsimp only
    by_cases q : l = 1
    · rw [if_pos (by rw [el]; exact q)]
      refine ⟨x &&& y, rfl, fun t ht => ?_⟩
      rw [b_and, Bool.and_eq_true, hx t ht, hy t ht]
      exact ⟨fun z => ⟨hp, z.1, fun _ => z.2⟩, fun z => ⟨z.2.1, z.2.2 q⟩⟩
    · rw [if_neg (by rw [el]; exact q)]
      refine ⟨x, rfl, fun t ht => ?_⟩
      rw [hx t ht]
      exact ⟨fun z => ⟨hp, z, fun e => absurd e q⟩, fun z => z.2.1⟩
theorem uf_T {c : Ct} {sp : Nat → Bool} {l t : Nat} (wc : WCt c) (ht : t < 8) (h : uf c sp l t) : t < c.2.2.2.2.1 := by
  obtain ⟨s, p, q⟩ := h.2.1
  obtain ⟨a, b⟩ := wc.1.2.2.2.1 s p.1
  unfold okS at a b
  omega
def PSt (st : Nat) : Nat → Nat → Prop := fun a k => PC (28 + 5 * (st + 1)) a k ∨ (a = 26 ∧ k = st)
theorem X1_step {c : Ct} {st t y : Nat} {h : qN} (wc : WCt c) (hN : 12 < N) (hst : st < 3) (ht : t < c.2.2.2.2.1) (hy : y < 6) (hr : RCt (28 + 5 * st) c h) :
    (c.1 t = y → f_X1_step N (nI st) (nI t) (nI y) h = some (0, h)) ∧ (c.1 t ≠ y → ∃ h1, f_X1_step N (nI st) (nI t) (nI y) h = some (1, h1) ∧ RCt (28 + 5 * (st + 1)) (mvC c t y) h1 ∧ h1 26 st = nI (enc (6 * t + y)) ∧ Off (PSt st) h h1) := by
  have hT : c.2.2.2.2.1 ≤ 8 := wc.1.1
  have h6 : c.1 t ≤ 6 := wc.1.2.2.1 t ht
  have hc4 := nchk2 (j := st) (n := 4) (by omega) (by omega)
  have hc41 := nchk2 (j := st + 1) (n := 4) (by omega) (by omega)
  have hc3 := nchk2 (j := st) (n := 3) (by omega) (by omega)
  have hc8 := nchk2 (j := t) (n := 8) (by omega) (by omega)
  have e4 : h (28 + 5 * st + 2) t = nI (c.1 t) := hr.2.2.2.1 t (by omega)
  have ey : (nI (c.1 t) = nI y) = (c.1 t = y) := propext (nI_eq (by omega) (by omega))
  constructor
  · intro q
    unfold f_X1_step
    simp only [nI_clamp (show st < 2 ^ 31 by omega), if_neg hc4, nI_clamp (show t < 2 ^ 31 by omega), if_neg hc8, e4, ey, if_pos q]
  · intro q
    obtain ⟨h1, a1, b1, o1⟩ := X0_becomeC (o := 28 + 5 * (st + 1)) (r1 := 28 + 5 * st) (by omega) hr
    obtain ⟨h2, a2, b2, o2⟩ := X0_moveC (y := y) wc ht (by omega) hN b1
    have en : (10 : Int32) * nI t + nI y = nI (enc (6 * t + y)) := by
      rw [k10, pk_mul, nI_add]
      unfold enc
      congr 1
      omega
    refine ⟨qup h2 26 st (nI (enc (6 * t + y))), ?_, RC.off b2 (off_up (P := fun a _ => a = 26) rfl) (fun a k x y z => by omega), qup_at _ _ _ _, Off.up ((o1.tr o2).weaken (fun a k x => Or.inl x)) (Or.inr ⟨rfl, rfl⟩)⟩
    unfold f_X1_step
    simp only [nI_clamp (show st < 2 ^ 31 by omega), if_neg hc4, nI_clamp (show t < 2 ^ 31 by omega), if_neg hc8, e4, ey, if_neg q, nI_1, nI_clamp (show st + 1 < 2 ^ 31 by omega), if_neg hc41, a1, qb, a2, if_neg hc3, en]
def PE (st : Nat) : Nat → Nat → Prop := fun a k => (28 + 5 * (st + 1) ≤ a ∧ a < 48) ∨ (a = 26 ∧ st ≤ k)
theorem PE_s {st : Nat} : ∀ a k, PE (st + 1) a k → PE st a k := fun a k x => by unfold PE at *; omega
theorem PSt_E {st : Nat} (h : st < 3) : ∀ a k, PSt st a k → PE st a k := fun a k x => by unfold PSt PC at x; unfold PE; omega
theorem RCt.pe {c : Ct} {st : Nat} {h h1 : qN} (hr : RCt (28 + 5 * st) c h) (hh : Off (PE st) h h1) : RCt (28 + 5 * st) c h1 := RC.off hr hh (fun a k x y z => by unfold PE at z; omega)
/-- what a search from a stage answers -/
def SR (c : Ct) (sp : Nat → Bool) (st l : Nat) (b : Bool) (h1 : qN) : Prop :=
  (b = false ∧ ∀ v, v < (6 * c.2.2.2.2.1) ^ l → ¬ gU c sp l v) ∨ (b = true ∧ ∃ v, v < (6 * c.2.2.2.2.1) ^ l ∧ gU c sp l v ∧ (∀ v', v' < v → ¬ gU c sp l v') ∧ ∀ i, i < l → h1 26 (st + i) = nI (enc (dgN (6 * c.2.2.2.2.1) l v i)))
theorem dig_at {d P v : Nat} (h1 : d * P ≤ v) (h2 : v < (d + 1) * P) : v / P = d ∧ v % P < P ∧ v = d * P + v % P := by
  have e : v / P = d := Nat.div_eq_of_lt_le h1 h2
  have hp : 0 < P := by
    rcases Nat.eq_zero_or_pos P with z | z
    · subst z; omega
    · exact z
  refine ⟨e, Nat.mod_lt _ hp, ?_⟩
  have := Nat.div_add_mod v P
  rw [e, Nat.mul_comm] at this
  exact this.symm
theorem X1_ends_L59 {c : Ct} {st l : Nat} {nv w : Int32} {rec : Int32 → Int32 → Int32 → qN → Option (Int32 × qN)} (wc : WCt c) (hN : 12 < N) (hst : st + l < 3)
    (IH : ∀ (c' : Ct) (h : qN), WCt c' → c'.2.2.2.2 = c.2.2.2.2 → RCt (28 + 5 * (st + 1)) c' h → ∃ b h1, rec (nI (st + 1)) (nI l) nv h = some (nI b.toNat, h1) ∧ Off (PE (st + 1)) h h1 ∧ SR c' (spB nv) (st + 1) l b h1)
    {t : Nat} (ht : t < 8) (hw : bt w t = true ↔ uf c (spB nv) (l + 1) t) : ∀ (k y f : Nat) (h : qN), 6 = y + k → k < f → RCt (28 + 5 * st) c h → (∀ v, v < (6 * t + y) * (6 * c.2.2.2.2.1) ^ l → v < (6 * c.2.2.2.2.1) ^ (l + 1) → ¬ gU c (spB nv) (l + 1) v) →
    ∃ r h1, f_X1_endsAll_L59 N rec (nI st) (nI (l + 1)) nv w (nI t) f (nI y) h = some r ∧ Off (PE st) h h1 ∧ ((r = .inr h1 ∧ ∀ v, v < (6 * t + 6) * (6 * c.2.2.2.2.1) ^ l → v < (6 * c.2.2.2.2.1) ^ (l + 1) → ¬ gU c (spB nv) (l + 1) v) ∨ (r = .inl (1, h1) ∧ SR c (spB nv) st (l + 1) true h1)) := by
  have hT : c.2.2.2.2.1 ≤ 8 := wc.1.1
  intro k
  induction k with
  | zero =>
    intro y f h e hf hr hv
    obtain ⟨f, rfl⟩ : ∃ m, f = m + 1 := ⟨f - 1, by omega⟩
    rw [f_X1_endsAll_L59.eq_2, show y = 6 by omega, if_pos (by decide)]
    exact ⟨_, h, rfl, Off.rf, Or.inl ⟨rfl, by rw [show y = 6 by omega] at hv; exact hv⟩⟩
  | succ k ih =>
    intro y f h e hf hr hv
    obtain ⟨f, rfl⟩ : ∃ m, f = m + 1 := ⟨f - 1, by omega⟩
    have hy : y < 6 := by omega
    rw [f_X1_endsAll_L59.eq_2, show (6 : Int32) = nI 6 from rfl, if_neg (nI_ge (by omega) (by omega)), b_bit t (by omega)]
    by_cases u : uf c (spB nv) (l + 1) t
    · rw [hw.mpr u, if_pos (show nI true.toNat = 1 from rfl)]
      have htT := uf_T wc ht u
      obtain ⟨s1, s2⟩ := X1_step (h := h) wc hN (show st < 3 by omega) htT hy hr
      -- what a digit that leads nowhere gives
      have go : ∀ (h1 : qN), Off (PE st) h h1 → (∀ v, (6 * t + y) * (6 * c.2.2.2.2.1) ^ l ≤ v → v < (6 * t + y + 1) * (6 * c.2.2.2.2.1) ^ l → ¬ gU c (spB nv) (l + 1) v) →
          ∃ r h2, f_X1_endsAll_L59 N rec (nI st) (nI (l + 1)) nv w (nI t) f (nI y + 1) h1 = some r ∧ Off (PE st) h h2 ∧ ((r = .inr h2 ∧ ∀ v, v < (6 * t + 6) * (6 * c.2.2.2.2.1) ^ l → v < (6 * c.2.2.2.2.1) ^ (l + 1) → ¬ gU c (spB nv) (l + 1) v) ∨ (r = .inl (1, h2) ∧ SR c (spB nv) st (l + 1) true h2)) := by
        intro h1 o1 hn
        rw [nI_1]
        obtain ⟨r, h2, a2, o2, x2⟩ := ih (y + 1) f h1 (by omega) (by omega) (hr.pe o1) (fun v hv1 hv2 => by
          by_cases q : v < (6 * t + y) * (6 * c.2.2.2.2.1) ^ l
          · exact hv v q hv2
          · exact hn v (by omega) hv1)
        exact ⟨r, h2, a2, o1.tr o2, x2⟩
      by_cases n1 : c.1 t = y
      · rw [s1 n1, qb]
        dsimp only
        rw [if_pos rfl]
        exact go h Off.rf (fun v h1 h2 z => by
          obtain ⟨d1, -, -⟩ := dig_at h1 h2
          have := z.1.2.1
          rw [d1, show (6 * t + y) / 6 = t by omega, show (6 * t + y) % 6 = y by omega] at this
          exact this n1)
      · obtain ⟨h1, a1, b1, c1, o1⟩ := s2 n1
        have oE := o1.weaken (PSt_E (show st < 3 by omega))
        rw [a1, qb]
        dsimp only
        rw [if_neg (by decide), nI_1, show nI (l + 1) - 1 = nI l by rw [k1, pk_sub (by omega)]; rfl]
        obtain ⟨b, h2, a2, o2, x2⟩ := IH (mvC c t y) h1 (wc.mv htT (by omega)) rfl b1
        have o12 : Off (PE st) h h2 := oE.tr (o2.weaken PE_s)
        rw [a2, qb]
        dsimp only
        have un : ∀ v, (6 * t + y) * (6 * c.2.2.2.2.1) ^ l ≤ v → v < (6 * t + y + 1) * (6 * c.2.2.2.2.1) ^ l → (gU c (spB nv) (l + 1) v ↔ gU (mvC c t y) (spB nv) l (v % (6 * c.2.2.2.2.1) ^ l)) := by
          intro v h1 h2
          obtain ⟨d1, -, -⟩ := dig_at h1 h2
          unfold gU
          simp only [vU, eC]
          rw [d1, show (6 * t + y) / 6 = t by omega, show (6 * t + y) % 6 = y by omega]
          exact ⟨fun z => ⟨z.1.2.2, z.2⟩, fun z => ⟨⟨u, n1, z.1⟩, z.2⟩⟩
        rcases x2 with ⟨rfl, x2⟩ | ⟨rfl, v', hv', g', m', cells⟩
        · rw [if_pos bF]
          exact go h2 o12 (fun v h1 h2 z => x2 _ (dig_at h1 h2).2.1 ((un v h1 h2).mp z))
        · rw [if_neg bT]
          have hv' : v' < (6 * c.2.2.2.2.1) ^ l := hv'
          have dd := dig_div (d := 6 * t + y) hv'
          have dm := dig_mod (d := 6 * t + y) hv'
          have dl := dig_lt (D := 6 * c.2.2.2.2.1) (show 6 * t + y < 6 * c.2.2.2.2.1 by omega) hv'
          have sm : (6 * t + y + 1) * (6 * c.2.2.2.2.1) ^ l = (6 * t + y) * (6 * c.2.2.2.2.1) ^ l + (6 * c.2.2.2.2.1) ^ l := by rw [Nat.add_mul, Nat.one_mul]
          refine ⟨_, h2, rfl, o12, Or.inr ⟨rfl, Or.inr ⟨rfl, (6 * t + y) * (6 * c.2.2.2.2.1) ^ l + v', dl, ?_, ?_, ?_⟩⟩⟩
          · rw [un _ (by omega) (by omega), dm]; exact g'
          · intro z hz hg
            by_cases q : z < (6 * t + y) * (6 * c.2.2.2.2.1) ^ l
            · exact hv z q (by omega) hg
            · have z1 : (6 * t + y) * (6 * c.2.2.2.2.1) ^ l ≤ z := by omega
              have z2 : z < (6 * t + y + 1) * (6 * c.2.2.2.2.1) ^ l := by omega
              have z3 := (dig_at z1 z2).2.2
              exact m' _ (by omega) ((un z z1 z2).mp hg)
          · intro i hi
            rcases i with _ | i
            · rw [Nat.add_zero, o2 26 st (by unfold PE; omega), c1, dgN_0 dl, dd]
            · have := cells i (by omega)
              rw [show st + (i + 1) = st + 1 + i by omega, this, ← dgN_s (by omega), dm]
              rfl
    · have wb : bt w t = false := by
        cases hb : bt w t with
        | false => rfl
        | true => exact absurd (hw.mp hb) u
      rw [wb, if_neg (show ¬ nI false.toNat = 1 by decide)]
      refine ⟨_, h, rfl, Off.rf, Or.inl ⟨rfl, fun v h1 h2 z => ?_⟩⟩
      by_cases q : v < (6 * t + y) * (6 * c.2.2.2.2.1) ^ l
      · exact hv v q h2 z
      · have hp : 0 < (6 * c.2.2.2.2.1) ^ l := by
          rcases Nat.eq_zero_or_pos ((6 * c.2.2.2.2.1) ^ l) with e | e
          · rw [e] at h1; omega
          · exact e
        have q1 : 6 * t + y ≤ v / (6 * c.2.2.2.2.1) ^ l := by rw [Nat.le_div_iff_mul_le hp]; omega
        have q2 : v / (6 * c.2.2.2.2.1) ^ l < 6 * t + 6 := by rw [Nat.div_lt_iff_lt_mul hp]; exact h1
        have := z.1.1
        rw [show v / (6 * c.2.2.2.2.1) ^ l / 6 = t by omega] at this
        exact u this
theorem X1_ends_L49 {c : Ct} {st l : Nat} {nv w : Int32} {rec : Int32 → Int32 → Int32 → qN → Option (Int32 × qN)} (wc : WCt c) (hN : 12 < N) (hst : st + l < 3)
    (IH : ∀ (c' : Ct) (h : qN), WCt c' → c'.2.2.2.2 = c.2.2.2.2 → RCt (28 + 5 * (st + 1)) c' h → ∃ b h1, rec (nI (st + 1)) (nI l) nv h = some (nI b.toNat, h1) ∧ Off (PE (st + 1)) h h1 ∧ SR c' (spB nv) (st + 1) l b h1)
    (hw : ∀ t, t < 8 → (bt w t = true ↔ uf c (spB nv) (l + 1) t)) : ∀ (k t f : Nat) (h : qN), 8 = t + k → k < f → RCt (28 + 5 * st) c h → (∀ v, v < (6 * t) * (6 * c.2.2.2.2.1) ^ l → v < (6 * c.2.2.2.2.1) ^ (l + 1) → ¬ gU c (spB nv) (l + 1) v) →
    ∃ r h1, f_X1_endsAll_L49 N rec (nI st) (nI (l + 1)) nv w f (nI t) h = some r ∧ Off (PE st) h h1 ∧ ((r = .inr h1 ∧ ∀ v, v < (6 * c.2.2.2.2.1) ^ (l + 1) → ¬ gU c (spB nv) (l + 1) v) ∨ (r = .inl (1, h1) ∧ SR c (spB nv) st (l + 1) true h1)) := by
  have hT : c.2.2.2.2.1 ≤ 8 := wc.1.1
  intro k
  induction k with
  | zero =>
    intro t f h e hf hr hv
    obtain ⟨f, rfl⟩ : ∃ m, f = m + 1 := ⟨f - 1, by omega⟩
    rw [f_X1_endsAll_L49.eq_2, show t = 8 by omega, if_pos (by decide)]
    refine ⟨_, h, rfl, Off.rf, Or.inl ⟨rfl, fun v h2 => hv v ?_ h2⟩⟩
    rw [Nat.pow_succ, Nat.mul_comm] at h2
    have : 6 * c.2.2.2.2.1 * (6 * c.2.2.2.2.1) ^ l ≤ 6 * t * (6 * c.2.2.2.2.1) ^ l := Nat.mul_le_mul_right _ (by omega)
    omega
  | succ k ih =>
    intro t f h e hf hr hv
    obtain ⟨f, rfl⟩ : ∃ m, f = m + 1 := ⟨f - 1, by omega⟩
    obtain ⟨r, h1, a1, o1, x1⟩ := X1_ends_L59 (N := N) wc hN hst IH (t := t) (by omega) (hw t (by omega)) 6 0 N h (by omega) (by omega) hr (fun v h1 h2 => hv v h1 h2)
    rw [f_X1_endsAll_L49.eq_2, k8, if_neg (nI_ge (by omega) (by omega)), k0, a1, qb]
    rcases x1 with ⟨rfl, x⟩ | ⟨rfl, x⟩
    · dsimp only
      rw [nI_1]
      obtain ⟨r, h2, a2, o2, x2⟩ := ih (t + 1) f h1 (by omega) (by omega) (hr.pe o1) (fun v h1 h2 => x v (by rw [show 6 * (t + 1) = 6 * t + 6 by omega] at h1; exact h1) h2)
      exact ⟨r, h2, a2, o1.tr o2, x2⟩
    · exact ⟨_, h1, rfl, o1, Or.inr ⟨rfl, x⟩⟩
theorem X1_endsAll {nv : Int32} (hN : 12 < N) : ∀ (l n st : Nat) (c : Ct) (h : qN), l < n → st + l ≤ 3 → WCt c → (∀ s, s < 32 → bt nv s = true → s < c.2.2.2.2.2.1) → RCt (28 + 5 * st) c h →
    ∃ b h1, f_X1_endsAll N n (nI st) (nI l) nv h = some (nI b.toNat, h1) ∧ Off (PE st) h h1 ∧ SR c (spB nv) st l b h1 := by
  intro l
  induction l with
  | zero =>
    intro n st c h hn hst wc hnv hr
    obtain ⟨n, rfl⟩ : ∃ m, n = m + 1 := ⟨n - 1, by omega⟩
    have hU : c.2.2.2.2.2.1 ≤ 12 := wc.1.2.1
    have hc := nchk2 (j := st) (n := 4) (by omega) (by omega)
    have hov : OVW (h (28 + 5 * st) 6) c.2.2.2.1 := hr.2.2.1
    have cond : (((h (28 + 5 * st) 6) ||| nv) = (((1 : Int32) <<< ((h (28 + 5 * st) 5) &&& 31)) - (1 : Int32))) ↔ endd c (spB nv) := by
      rw [show h (28 + 5 * st) 5 = nI c.2.2.2.2.2.1 from hr.2.1]
      constructor
      · intro e s hs
        have e2 : bt ((h (28 + 5 * st) 6) ||| nv) s = bt (((1 : Int32) <<< (nI c.2.2.2.2.2.1 &&& 31)) - (1 : Int32)) s := by rw [e]
        rw [b_or, w_full hU (by omega), hov s (by omega)] at e2
        unfold spB
        simp [hs, show s < 12 by omega] at e2
        exact e2
      · intro e
        apply b_ext
        intro i hi
        rw [b_or, w_full hU hi, hov i hi]
        by_cases hs : i < c.2.2.2.2.2.1
        · have := e i hs
          unfold spB at this
          simp [hs, show i < 12 by omega]
          exact this
        · have h1 : c.2.2.2.1 i = false := by
            cases hv : c.2.2.2.1 i with
            | false => rfl
            | true => exact absurd (wc.1.2.2.2.2 i hv) hs
          have h2 : bt nv i = false := by
            cases hv : bt nv i with
            | false => rfl
            | true => exact absurd (hnv i hi hv) hs
          simp [hs, h1, h2]
    rw [f_X1_endsAll.eq_2, if_pos (show nI 0 = 0 from rfl), nI_clamp (show st < 2 ^ 31 by omega), if_neg hc, if_neg hc]
    by_cases q : endd c (spB nv)
    · rw [if_pos (cond.mpr q)]
      exact ⟨true, h, rfl, Off.rf, Or.inr ⟨rfl, 0, by simp, ⟨trivial, q⟩, fun v hv => by omega, fun i hi => by omega⟩⟩
    · rw [if_neg (fun z => q (cond.mp z))]
      exact ⟨false, h, rfl, Off.rf, Or.inl ⟨rfl, fun v _ z => q z.2⟩⟩
  | succ l ih =>
    intro n st c h hn hst wc hnv hr
    obtain ⟨n, rfl⟩ : ∃ m, n = m + 1 := ⟨n - 1, by omega⟩
    obtain ⟨w, aw, hw⟩ := X1_useful (N := N) (st := st) (l := l + 1) (nv := nv) wc hN (by omega) (by omega) hr
    obtain ⟨r, h1, a1, o1, x1⟩ := X1_ends_L49 (N := N) (c := c) (st := st) (l := l) (nv := nv) (w := w) (rec := f_X1_endsAll N n) wc hN (by omega)
      (fun c' h wc' e hr' => ih n (st + 1) c' h (by omega) (by omega) wc' (by rw [e]; exact hnv) hr') hw 8 0 N h (by omega) (by omega) hr (fun v h1 => by omega)
    have n0 : ¬ nI (l + 1) = 0 := by rw [k0, nI_eq (by omega) (by omega)]; omega
    rw [f_X1_endsAll.eq_2, if_neg n0, aw, qb]
    dsimp only
    rw [k0, a1, qb]
    rcases x1 with ⟨rfl, x⟩ | ⟨rfl, x⟩
    · exact ⟨false, h1, rfl, o1, Or.inl ⟨rfl, x⟩⟩
    · exact ⟨true, h1, rfl, o1, x⟩
end Srch
