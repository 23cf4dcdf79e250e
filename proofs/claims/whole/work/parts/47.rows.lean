/-! ===== pure 27: rows of sales ===== -/
def vF (c : Ct) : Nat → Nat → Prop
  | 0, _ => True
  | l + 1, v => c.1 (v / (6 * c.2.2.2.2.1) ^ l / 6) ≠ v / (6 * c.2.2.2.2.1) ^ l % 6 ∧ vF (mvC c (v / (6 * c.2.2.2.2.1) ^ l / 6) (v / (6 * c.2.2.2.2.1) ^ l % 6)) l (v % (6 * c.2.2.2.2.1) ^ l)
def eC (c : Ct) : Nat → Nat → Ct
  | 0, _ => c
  | l + 1, v => eC (mvC c (v / (6 * c.2.2.2.2.1) ^ l / 6) (v / (6 * c.2.2.2.2.1) ^ l % 6)) l (v % (6 * c.2.2.2.2.1) ^ l)
/-- all suits are over but spared ones -/
def endd (c : Ct) (sp : Nat → Bool) : Prop := ∀ s, s < c.2.2.2.2.2.1 → c.2.2.2.1 s = true ∨ sp s = true
/-- a suit that is still to end -/
def pd (c : Ct) (sp : Nat → Bool) (s : Nat) : Prop := s < c.2.2.2.2.2.1 ∧ c.2.2.2.1 s = false ∧ sp s = false
/-- which things the class tries -/
def uf (c : Ct) (sp : Nat → Bool) (l t : Nat) : Prop :=
  (∀ s, pd c sp s → ¬ (10 ≤ c.2.1 s ∧ 10 ≤ c.2.2.1 s)) ∧ (∃ s, pd c sp s ∧ (c.2.1 s = t ∨ c.2.2.1 s = t)) ∧ (l = 1 → ∀ s, pd c sp s → c.2.1 s = t ∨ c.2.2.1 s = t)
def vU (c : Ct) (sp : Nat → Bool) : Nat → Nat → Prop
  | 0, _ => True
  | l + 1, v => uf c sp (l + 1) (v / (6 * c.2.2.2.2.1) ^ l / 6) ∧ c.1 (v / (6 * c.2.2.2.2.1) ^ l / 6) ≠ v / (6 * c.2.2.2.2.1) ^ l % 6 ∧ vU (mvC c (v / (6 * c.2.2.2.2.1) ^ l / 6) (v / (6 * c.2.2.2.2.1) ^ l % 6)) sp l (v % (6 * c.2.2.2.2.1) ^ l)
def sS (c : Ct) (t : Nat) : Prop := ∃ s, s < c.2.2.2.2.2.1 ∧ c.2.2.2.1 s = false ∧ (c.2.1 s = t ∨ c.2.2.1 s = t)
def vS (c : Ct) : Nat → Nat → Prop
  | 0, _ => True
  | l + 1, v => sS c (v / (6 * c.2.2.2.2.1) ^ l / 6) ∧ c.1 (v / (6 * c.2.2.2.2.1) ^ l / 6) ≠ v / (6 * c.2.2.2.2.1) ^ l % 6 ∧ vS (mvC c (v / (6 * c.2.2.2.2.1) ^ l / 6) (v / (6 * c.2.2.2.2.1) ^ l % 6)) l (v % (6 * c.2.2.2.2.1) ^ l)
theorem vU_F {sp : Nat → Bool} : ∀ (l v : Nat) (c : Ct), vU c sp l v → vF c l v := by
  intro l
  induction l with
  | zero => intro v c _; trivial
  | succ l ih => intro v c h; exact ⟨h.2.1, ih _ _ h.2.2⟩
theorem vS_F : ∀ (l v : Nat) (c : Ct), vS c l v → vF c l v := by
  intro l
  induction l with
  | zero => intro v c _; trivial
  | succ l ih => intro v c h; exact ⟨h.2.1, ih _ _ h.2.2⟩
/-! digits -/
theorem dig_div {D l d w : Nat} (hw : w < D ^ l) : (d * D ^ l + w) / D ^ l = d := by
  rw [Nat.add_comm, Nat.add_mul_div_right _ _ (by omega), Nat.div_eq_of_lt hw]; omega
theorem dig_mod {D l d w : Nat} (hw : w < D ^ l) : (d * D ^ l + w) % D ^ l = w := by
  rw [Nat.add_comm, Nat.add_mul_mod_self_right, Nat.mod_eq_of_lt hw]
theorem dig_lt {D l d w : Nat} (hd : d < D) (hw : w < D ^ l) : d * D ^ l + w < D ^ (l + 1) := by
  have : (d + 1) * D ^ l ≤ D * D ^ l := Nat.mul_le_mul_right _ hd
  rw [Nat.add_mul] at this
  rw [Nat.pow_succ, Nat.mul_comm (D ^ l) D]
  omega
theorem dig_of {D l v : Nat} (hv : v < D ^ (l + 1)) : v / D ^ l < D ∧ v % D ^ l < D ^ l ∧ v = v / D ^ l * D ^ l + v % D ^ l := by
  have hp : 0 < D ^ l := by
    rcases Nat.eq_zero_or_pos (D ^ l) with h | h
    · rw [Nat.pow_succ, h] at hv; omega
    · exact h
  refine ⟨?_, Nat.mod_lt _ hp, ?_⟩
  · rw [Nat.div_lt_iff_lt_mul hp, Nat.mul_comm, ← Nat.pow_succ]; exact hv
  · rw [Nat.mul_comm]; exact (Nat.div_add_mod v (D ^ l)).symm
theorem dig_t {T d : Nat} (hd : d < 6 * T) : d / 6 < T ∧ d % 6 < 6 := by omega
/-! courts alike but for the hand of a thing that no pending suit is about -/
def sim (t : Nat) (c c' : Ct) : Prop := c.2.1 = c'.2.1 ∧ c.2.2.1 = c'.2.2.1 ∧ c.2.2.2.1 = c'.2.2.2.1 ∧ c.2.2.2.2 = c'.2.2.2.2 ∧ (∀ k, k ≠ t → c.1 k = c'.1 k) ∧ (∀ s, s < c.2.2.2.2.2.1 → c.2.2.2.1 s = false → c.2.1 s ≠ t ∧ c.2.2.1 s ≠ t)
theorem sim.tr {t : Nat} {a b c : Ct} (h : sim t a b) (g : sim t b c) : sim t a c :=
  ⟨h.1.trans g.1, h.2.1.trans g.2.1, h.2.2.1.trans g.2.2.1, h.2.2.2.1.trans g.2.2.2.1, fun k hk => (h.2.2.2.2.1 k hk).trans (g.2.2.2.2.1 k hk), h.2.2.2.2.2⟩
theorem sim.np {t : Nat} {c c' : Ct} (h : sim t c c') : ∀ s, s < c'.2.2.2.2.2.1 → c'.2.2.2.1 s = false → c'.2.1 s ≠ t ∧ c'.2.2.1 s ≠ t := by
  obtain ⟨hd, fs, sc, ov, R⟩ := c
  obtain ⟨hd', fs', sc', ov', R'⟩ := c'
  obtain ⟨rfl, rfl, rfl, rfl, h5, h6⟩ := h
  exact h6
theorem stay_none {w0 : Bool} {hd : Nat → Nat} {ov : Nat → Bool} {t U : Nat} {f : Nat → Nat} (h : ∀ s, s < U → ov s = false → f s ≠ t) : stayF w0 hd ov t U f = f := by
  unfold stayF
  by_cases c : w0 = true ∧ hd t ≠ 6
  · rw [if_pos c]
    funext s
    unfold mapJ stG rep
    by_cases hs : s < U
    · rw [if_pos hs]
      cases hv : ov s with
      | true => rw [if_pos rfl]
      | false => rw [if_neg (by simp), if_neg (h s hs hv)]
    · rw [if_neg hs]
  · rw [if_neg c]
theorem endN_ne {hd hd' fs sc : Nat → Nat} {w1 : Bool} {s t : Nat} (hh : ∀ k, k ≠ t → hd k = hd' k) (h1 : fs s ≠ t) (h2 : sc s ≠ t) : endN hd fs sc w1 s = endN hd' fs sc w1 s := by
  have e1 : stN hd (fs s) = stN hd' (fs s) := by unfold stN; rw [hh _ h1]
  have e2 : stN hd (sc s) = stN hd' (sc s) := by unfold stN; rw [hh _ h2]
  unfold endN
  rw [e1, e2]
/-- a sale of such a thing changes its hand alone -/
theorem sim_mv {c : Ct} (wc : WCt c) {t : Nat} (y : Nat) (hn : ∀ s, s < c.2.2.2.2.2.1 → c.2.2.2.1 s = false → c.2.1 s ≠ t ∧ c.2.2.1 s ≠ t) : sim t c (mvC c t y) := by
  obtain ⟨hd, fs, sc, ov, T, U, w0, w1⟩ := c
  have hn : ∀ s, s < U → ov s = false → fs s ≠ t ∧ sc s ≠ t := hn
  have st : SETT hd fs sc ov U w1 := wc.2
  have ovU : ∀ s, ov s = true → s < U := wc.1.2.2.2.2
  have e1 : stayF w0 hd ov t U fs = fs := stay_none fun s h1 h2 => (hn s h1 h2).1
  have e2 : stayF w0 hd ov t U sc = sc := stay_none fun s h1 h2 => (hn s h1 h2).2
  refine ⟨e1.symm, e2.symm, ?_, rfl, fun k hk => ?_, hn⟩
  · show ov = setO (hdU hd t y) (stayF w0 hd ov t U fs) (stayF w0 hd ov t U sc) w1 ov U
    rw [e1, e2]
    funext s
    unfold setO
    cases hv : ov s with
    | true => rfl
    | false =>
      by_cases hs : s < U
      · obtain ⟨a, b⟩ := hn s hs hv
        rw [← endN_ne (hd := hd) (hd' := hdU hd t y) (fun k hk => by unfold hdU; rw [if_neg hk]) a b, (st s hs hv).1]
        simp
      · simp [hs]
  · show hd k = hdU hd t y k
    unfold hdU; rw [if_neg hk]
theorem sim_step {c c' : Ct} {t t' y : Nat} (ht : t < 10) (hs : sim t c c') (hne : t' ≠ t) : sim t (mvC c t' y) (mvC c' t' y) := by
  obtain ⟨hd, fs, sc, ov, T, U, w0, w1⟩ := c
  obtain ⟨hd', fs', sc', ov', T', U', w0', w1'⟩ := c'
  obtain ⟨h1, h2, h3, h4, h5, h6⟩ := hs
  obtain rfl : fs = fs' := h1
  obtain rfl : sc = sc' := h2
  obtain rfl : ov = ov' := h3
  have h4 : (T, U, w0, w1) = (T', U', w0', w1') := h4
  simp only [Prod.mk.injEq] at h4
  obtain ⟨rfl, rfl, rfl, rfl⟩ := h4
  have h5 : ∀ k, k ≠ t → hd k = hd' k := h5
  have h6 : ∀ s, s < U → ov s = false → fs s ≠ t ∧ sc s ≠ t := h6
  have et : hd t' = hd' t' := h5 t' hne
  have e1 : ∀ f, stayF w0 hd ov t' U f = stayF w0 hd' ov t' U f := fun f => by unfold stayF; rw [et]
  have ne : ∀ f : Nat → Nat, ∀ s, f s ≠ t → stayF w0 hd ov t' U f s ≠ t := by
    intro f s hf
    unfold stayF
    by_cases c : w0 = true ∧ hd t' ≠ 6
    · rw [if_pos c]
      unfold mapJ stG rep
      split
      · split
        · exact hf
        · split
          · omega
          · exact hf
      · exact hf
    · rw [if_neg c]; exact hf
  have hh : ∀ k, k ≠ t → hdU hd t' y k = hdU hd' t' y k := fun k hk => by unfold hdU; rw [h5 k hk]
  refine ⟨e1 fs, e1 sc, ?_, rfl, hh, ?_⟩
  · show setO (hdU hd t' y) (stayF w0 hd ov t' U fs) (stayF w0 hd ov t' U sc) w1 ov U = setO (hdU hd' t' y) (stayF w0 hd' ov t' U fs) (stayF w0 hd' ov t' U sc) w1 ov U
    rw [← e1 fs, ← e1 sc]
    funext s
    unfold setO
    cases hv : ov s with
    | true => rfl
    | false =>
      by_cases hs : s < U
      · obtain ⟨a, b⟩ := h6 s hs hv
        rw [endN_ne hh (ne fs s a) (ne sc s b)]
      · simp [hs]
  · intro s hs hv
    have hv : setO (hdU hd t' y) (stayF w0 hd ov t' U fs) (stayF w0 hd ov t' U sc) w1 ov U s = false := hv
    have h0 : ov s = false := by
      unfold setO at hv
      simp only [Bool.or_eq_false_iff] at hv
      exact hv.1
    obtain ⟨a, b⟩ := h6 s hs h0
    exact ⟨ne fs s a, ne sc s b⟩
theorem mv_T (c : Ct) (t y : Nat) : (mvC c t y).2.2.2.2 = c.2.2.2.2 := rfl
theorem eC_T : ∀ (l v : Nat) (c : Ct), (eC c l v).2.2.2.2 = c.2.2.2.2 := by
  intro l
  induction l with
  | zero => intro v c; rfl
  | succ l ih => intro v c; exact (ih _ _).trans rfl
theorem eC_W : ∀ (l v : Nat) (c : Ct), WCt c → v < (6 * c.2.2.2.2.1) ^ l → WCt (eC c l v) := by
  intro l
  induction l with
  | zero => intro v c wc _; exact wc
  | succ l ih =>
    intro v c wc hv
    obtain ⟨a, b, _⟩ := dig_of hv
    exact ih _ _ (wc.mv (dig_t a).1 (by omega)) b
/-- a row behind a sale that changes no suit can do without it -/
theorem sim_row {t : Nat} (ht : t < 10) : ∀ (l v : Nat) (c c' : Ct), WCt c' → sim t c c' → v < (6 * c'.2.2.2.2.1) ^ l → vF c' l v →
    ∃ m w, m ≤ l ∧ w < (6 * c.2.2.2.2.1) ^ m ∧ vF c m w ∧ sim t (eC c m w) (eC c' l v) := by
  intro l
  induction l with
  | zero => intro v c c' wc hs hv hf; exact ⟨0, 0, Nat.le_refl _, by simp, trivial, hs⟩
  | succ l ih =>
    intro v c c' wc hs hv hf
    obtain ⟨a, b, -⟩ := dig_of hv
    have hT : c.2.2.2.2.1 = c'.2.2.2.2.1 := congrArg (fun z => z.1) hs.2.2.2.1
    obtain ⟨f1, f2⟩ := hf
    obtain ⟨d1, d2⟩ := dig_t a
    have wc2 : WCt (mvC c' (v / (6 * c'.2.2.2.2.1) ^ l / 6) (v / (6 * c'.2.2.2.2.1) ^ l % 6)) := wc.mv d1 (by omega)
    by_cases e : v / (6 * c'.2.2.2.2.1) ^ l / 6 = t
    · have hs2 : sim t c (mvC c' (v / (6 * c'.2.2.2.2.1) ^ l / 6) (v / (6 * c'.2.2.2.2.1) ^ l % 6)) := by
        rw [e]
        exact hs.tr (sim_mv wc _ hs.np)
      obtain ⟨m, w, h1, h2, h3, h4⟩ := ih _ c _ wc2 hs2 b f2
      exact ⟨m, w, by omega, h2, h3, h4⟩
    · obtain ⟨m, w, h1, h2, h3, h4⟩ := ih _ (mvC c (v / (6 * c'.2.2.2.2.1) ^ l / 6) (v / (6 * c'.2.2.2.2.1) ^ l % 6)) _ wc2 (sim_step ht hs e) b f2
      have h2 : w < (6 * c.2.2.2.2.1) ^ m := h2
      have dd := dig_div (d := v / (6 * c'.2.2.2.2.1) ^ l) h2
      have dm := dig_mod (d := v / (6 * c'.2.2.2.2.1) ^ l) h2
      refine ⟨m + 1, v / (6 * c'.2.2.2.2.1) ^ l * (6 * c.2.2.2.2.1) ^ m + w, by omega, dig_lt (by rw [hT]; exact a) h2, ?_, ?_⟩
      · simp only [vF]
        rw [dd, dm]
        exact ⟨by rw [hs.2.2.2.2.1 _ e]; exact f1, h3⟩
      · simp only [eC]
        rw [dd, dm]
        exact h4
theorem sim_endd {t : Nat} {c c' : Ct} {sp : Nat → Bool} (h : sim t c c') (he : endd c' sp) : endd c sp := by
  obtain ⟨hd, fs, sc, ov, R⟩ := c
  obtain ⟨hd', fs', sc', ov', R'⟩ := c'
  obtain ⟨rfl, rfl, rfl, rfl, h5, h6⟩ := h
  exact he
theorem sim_cost {t : Nat} {c c' : Ct} (g : Gt) (h : sim t c c') : cstC c g = cstC c' g := by
  obtain ⟨hd, fs, sc, ov, T, U, w0, w1⟩ := c
  obtain ⟨hd', fs', sc', ov', R'⟩ := c'
  obtain ⟨h1, h2, h3, h4, h5, h6⟩ := h
  obtain rfl : fs = fs' := h1
  obtain rfl : sc = sc' := h2
  obtain rfl : ov = ov' := h3
  obtain rfl : (T, U, w0, w1) = R' := h4
  have h5 : ∀ k, k ≠ t → hd k = hd' k := h5
  have h6 : ∀ s, s < U → ov s = false → fs s ≠ t ∧ sc s ≠ t := h6
  have key : ∀ j, j ≤ U → cs1 hd fs sc ov g.2.1 j = cs1 hd' fs sc ov g.2.1 j := by
    intro j
    induction j with
    | zero => intro _; rfl
    | succ j ih =>
      intro hj
      simp only [cs1]
      rw [ih (by omega)]
      cases hv : ov j with
      | true => rfl
      | false =>
        obtain ⟨a, b⟩ := h6 j (by omega) hv
        have e1 : stN hd (fs j) = stN hd' (fs j) := by unfold stN; rw [h5 _ a]
        have e2 : stN hd (sc j) = stN hd' (sc j) := by unfold stN; rw [h5 _ b]
        rw [e1, e2]
  exact key U (Nat.le_refl _)
/-! suits between two of the people never end by sales -/
theorem stay_ge {w0 : Bool} {hd : Nat → Nat} {ov : Nat → Bool} {t U : Nat} {f : Nat → Nat} {s : Nat} (ht : t < 10) (h : 10 ≤ f s) : stayF w0 hd ov t U f s = f s := by
  unfold stayF
  by_cases c : w0 = true ∧ hd t ≠ 6
  · rw [if_pos c]
    unfold mapJ stG rep
    split
    · split
      · rfl
      · rw [if_neg (by omega)]
    · rfl
  · rw [if_neg c]
theorem pp_mv {c : Ct} (wc : WCt c) {t y s : Nat} (ht : t < c.2.2.2.2.1) (hs : s < c.2.2.2.2.2.1) (hv : c.2.2.2.1 s = false) (h1 : 10 ≤ c.2.1 s) (h2 : 10 ≤ c.2.2.1 s) :
    (mvC c t y).2.2.2.1 s = false ∧ 10 ≤ (mvC c t y).2.1 s ∧ 10 ≤ (mvC c t y).2.2.1 s := by
  obtain ⟨hd, fs, sc, ov, T, U, w0, w1⟩ := c
  have wf : WF hd fs sc ov T U := wc.1
  have st : SETT hd fs sc ov U w1 := wc.2
  have hs : s < U := hs
  have hv : ov s = false := hv
  have h1 : 10 ≤ fs s := h1
  have h2 : 10 ≤ sc s := h2
  have ht8 : t < 10 := by have := wf.1; have ht : t < T := ht; omega
  have e1 : stayF w0 hd ov t U fs s = fs s := stay_ge ht8 h1
  have e2 : stayF w0 hd ov t U sc s = sc s := stay_ge ht8 h2
  refine ⟨?_, ?_, ?_⟩
  · show setO (hdU hd t y) (stayF w0 hd ov t U fs) (stayF w0 hd ov t U sc) w1 ov U s = false
    have en : endN (hdU hd t y) (stayF w0 hd ov t U fs) (stayF w0 hd ov t U sc) w1 s = endN hd fs sc w1 s := by
      unfold endN stN
      rw [e1, e2, if_neg (show ¬ fs s < 10 by omega), if_neg (show ¬ sc s < 10 by omega), if_neg (show ¬ fs s < 10 by omega), if_neg (show ¬ sc s < 10 by omega)]
    unfold setO
    rw [hv, en, (st s hs hv).1]
    simp
  · show 10 ≤ stayF w0 hd ov t U fs s
    rw [e1]; exact h1
  · show 10 ≤ stayF w0 hd ov t U sc s
    rw [e2]; exact h2
theorem pp_row {s : Nat} : ∀ (l v : Nat) (c : Ct), WCt c → v < (6 * c.2.2.2.2.1) ^ l → s < c.2.2.2.2.2.1 → c.2.2.2.1 s = false → 10 ≤ c.2.1 s → 10 ≤ c.2.2.1 s → (eC c l v).2.2.2.1 s = false := by
  intro l
  induction l with
  | zero => intro v c _ _ _ hv _ _; exact hv
  | succ l ih =>
    intro v c wc hv hs h0 h1 h2
    obtain ⟨a, b, -⟩ := dig_of hv
    obtain ⟨d1, d2⟩ := dig_t a
    obtain ⟨q1, q2, q3⟩ := pp_mv (y := v / (6 * c.2.2.2.2.1) ^ l % 6) wc d1 hs h0 h1 h2
    exact ih _ _ (wc.mv d1 (by omega)) b hs q1 q2 q3
/-- spared suits are between people -/
def HSP (c : Ct) (sp : Nat → Bool) : Prop := ∀ s, s < c.2.2.2.2.2.1 → sp s = true → 10 ≤ c.2.1 s ∧ 10 ≤ c.2.2.1 s
theorem HSP.mv {c : Ct} {sp : Nat → Bool} (h : HSP c sp) {t y : Nat} (ht : t < 10) : HSP (mvC c t y) sp := by
  obtain ⟨hd, fs, sc, ov, T, U, w0, w1⟩ := c
  intro s hs hp
  obtain ⟨a, b⟩ := h s hs hp
  have a : 10 ≤ fs s := a
  have b : 10 ≤ sc s := b
  show 10 ≤ stayF w0 hd ov t U fs s ∧ 10 ≤ stayF w0 hd ov t U sc s
  rw [stay_ge ht a, stay_ge ht b]
  exact ⟨a, b⟩
/-- a row that ends all and that the class passes over is not the shortest -/
theorem few_short {sp : Nat → Bool} : ∀ (n v : Nat) (c : Ct), WCt c → HSP c sp → v < (6 * c.2.2.2.2.1) ^ n → vF c n v → endd (eC c n v) sp → ¬ vU c sp n v →
    ∃ m w, m < n ∧ w < (6 * c.2.2.2.2.1) ^ m ∧ vF c m w ∧ endd (eC c m w) sp := by
  intro n
  induction n with
  | zero => intro v c _ _ _ _ _ h; exact absurd trivial h
  | succ l ih =>
    intro v c wc hsp hv hf he hn
    obtain ⟨a, b, -⟩ := dig_of hv
    obtain ⟨d1, d2⟩ := dig_t a
    obtain ⟨f1, f2⟩ := hf
    have hT : c.2.2.2.2.1 ≤ 8 := wc.1.1
    have wc2 : WCt (mvC c (v / (6 * c.2.2.2.2.1) ^ l / 6) (v / (6 * c.2.2.2.2.1) ^ l % 6)) := wc.mv d1 (by omega)
    by_cases u : uf c sp (l + 1) (v / (6 * c.2.2.2.2.1) ^ l / 6)
    · obtain ⟨m, w, h1, h2, h3, h4⟩ := ih _ _ wc2 (hsp.mv (by omega)) b f2 he (fun z => hn ⟨u, f1, z⟩)
      have h2 : w < (6 * c.2.2.2.2.1) ^ m := h2
      have dd := dig_div (d := v / (6 * c.2.2.2.2.1) ^ l) h2
      have dm := dig_mod (d := v / (6 * c.2.2.2.2.1) ^ l) h2
      refine ⟨m + 1, v / (6 * c.2.2.2.2.1) ^ l * (6 * c.2.2.2.2.1) ^ m + w, by omega, dig_lt a h2, ?_, ?_⟩
      · simp only [vF]
        rw [dd, dm]
        exact ⟨f1, h3⟩
      · simp only [eC]
        rw [dd, dm]
        exact h4
    · by_cases pp : ∃ s, pd c sp s ∧ 10 ≤ c.2.1 s ∧ 10 ≤ c.2.2.1 s
      · obtain ⟨s, ⟨p1, p2, p3⟩, p4, p5⟩ := pp
        have := pp_row (s := s) (l + 1) v c wc hv p1 p2 p4 p5
        have hU : (eC c (l + 1) v).2.2.2.2.2.1 = c.2.2.2.2.2.1 := congrArg (fun z => z.2.1) (eC_T (l + 1) v c)
        rcases he s (by rw [hU]; exact p1) with q | q
        · rw [this] at q; exact absurd q (by simp)
        · rw [p3] at q; exact absurd q (by simp)
      · by_cases si : ∃ s, pd c sp s ∧ (c.2.1 s = v / (6 * c.2.2.2.2.1) ^ l / 6 ∨ c.2.2.1 s = v / (6 * c.2.2.2.2.1) ^ l / 6)
        · -- the last sale, and a suit left that the thing is no side of
          have : ¬ (l + 1 = 1 → ∀ s, pd c sp s → c.2.1 s = v / (6 * c.2.2.2.2.1) ^ l / 6 ∨ c.2.2.1 s = v / (6 * c.2.2.2.2.1) ^ l / 6) := fun z => u ⟨fun s h1 h2 => pp ⟨s, h1, h2⟩, si, z⟩
          have l0 : l = 0 := by
            apply Classical.byContradiction
            intro h
            exact this (fun z => absurd z (by omega))
          have ex : ∃ s, pd c sp s ∧ ¬ (c.2.1 s = v / (6 * c.2.2.2.2.1) ^ l / 6 ∨ c.2.2.1 s = v / (6 * c.2.2.2.2.1) ^ l / 6) := by
            apply Classical.byContradiction
            intro h
            exact this (fun _ s hs => Classical.byContradiction fun z => h ⟨s, hs, z⟩)
          obtain ⟨s, ⟨p1, p2, p3⟩, p4⟩ := ex
          subst l0
          exfalso
          generalize ht : v / (6 * c.2.2.2.2.1) ^ 0 / 6 = t at *
          generalize hy : v / (6 * c.2.2.2.2.1) ^ 0 % 6 = y at *
          have he : endd (mvC c t y) sp := by
            have := he
            simp only [eC] at this
            rw [ht, hy] at this
            exact this
          obtain ⟨hd, fs, sc, ov, T, U, w0, w1⟩ := c
          have st : SETT hd fs sc ov U w1 := wc.2
          have p4 : ¬ (fs s = t ∨ sc s = t) := p4
          have p1 : s < U := p1
          have p2 : ov s = false := p2
          have a1 : fs s ≠ t := fun z => p4 (Or.inl z)
          have a2 : sc s ≠ t := fun z => p4 (Or.inr z)
          have same : ∀ f : Nat → Nat, f s ≠ t → stayF w0 hd ov t U f s = f s := by
            intro f hf
            unfold stayF
            by_cases c : w0 = true ∧ hd t ≠ 6
            · rw [if_pos c]
              simp only [mapJ, stG, rep, if_neg hf, ite_self]
            · rw [if_neg c]
          have en : endN (hdU hd t y) (stayF w0 hd ov t U fs) (stayF w0 hd ov t U sc) w1 s = endN hd fs sc w1 s := by
            have q1 : stN (hdU hd t y) (fs s) = stN hd (fs s) := by unfold stN hdU; rw [if_neg a1]
            have q2 : stN (hdU hd t y) (sc s) = stN hd (sc s) := by unfold stN hdU; rw [if_neg a2]
            unfold endN
            rw [same fs a1, same sc a2, q1, q2]
          rcases he s p1 with q | q
          · have q : setO (hdU hd t y) (stayF w0 hd ov t U fs) (stayF w0 hd ov t U sc) w1 ov U s = true := q
            unfold setO at q
            rw [p2, en, (st s p1 p2).1] at q
            simp at q
          · rw [p3] at q; exact absurd q (by simp)
        · have np : ∀ s, s < c.2.2.2.2.2.1 → c.2.2.2.1 s = false → c.2.1 s ≠ v / (6 * c.2.2.2.2.1) ^ l / 6 ∧ c.2.2.1 s ≠ v / (6 * c.2.2.2.2.1) ^ l / 6 := by
            intro s h1 h2
            cases h3 : sp s with
            | true =>
              obtain ⟨q1, q2⟩ := hsp s h1 h3
              omega
            | false =>
              exact ⟨fun z => si ⟨s, ⟨h1, h2, h3⟩, Or.inl z⟩, fun z => si ⟨s, ⟨h1, h2, h3⟩, Or.inr z⟩⟩
          have sm := sim_mv wc (v / (6 * c.2.2.2.2.1) ^ l % 6) np
          obtain ⟨m, w, h1, h2, h3, h4⟩ := sim_row (t := v / (6 * c.2.2.2.2.1) ^ l / 6) (by omega) l _ c _ wc2 sm b f2
          exact ⟨m, w, by omega, h2, h3, sim_endd h4 he⟩
/-- a row that the class passes over costs what a shorter one costs -/
theorem best_short (g : Gt) : ∀ (n v : Nat) (c : Ct), WCt c → v < (6 * c.2.2.2.2.1) ^ n → vF c n v → ¬ vS c n v →
    ∃ m w, m < n ∧ w < (6 * c.2.2.2.2.1) ^ m ∧ vF c m w ∧ cstC (eC c m w) g = cstC (eC c n v) g := by
  intro n
  induction n with
  | zero => intro v c _ _ _ h; exact absurd trivial h
  | succ l ih =>
    intro v c wc hv hf hn
    obtain ⟨a, b, -⟩ := dig_of hv
    obtain ⟨d1, d2⟩ := dig_t a
    obtain ⟨f1, f2⟩ := hf
    have hT : c.2.2.2.2.1 ≤ 8 := wc.1.1
    have wc2 : WCt (mvC c (v / (6 * c.2.2.2.2.1) ^ l / 6) (v / (6 * c.2.2.2.2.1) ^ l % 6)) := wc.mv d1 (by omega)
    by_cases u : sS c (v / (6 * c.2.2.2.2.1) ^ l / 6)
    · obtain ⟨m, w, h1, h2, h3, h4⟩ := ih _ _ wc2 b f2 (fun z => hn ⟨u, f1, z⟩)
      have h2 : w < (6 * c.2.2.2.2.1) ^ m := h2
      have dd := dig_div (d := v / (6 * c.2.2.2.2.1) ^ l) h2
      have dm := dig_mod (d := v / (6 * c.2.2.2.2.1) ^ l) h2
      refine ⟨m + 1, v / (6 * c.2.2.2.2.1) ^ l * (6 * c.2.2.2.2.1) ^ m + w, by omega, dig_lt a h2, ?_, ?_⟩
      · simp only [vF]
        rw [dd, dm]
        exact ⟨f1, h3⟩
      · simp only [eC]
        rw [dd, dm]
        exact h4
    · have np : ∀ s, s < c.2.2.2.2.2.1 → c.2.2.2.1 s = false → c.2.1 s ≠ v / (6 * c.2.2.2.2.1) ^ l / 6 ∧ c.2.2.1 s ≠ v / (6 * c.2.2.2.2.1) ^ l / 6 :=
        fun s h1 h2 => ⟨fun z => u ⟨s, h1, h2, Or.inl z⟩, fun z => u ⟨s, h1, h2, Or.inr z⟩⟩
      have sm := sim_mv wc (v / (6 * c.2.2.2.2.1) ^ l % 6) np
      obtain ⟨m, w, h1, h2, h3, h4⟩ := sim_row (t := v / (6 * c.2.2.2.2.1) ^ l / 6) (by omega) l _ c _ wc2 sm b f2
      exact ⟨m, w, by omega, h2, h3, sim_cost g h4⟩
