/-! ===== pure 30: fewest ===== -/
def FWU (c : Ct) (sp : Nat → Bool) (r : Option (Nat × Nat)) : Prop := match r with
  | none => ∀ m v, m < 4 → v < (6 * c.2.2.2.2.1) ^ m → ¬ gU c sp m v
  | some (m, v) => m < 4 ∧ v < (6 * c.2.2.2.2.1) ^ m ∧ gU c sp m v ∧ (∀ m' v', m' < m → v' < (6 * c.2.2.2.2.1) ^ m' → ¬ gU c sp m' v') ∧ (∀ v', v' < v → ¬ gU c sp m v')
theorem gU_gd {c : Ct} {sp : Nat → Bool} {m v : Nat} (h : gU c sp m v) : gd c sp m v := ⟨vU_F _ _ _ h.1, h.2⟩
theorem gd_none {c : Ct} {sp : Nat → Bool} (wc : WCt c) (hs : HSP c sp) {n : Nat} (h : ∀ m v, m < n → v < (6 * c.2.2.2.2.1) ^ m → ¬ gU c sp m v) : ∀ m v, m < n → v < (6 * c.2.2.2.2.1) ^ m → ¬ gd c sp m v := by
  intro m
  induction m using Nat.strongRecOn with
  | _ m ih =>
    intro v hm hv hg
    by_cases q : vU c sp m v
    · exact h m v hm hv ⟨q, hg.2⟩
    · obtain ⟨m', w, h1, h2, h3, h4⟩ := few_short m v c wc hs hv hg.1 hg.2 q
      exact ih m' h1 w (by omega) h2 ⟨h3, h4⟩
theorem FWU.fw {c : Ct} {sp : Nat → Bool} {r : Option (Nat × Nat)} (wc : WCt c) (hs : HSP c sp) (h : FWU c sp r) : FW c sp r := by
  cases r with
  | none => exact gd_none wc hs h
  | some p =>
    obtain ⟨m, v⟩ := p
    obtain ⟨h1, h2, h3, h4, h5⟩ := h
    have low := gd_none wc hs h4
    refine ⟨h1, h2, gU_gd h3, low, fun v' hv' hg => ?_⟩
    by_cases q : vU c sp m v'
    · exact h5 v' hv' ⟨q, hg.2⟩
    · obtain ⟨m', w, a1, a2, a3, a4⟩ := few_short m v' c wc hs (by omega) hg.1 hg.2 q
      exact low m' w a1 a2 ⟨a3, a4⟩
theorem nv_bt {c : Ct} (wc : WCt c) {i : Nat} (hi : i < 32) : bt (nvC c) i = decide (i < c.2.2.2.2.2.1 ∧ c.2.2.2.1 i = false ∧ 10 ≤ c.2.1 i ∧ 10 ≤ c.2.2.1 i) := nvI_bt _ wc.1.2.1 i hi
theorem nv_lt {c : Ct} (wc : WCt c) : ∀ s, s < 32 → bt (nvC c) s = true → s < c.2.2.2.2.2.1 := by
  intro s hs h
  rw [nv_bt wc hs, decide_eq_true_eq] at h
  exact h.1
theorem nv_HSP {c : Ct} (wc : WCt c) : HSP c (spB (nvC c)) := by
  intro s hs h
  have hU : c.2.2.2.2.2.1 ≤ 12 := wc.1.2.1
  have h : bt (nvC c) s = true := h
  rw [nv_bt wc (by omega), decide_eq_true_eq] at h
  exact h.2.2
section Few
variable {N : Nat}
def PSr : Nat → Nat → Prop := fun a k => PE 0 a k ∨ (a = 24 ∧ (k = 3 ∨ k = 4)) ∨ a = 27
theorem PSr_5 : ∀ a k, PSr a k → P5 a k := fun a k x => by unfold PSr PE at x; unfold P5; omega
theorem RCt.psr {c : Ct} {h h1 : qN} (hr : RCt 28 c h) (hh : Off PSr h h1) : RCt 28 c h1 := RC.off hr hh (fun a k x y z => by unfold PSr PE at z; omega)
theorem X1_choose {n : Nat} (hn : n ≤ 3) (h : qN) : ∃ h1, f_X1_choose (nI n) h = some h1 ∧ h1 24 3 = nI n ∧ (∀ i, i < n → h1 27 i = h 26 i) ∧ Off (fun a k => (a = 24 ∧ k = 3) ∨ a = 27) h h1 := by
  have cond : ¬ (0 : Int32) < 0 ∧ ¬ (0 : Int32) < 0 ∧ ¬ nI n < 0 ∧ 0 + n ≤ 3 ∧ 0 + n ≤ 3 := ⟨by decide, by decide, nI_pos (by omega), by omega, by omega⟩
  unfold f_X1_choose
  rw [nI_clamp (show n < 2 ^ 31 by omega), if_pos cond]
  refine ⟨_, rfl, ?_, fun i hi => ?_, fun a k ha => ?_⟩
  · simp [qrow, qup]
  · simp only [qrow, if_true]
    rw [pk_cpy_in (by omega) (by omega)]
    simp only [qup, show ¬ (26 : Nat) = 24 by omega, if_false]
    congr 1
    omega
  · simp only [qrow, qup]
    rw [if_neg (by omega)]
    by_cases e : a = 24
    · rw [if_pos e, if_neg (by omega)]
    · rw [if_neg e]
theorem X1_few_L17 {c : Ct} (wc : WCt c) (hN : 12 < N) : ∀ (k n f : Nat) (h : qN), 4 = n + k → k < f → RCt 28 c h → (∀ m v, m < n → v < (6 * c.2.2.2.2.1) ^ m → ¬ gU c (spB (nvC c)) m v) →
    ∃ r h1 R, f_X1_seekFewest_L17 N (nvC c) f (nI n) h = some r ∧ Off PSr h h1 ∧ FWU c (spB (nvC c)) R ∧ ((R = none ∧ r = .inr h1) ∨ ∃ m v, R = some (m, v) ∧ r = .inl (nI m, h1) ∧ ∀ i, i < m → h1 27 i = nI (enc (dgN (6 * c.2.2.2.2.1) m v i))) := by
  intro k
  induction k with
  | zero =>
    intro n f h e hf hr hv
    obtain ⟨f, rfl⟩ : ∃ m, f = m + 1 := ⟨f - 1, by omega⟩
    rw [f_X1_seekFewest_L17.eq_2, show n = 4 by omega, if_pos (by decide)]
    exact ⟨_, h, none, rfl, Off.rf, fun m v h1 h2 => hv m v (by omega) h2, Or.inl ⟨rfl, rfl⟩⟩
  | succ k ih =>
    intro n f h e hf hr hv
    obtain ⟨f, rfl⟩ : ∃ m, f = m + 1 := ⟨f - 1, by omega⟩
    obtain ⟨b, h1, a1, o1, x1⟩ := X1_endsAll (N := N) (nv := nvC c) hN n 10 0 c h (by omega) (by omega) wc (nv_lt wc) hr
    have o1' : Off PSr h h1 := o1.weaken (fun a k x => Or.inl x)
    rw [f_X1_seekFewest_L17.eq_2, show (3 : Int32) = nI 3 from rfl, if_neg (nI_nlt (by omega) (by omega)), k0, a1, qb]
    dsimp only
    rcases x1 with ⟨rfl, x⟩ | ⟨rfl, v, hv1, hg, hl, cells⟩
    · rw [if_pos (show nI false.toNat = nI 0 from rfl), nI_1]
      obtain ⟨r, h2, R, a2, o2, x2, y2⟩ := ih (n + 1) f h1 (by omega) (by omega) (hr.psr o1') (fun m v h1 h2 => by
        by_cases q : m = n
        · subst q; exact x v h2
        · exact hv m v (by omega) h2)
      exact ⟨r, h2, R, a2, o1'.tr o2, x2, y2⟩
    · obtain ⟨h2, a2, -, c2, o2⟩ := X1_choose (n := n) (by omega) h1
      rw [if_neg (show ¬ nI true.toNat = nI 0 by decide), a2, qb]
      refine ⟨_, h2, some (n, v), rfl, o1'.tr (o2.weaken (fun a k x => by unfold PSr; omega)), ⟨by omega, hv1, hg, hv, hl⟩, Or.inr ⟨n, v, rfl, rfl, fun i hi => ?_⟩⟩
      have := cells i hi
      rw [Nat.zero_add] at this
      rw [c2 i hi, this]
theorem X1_seekFewest_ok {c : Ct} {h : qN} (wc : WCt c) (hN : 12 < N) (hr : RCt 2 c h) :
    ∃ h1 R, FW c (spB (nvC c)) R ∧ f_X1_seekFewest N 2 h = some ((match R with | none => -4 | some (m, _) => nI m), h1) ∧ Off P5 h h1 ∧ RCt 2 c h1 ∧ Off (fun a _ => 19 ≤ a ∧ a < 48) h h1 ∧ ∀ m v, R = some (m, v) → ∀ i, i < m → h1 27 i = nI (enc (dgN (6 * c.2.2.2.2.1) m v i)) := by
  obtain ⟨h1, a1, b1, o1⟩ := X0_becomeC (o := 28) (r1 := 2) (by omega) hr
  have r1 : RCt 2 c h1 := RC.off hr o1 (fun a k x y z => by unfold PC at z; omega)
  obtain ⟨r, h2, R, a2, o2, x2, y2⟩ := X1_few_L17 (N := N) wc hN 4 0 N h1 (by omega) (by omega) b1 (fun m v hm => by omega)
  have oo : Off (fun a _ => 19 ≤ a ∧ a < 48) h h2 := (o1.weaken (fun a k x => by unfold PC at x; omega)).tr (o2.weaken (fun a k x => by unfold PSr PE at x; omega))
  refine ⟨h2, R, x2.fw wc (nv_HSP wc), ?_, oo.weaken (fun a k x => by unfold P5; omega), RC.off hr oo (fun a k x y z => by omega), oo, ?_⟩
  · unfold f_X1_seekFewest
    rw [a1, qb, X0_neverC wc hN r1, qb]
    dsimp only
    rw [k0, a2, qb]
    rcases y2 with ⟨rfl, rfl⟩ | ⟨m, v, rfl, rfl, -⟩ <;> rfl
  · intro m v hR
    rcases y2 with ⟨rfl, -⟩ | ⟨m', v', rfl, -, y⟩
    · exact absurd hR (by simp)
    · have := Option.some.inj hR
      simp only [Prod.mk.injEq] at this
      obtain ⟨rfl, rfl⟩ := this
      exact y
theorem call_fewest (hN : 110600 < N) (a : Int32) {h : qN} (hj : J h) : OKC (f_X5_fewest N a) (f_X6_fewest N a) h := by
  obtain ⟨c, g, wc, wg, rc, rg, rm, r6⟩ := hj.1
  have em1 : (-1 : Int32).toInt = -1 := rfl
  have e3 : (3 : Int32).toInt = 3 := rfl
  have em64 : (-1 : Int64).toInt = -1 := rfl
  have e264 : (2 : Int64).toInt = 2 := rfl
  by_cases ca : -1 ≤ a.toInt ∧ a.toInt ≤ 2
  · obtain ⟨h1, R, fw, a1, o5, r51, oo, cells⟩ := X1_seekFewest_ok (N := N) wc (by omega) rc
    have rm1 : RMt c h1 := RM.p5 rm o5
    have r61 := r6.p5 o5
    obtain ⟨h2, R', fw', a2, b2, o6, cells'⟩ := X6_fewestOf_ok (N := N) wc hN rm1
    have hR := FW.uniq fw' fw
    subst hR
    have lt1 : ¬ a < (-1 : Int32) := by rw [i_lt, em1]; omega
    have lt3 : a < (3 : Int32) := by rw [i_lt, e3]; omega
    have c6 : (-1 : Int64).toInt ≤ a.toInt ∧ a.toInt ≤ (2 : Int64).toInt := by rw [em64, e264]; exact ca
    have jj : J h2 := hj.bld wc wg r51 (rg.off oo (fun a k x y => by omega)) b2 (r61.pfk o6) o5 (o6.weaken PFK_6)
    by_cases am : a = -1
    · subst am
      cases R' with
      | none =>
        refine ⟨-4, h1, h2, ?_, ?_, jj⟩
        · unfold f_X5_fewest
          rw [if_neg lt1, if_pos lt3, a1, qb]
          dsimp only
          rw [if_pos rfl]
        · unfold f_X6_fewest
          simp only [X6_in, a64, if_pos c6, qb, one0, if_false, a2, if_true]
      | some p =>
        obtain ⟨m, v⟩ := p
        have hm : m < 4 := fw.1
        have m4 : ¬ nI m = (4 : Int32) := by rw [k4, nI_eq (by omega) (by omega)]; omega
        refine ⟨nI m, h1, h2, ?_, ?_, jj⟩
        · unfold f_X5_fewest
          rw [if_neg lt1, if_pos lt3, a1, qb]
          dsimp only
          rw [if_pos rfl]
        · unfold f_X6_fewest
          simp only [X6_in, a64, if_pos c6, qb, one0, if_false, a2]
          rw [if_neg m4, if_neg (by decide)]
    · have am2 : a.toInt ≠ -1 := fun z => am (Int32.toInt_inj.mp (by rw [z]; rfl))
      obtain ⟨i, hi, rfl, hi2⟩ := ofRange (a := a) (n := 3) (by omega)
      have hi3 : i < 3 := by omega
      have ap : 0 ≤ nI i := nI_pos' hi2
      have hc := nchk2 (j := i) (n := 3) hi3 (by omega)
      cases R' with
      | none =>
        have le4 : (-4 : Int32) ≤ nI i := by rw [i_le, show (-4 : Int32).toInt = -4 from rfl, nI_toInt hi2]; omega
        refine ⟨-4, h1, h2, ?_, ?_, jj⟩
        · unfold f_X5_fewest
          rw [if_neg lt1, if_pos lt3, a1, qb]
          dsimp only
          rw [if_neg am, if_pos le4]
        · unfold f_X6_fewest
          simp only [X6_in, a64, if_pos c6, qb, one0, if_false, a2, if_true]
      | some p =>
        obtain ⟨m, v⟩ := p
        have hm : m < 4 := fw.1
        have m4 : ¬ nI m = (4 : Int32) := by rw [k4, nI_eq (by omega) (by omega)]; omega
        by_cases q : m ≤ i
        · refine ⟨-4, h1, h2, ?_, ?_, jj⟩
          · unfold f_X5_fewest
            rw [if_neg lt1, if_pos lt3, a1, qb]
            dsimp only
            rw [if_neg am, if_pos (nI_le q hi2)]
          · unfold f_X6_fewest
            simp only [X6_in, a64, if_pos c6, qb, one0, if_false, a2]
            rw [if_neg m4, if_pos ap, if_pos (nI_le q hi2)]
        · refine ⟨nI (enc (dgN (6 * c.2.2.2.2.1) m v i)), h1, h2, ?_, ?_, jj⟩
          · unfold f_X5_fewest
            rw [if_neg lt1, if_pos lt3, a1, qb]
            dsimp only
            rw [if_neg am, if_neg (nI_ge (by omega) (by omega)), nI_clamp hi2, if_neg hc, cells m v rfl i (by omega)]
          · unfold f_X6_fewest
            simp only [X6_in, a64, if_pos c6, qb, one0, if_false, a2]
            rw [if_neg m4, if_pos ap, if_neg (nI_ge (by omega) (by omega)), nI_clamp hi2, if_neg hc, cells' m v rfl i (by omega)]
  · refine ⟨-1, h, h, ?_, ?_, hj⟩
    · unfold f_X5_fewest
      by_cases q : a < (-1 : Int32)
      · rw [if_pos q]
      · rw [if_neg q, if_neg (by rw [i_lt, em1] at q; rw [i_lt, e3]; omega)]
    · have c6 : ¬ ((-1 : Int64).toInt ≤ a.toInt ∧ a.toInt ≤ (2 : Int64).toInt) := by rw [em64, e264]; exact ca
      unfold f_X6_fewest
      simp only [X6_in, a64, if_neg c6, qb, zero0, if_true]
end Few
