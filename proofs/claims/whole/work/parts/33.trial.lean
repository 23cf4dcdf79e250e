/-! ===== pure 13: trials: become, keeps, back, gain, against, pays ===== -/
def bcp (o r n : Nat) (h : qN) : qN := qrow h o (va_cpy (h r) (h o) 0 0 n)
theorem bcp_at {o r n k : Nat} {h : qN} (hk : k < n) : bcp o r n h o k = h r k := by
  unfold bcp qrow
  rw [if_pos rfl, pk_cpy_in (by omega) (by omega)]
  congr 1
  omega
theorem bcp_ne {o r n a k : Nat} {h : qN} (ha : a ≠ o) : bcp o r n h a k = h a k := by
  unfold bcp qrow
  rw [if_neg ha]
def bec (o r1 : Nat) (h : qN) : qN :=
  let h4 := bcp (o + 4) (r1 + 4) 12 (bcp (o + 3) (r1 + 3) 12 (bcp (o + 2) (r1 + 2) 8 (bcp (o + 1) (r1 + 1) 2 h)))
  let h5 := qup h4 o 4 (h4 r1 4)
  let h6 := qup h5 o 5 (h5 r1 5)
  qup h6 o 6 (h6 r1 6)
theorem f_become_eq (o r1 : Nat) (h : qN) : f_X0_become o r1 h = some (bec o r1 h) := rfl
theorem X0_becomeC {o r1 : Nat} {c : Ct} {h : qN} (ho : o + 5 ≤ r1 ∨ r1 + 5 ≤ o) (hr : RCt r1 c h) : ∃ h1, f_X0_become o r1 h = some h1 ∧ RCt o c h1 ∧ Off (PC o) h h1 := by
  obtain ⟨hd, fs, sc, ov, T, U, w0, w1⟩ := c
  obtain ⟨e1, e2, e3, e4, e5, e6, e7, e8⟩ : RC r1 hd fs sc ov T U w0 w1 h := hr
  refine ⟨_, f_become_eq o r1 h, ?_, ?_⟩
  · show RC o hd fs sc ov T U w0 w1 _
    unfold bec
    refine ⟨?_, ?_, ?_, fun k hk => ?_, fun k hk => ?_, fun k hk => ?_, ?_, ?_⟩
    · simp only [qup, if_true, show ¬ (4 : Nat) = 6 by omega, show ¬ (4 : Nat) = 5 by omega, if_false]
      rw [bcp_ne (by omega), bcp_ne (by omega), bcp_ne (by omega), bcp_ne (by omega)]; exact e1
    · simp only [qup, if_true, show ¬ (5 : Nat) = 6 by omega, if_false, if_neg (show ¬ r1 = o by omega)]
      rw [bcp_ne (by omega), bcp_ne (by omega), bcp_ne (by omega), bcp_ne (by omega)]; exact e2
    · simp only [qup, if_true, if_neg (show ¬ r1 = o by omega)]
      rw [bcp_ne (by omega), bcp_ne (by omega), bcp_ne (by omega), bcp_ne (by omega)]; exact e3
    · simp only [qup, if_neg (show ¬ o + 2 = o by omega)]
      rw [bcp_ne (by omega), bcp_ne (by omega), bcp_at hk, bcp_ne (by omega)]; exact e4 k hk
    · simp only [qup, if_neg (show ¬ o + 3 = o by omega)]
      rw [bcp_ne (by omega), bcp_at hk, bcp_ne (by omega), bcp_ne (by omega)]; exact e5 k hk
    · simp only [qup, if_neg (show ¬ o + 4 = o by omega)]
      rw [bcp_at hk, bcp_ne (by omega), bcp_ne (by omega), bcp_ne (by omega)]; exact e6 k hk
    · simp only [qup, if_neg (show ¬ o + 1 = o by omega)]
      rw [bcp_ne (by omega), bcp_ne (by omega), bcp_ne (by omega), bcp_at (by omega)]; exact e7
    · simp only [qup, if_neg (show ¬ o + 1 = o by omega)]
      rw [bcp_ne (by omega), bcp_ne (by omega), bcp_ne (by omega), bcp_at (by omega)]; exact e8
  · intro a k ha
    unfold PC at ha
    unfold bec
    simp only [qup, if_neg (show ¬ a = o by omega)]
    rw [bcp_ne (by omega), bcp_ne (by omega), bcp_ne (by omega), bcp_ne (by omega)]
theorem loopCopy {F : Nat → Int32 → qN → Option qN} {U d s dj sj : Nat} (hsd : s ≠ d) (hx : ∀ n h, F (n + 1) (nI U) h = some h)
    (hs : ∀ n j h, j < U → F (n + 1) (nI j) h = F n (nI (j + 1)) (qup h d (dj + j) (h s (sj + j)))) (n : Nat) (h : qN) (hn : U < n) :
    ∃ h1, F n (nI 0) h = some h1 ∧ (∀ k, k < U → h1 d (dj + k) = h s (sj + k)) ∧ Off (fun a k => a = d ∧ dj ≤ k ∧ k < dj + U) h h1 := by
  obtain ⟨h1, a, b⟩ := loopV (F := F) (U := U) (Inv := fun j h1 => (∀ k, k < j → h1 d (dj + k) = h s (sj + k)) ∧ Off (fun a k => a = d ∧ dj ≤ k ∧ k < dj + U) h h1)
    (fun n h1 hi => hx n h1)
    (fun n j h1 hj hi => by
      refine ⟨_, hs n j h1 hj, fun k hk => ?_, Off.up hi.2 (by omega)⟩
      have e : h1 s (sj + j) = h s (sj + j) := hi.2 s _ (by omega)
      by_cases q : k = j
      · subst q
        simp only [qup, if_true]
        exact e
      · simp only [qup, if_true, if_neg (show ¬ dj + k = dj + j by omega)]
        exact hi.1 k (by omega))
    U 0 n h (by omega) (by omega) ⟨fun k hk => by omega, Off.rf⟩
  exact ⟨h1, a, b.1, b.2⟩
def RK (c : Ct) (h : qN) : Prop := (∀ k, k < 8 → h 70 k = nI (c.1 k)) ∧ (∀ k, k < 12 → h 71 k = nI (c.2.1 k)) ∧ (∀ k, k < 12 → h 72 k = nI (c.2.2.1 k)) ∧ OVW (h 60 19) c.2.2.2.1
def PK : Nat → Nat → Prop := fun a k => a = 70 ∨ a = 71 ∨ a = 72 ∨ (a = 60 ∧ k = 19)
theorem PK_6 : ∀ a k, PK a k → P6 a k := fun a k x => by unfold PK at x; unfold P6; omega
theorem RM.pk {c : Ct} {h h1 : qN} (hr : RMt c h) (hh : Off PK h h1) : RMt c h1 := RM.off hr hh (fun a k x y => by unfold PM at x; unfold PK at y; omega)
theorem RG6.pk {g : Gt} {h h1 : qN} (hr : RG6 g h) (hh : Off PK h h1) : RG6 g h1 := hr.off hh (fun a k x y => by unfold PK at y; omega)
theorem RK.off {c : Ct} {h h1 : qN} {P : Nat → Nat → Prop} (hr : RK c h) (hh : Off P h h1) (hp : ∀ a k, PK a k → ¬ P a k) : RK c h1 := by
  obtain ⟨e1, e2, e3, e4⟩ := hr
  refine ⟨fun k hk => ?_, fun k hk => ?_, fun k hk => ?_, ?_⟩
  · rw [hh _ _ (hp _ _ (by unfold PK; omega))]; exact e1 k hk
  · rw [hh _ _ (hp _ _ (by unfold PK; omega))]; exact e2 k hk
  · rw [hh _ _ (hp _ _ (by unfold PK; omega))]; exact e3 k hk
  · rw [hh _ _ (hp _ _ (by unfold PK; omega))]; exact e4
theorem RK.pm {c : Ct} {h h1 : qN} (hr : RK c h) (hh : Off PM h h1) : RK c h1 := hr.off hh (fun a k x y => by unfold PK at x; unfold PM at y; omega)
theorem X6_keeps {N : Nat} {c : Ct} {h : qN} (hN : 12 < N) (hr : RMt c h) : ∃ h1, f_X6_keeps N h = some h1 ∧ RK c h1 ∧ Off PK h h1 := by
  obtain ⟨hd, fs, sc, ov, T, U, w0, w1⟩ := c
  obtain ⟨e1, e2, e3, e4, e5, e6, e7, e8⟩ : RM hd fs sc ov T U w0 w1 h := hr
  obtain ⟨h1, a1, b1, c1⟩ := loopCopy (F := f_X6_keeps_L2 N) (U := 8) (d := 70) (s := 64) (dj := 0) (sj := 0) (by omega) (fun n h => by rw [f_X6_keeps_L2.eq_2, if_pos (by decide)])
    (fun n j h hj => by
      have hc := nchk2 (j := j) (n := 8) hj (by omega)
      rw [f_X6_keeps_L2.eq_2, k8, if_neg (nI_ge hj (by omega))]
      simp only [nI_clamp (show j < 2 ^ 31 by omega), if_neg hc, nI_1, Nat.zero_add]) N h (by omega)
  obtain ⟨h2, a2, b2, c2⟩ := loopV (F := f_X6_keeps_L28 N) (U := 12) (Inv := fun j h2 => (∀ k, k < j → h2 71 k = h1 66 k ∧ h2 72 k = h1 67 k) ∧ Off (fun a _ => a = 71 ∨ a = 72) h1 h2)
    (fun n h hi => by rw [f_X6_keeps_L28.eq_2, if_pos (by decide)])
    (fun n j h2 hj hi => by
      have hc := nchk2 (j := j) (n := 12) hj (by omega)
      rw [f_X6_keeps_L28.eq_2, k12, if_neg (nI_ge hj (by omega))]
      simp only [nI_clamp (show j < 2 ^ 31 by omega), if_neg hc, nI_1]
      refine ⟨_, rfl, fun k hk => ?_, Off.up (Off.up hi.2 (by omega)) (by omega)⟩
      have q1 : h2 66 j = h1 66 j := hi.2 66 j (by omega)
      have q2 : h2 67 j = h1 67 j := hi.2 67 j (by omega)
      by_cases q : k = j
      · subst q
        simp only [qup, if_true, show ¬ (71 : Nat) = 72 by omega, show ¬ (67 : Nat) = 71 by omega, if_false]
        exact ⟨q1, q2⟩
      · simp only [qup, if_true, show ¬ (71 : Nat) = 72 by omega, show ¬ (72 : Nat) = 71 by omega, if_false, if_neg q]
        exact hi.1 k (by omega))
    12 0 N h1 (by omega) (by omega) ⟨fun k hk => by omega, Off.rf⟩
  have q9 : h2 60 9 = h 60 9 := by rw [c2 60 9 (by omega), c1 60 9 (by omega)]
  refine ⟨qup h2 60 19 (h2 60 9), ?_, ⟨fun k hk => ?_, fun k hk => ?_, fun k hk => ?_, ?_⟩, ?_⟩
  · unfold f_X6_keeps
    rw [k0, a1, qb, a2, qb]
  · simp only [qup, show ¬ (70 : Nat) = 60 by omega, if_false]
    rw [c2 70 k (by omega)]
    have := b1 k hk
    rw [Nat.zero_add] at this
    rw [this]; exact e4 k hk
  · simp only [qup, show ¬ (71 : Nat) = 60 by omega, if_false]
    rw [(b2 k hk).1, c1 66 k (by omega)]; exact e5 k hk
  · simp only [qup, show ¬ (72 : Nat) = 60 by omega, if_false]
    rw [(b2 k hk).2, c1 67 k (by omega)]; exact e6 k hk
  · simp only [qup, if_true]
    rw [q9]; exact e3
  · exact Off.up ((c1.weaken (by intro a k x; unfold PK; omega)).tr (c2.weaken (by intro a k x; unfold PK; omega))) (by unfold PK; omega)
theorem X6_back {N : Nat} {c c' : Ct} {h : qN} (hN : 12 < N) (hk : RK c h) (hr : RMt c' h) (he : c'.2.2.2.2 = c.2.2.2.2) : ∃ h1, f_X6_back N h = some h1 ∧ RMt c h1 ∧ Off PM h h1 := by
  obtain ⟨hd, fs, sc, ov, T, U, w0, w1⟩ := c
  obtain ⟨hd', fs', sc', ov', T', U', w0', w1'⟩ := c'
  obtain ⟨e1, e2, e3, e4, e5, e6, e7, e8⟩ : RM hd' fs' sc' ov' T' U' w0' w1' h := hr
  simp only [Prod.mk.injEq] at he
  obtain ⟨rfl, rfl, rfl, rfl⟩ := he
  obtain ⟨g1, g2, g3, g4⟩ := hk
  obtain ⟨h1, a1, b1, c1⟩ := loopCopy (F := f_X6_back_L2 N) (U := 8) (d := 64) (s := 70) (dj := 0) (sj := 0) (by omega) (fun n h => by rw [f_X6_back_L2.eq_2, if_pos (by decide)])
    (fun n j h hj => by
      have hc := nchk2 (j := j) (n := 8) hj (by omega)
      rw [f_X6_back_L2.eq_2, k8, if_neg (nI_ge hj (by omega))]
      simp only [nI_clamp (show j < 2 ^ 31 by omega), if_neg hc, nI_1, Nat.zero_add]) N h (by omega)
  obtain ⟨h2, a2, b2, c2⟩ := loopV (F := f_X6_back_L28 N) (U := 12) (Inv := fun j h2 => (∀ k, k < j → h2 66 k = h1 71 k ∧ h2 67 k = h1 72 k) ∧ Off (fun a _ => a = 66 ∨ a = 67) h1 h2)
    (fun n h hi => by rw [f_X6_back_L28.eq_2, if_pos (by decide)])
    (fun n j h2 hj hi => by
      have hc := nchk2 (j := j) (n := 12) hj (by omega)
      rw [f_X6_back_L28.eq_2, k12, if_neg (nI_ge hj (by omega))]
      simp only [nI_clamp (show j < 2 ^ 31 by omega), if_neg hc, nI_1]
      refine ⟨_, rfl, fun k hk => ?_, Off.up (Off.up hi.2 (by omega)) (by omega)⟩
      have q1 : h2 71 j = h1 71 j := hi.2 71 j (by omega)
      have q2 : h2 72 j = h1 72 j := hi.2 72 j (by omega)
      by_cases q : k = j
      · subst q
        simp only [qup, if_true, show ¬ (66 : Nat) = 67 by omega, show ¬ (72 : Nat) = 66 by omega, if_false]
        exact ⟨q1, q2⟩
      · simp only [qup, if_true, show ¬ (66 : Nat) = 67 by omega, show ¬ (67 : Nat) = 66 by omega, if_false, if_neg q]
        exact hi.1 k (by omega))
    12 0 N h1 (by omega) (by omega) ⟨fun k hk => by omega, Off.rf⟩
  have c3 : Off (fun a _ => a = 64 ∨ a = 66 ∨ a = 67) h h2 := (c1.weaken (by omega)).tr (c2.weaken (by omega))
  have q9 : h2 60 19 = h 60 19 := c3 60 19 (by omega)
  refine ⟨qup h2 60 9 (h2 60 19), ?_, ?_, ?_⟩
  · unfold f_X6_back
    rw [k0, a1, qb, a2, qb]
  · show RM hd fs sc ov T' U' w0' w1' _
    refine ⟨?_, ?_, ?_, fun k hk => ?_, fun k hk => ?_, fun k hk => ?_, ?_, ?_⟩
    · simp only [qup, if_true, show ¬ (3 : Nat) = 9 by omega, if_false]
      rw [c3 60 3 (by omega)]; exact e1
    · simp only [qup, if_true, show ¬ (6 : Nat) = 9 by omega, if_false]
      rw [c3 60 6 (by omega)]; exact e2
    · simp only [qup, if_true]
      rw [q9]; exact g4
    · simp only [qup, show ¬ (64 : Nat) = 60 by omega, if_false]
      rw [c2 64 k (by omega)]
      have := b1 k hk
      rw [Nat.zero_add] at this
      rw [this]; exact g1 k hk
    · simp only [qup, show ¬ (66 : Nat) = 60 by omega, if_false]
      rw [(b2 k hk).1, c1 71 k (by omega)]; exact g2 k hk
    · simp only [qup, show ¬ (67 : Nat) = 60 by omega, if_false]
      rw [(b2 k hk).2, c1 72 k (by omega)]; exact g3 k hk
    · simp only [qup, show ¬ (63 : Nat) = 60 by omega, if_false]
      rw [c3 63 0 (by omega)]; exact e7
    · simp only [qup, show ¬ (63 : Nat) = 60 by omega, if_false]
      rw [c3 63 1 (by omega)]; exact e8
  · exact Off.up (c3.weaken (by intro a k x; unfold PM; omega)) (by unfold PM; omega)
/-! gains -/
def vaC (c : Ct) (g : Gt) (p : Nat) : Int := valN c.1 c.2.1 c.2.2.1 c.2.2.2.1 c.2.2.2.2.1 c.2.2.2.2.2.1 g.2.1 g.2.2.1 p
theorem X4_valueC {N o : Nat} {c : Ct} {g : Gt} {h : qN} (wc : WCt c) {p : Nat} (hp : p < 6) (hN : 12 < N) (hr : RCt o c h) (hg : RG1 1 g h) : f_X4_valueTo N 1 (nI p) o h = some (zI (vaC c g p), h) := by
  obtain ⟨hd, fs, sc, ov, T, U, w0, w1⟩ := c
  obtain ⟨pu, co, wo, so⟩ := g
  exact X4_valueTo wc.1 hp hN hr hg
theorem X6_valueC {N : Nat} {c : Ct} {g : Gt} {h : qN} (wc : WCt c) {p : Nat} (hp : p < 6) (hN : 12 < N) (hr : RMt c h) (hg : RG6 g h) : f_X6_valueOf N (nI p) h = some (zI (vaC c g p), h) := by
  obtain ⟨hd, fs, sc, ov, T, U, w0, w1⟩ := c
  obtain ⟨pu, co, wo, so⟩ := g
  exact X6_valueOf wc.1 hp hN hr hg
def gnC (c : Ct) (g : Gt) (t y p : Nat) : Int := if p = 6 then 0 else vaC (mvC c t y) g p - vaC c g p
theorem X6_gainOf {N : Nat} {c : Ct} {g : Gt} {h : qN} (wc : WCt c) {t y p : Nat} (ht : t < c.2.2.2.2.1) (hy : y ≤ 6) (hp : p ≤ 6) (hN : 12 < N) (hr : RMt c h) (hg : RG6 g h) :
    ∃ h1, f_X6_gainOf N (nI t) (nI y) (nI p) h = some (zI (gnC c g t y p), h1) ∧ RMt c h1 ∧ RG6 g h1 ∧ Off P6 h h1 := by
  unfold f_X6_gainOf gnC
  have en : (nI p = (6 : Int32)) = (p = 6) := propext (nI_eq (a := p) (b := 6) (by omega) (by omega))
  by_cases e : p = 6
  · rw [if_pos (by rw [en]; exact e), if_pos e]
    exact ⟨h, rfl, hr, hg, Off.rf⟩
  · rw [if_neg (by rw [en]; exact e), if_neg e, X6_valueC wc (by omega) hN hr hg, qb]
    obtain ⟨h1, a1, b1, c1⟩ := X6_keeps hN hr
    obtain ⟨h2, a2, b2, c2⟩ := X6_sellsC wc ht hy hN (RM.pk hr c1)
    have g2 := (hg.pk c1).pm c2
    obtain ⟨h3, a3, b3, c3⟩ := X6_back hN (b1.pm c2) b2 rfl
    dsimp only
    rw [a1, qb]
    rw [a2, qb]
    dsimp only
    rw [X6_valueC (wc.mv ht hy) (by omega) hN b2 g2, qb]
    dsimp only
    rw [a3, qb, zI_sub]
    exact ⟨h3, rfl, b3, g2.pm c3, ((c1.weaken PK_6).tr (c2.weaken PM_6)).tr (c3.weaken PM_6)⟩
theorem X5_trySale {N : Nat} {c : Ct} {h : qN} (wc : WCt c) {t y : Nat} (ht : t < c.2.2.2.2.1) (hy : y ≤ 6) (hN : 12 < N) (hr : RCt 2 c h) :
    ∃ h1, f_X5_trySale N (nI t) (nI y) h = some h1 ∧ RCt 19 (mvC c t y) h1 ∧ Off (PC 19) h h1 := by
  obtain ⟨h1, a1, b1, c1⟩ := X0_becomeC (o := 19) (r1 := 2) (by omega) hr
  obtain ⟨h2, a2, b2, c2⟩ := X0_moveC wc ht hy hN b1
  refine ⟨h2, ?_, b2, c1.tr c2⟩
  unfold f_X5_trySale
  rw [a1, qb, a2, qb]
theorem RCt.p19 {c : Ct} {h h1 : qN} (hr : RCt 2 c h) (hh : Off (PC 19) h h1) : RCt 2 c h1 := RC.off hr hh (fun a k x y z => by unfold PC at z; omega)
theorem RG1.p19 {g : Gt} {h h1 : qN} (hr : RG1 1 g h) (hh : Off (PC 19) h h1) : RG1 1 g h1 := hr.off hh (fun a k x y => by unfold PC at y; omega)
theorem X5_gainOf {N : Nat} {c : Ct} {g : Gt} {h : qN} (wc : WCt c) {t y p : Nat} (ht : t < c.2.2.2.2.1) (hy : y ≤ 6) (hp : p ≤ 6) (hN : 12 < N) (hr : RCt 2 c h) (h9 : RCt 19 (mvC c t y) h) (hg : RG1 1 g h) :
    f_X5_gainOf N (nI p) h = some (zI (gnC c g t y p), h) := by
  unfold f_X5_gainOf gnC
  have en : (nI p = (6 : Int32)) = (p = 6) := propext (nI_eq (a := p) (b := 6) (by omega) (by omega))
  by_cases e : p = 6
  · rw [if_pos (by rw [en]; exact e), if_pos e]; rfl
  · rw [if_neg (by rw [en]; exact e), if_neg e, X4_valueC (wc.mv ht hy) (by omega) hN h9 hg, qb]
    dsimp only
    rw [X4_valueC wc (by omega) hN hr hg, qb]
    dsimp only
    rw [zI_sub]
theorem call_gain {N : Nat} (hN : 12 < N) (a b x : Int32) {h : qN} (hj : J h) : OKC (f_X5_gain N a b x) (f_X6_gain N a b x) h := by
  obtain ⟨⟨hd, fs, sc, ov, T, U, w0, w1⟩, ⟨pu, co, wo, so⟩, wc, wg, rc, rg, rm, r6⟩ := hj.1
  have wf : WF hd fs sc ov T U := wc.1
  have hT : T ≤ 8 := wf.1
  have t5 := X5_isThing (h := h) (T := T) rc.1 hT a
  have t6 := X6_isThing (h := h) (T := T) rm.1 hT a
  by_cases c : 0 ≤ a.toInt ∧ a.toInt < T
  · by_cases cb : 0 ≤ b.toInt ∧ b.toInt < 6
    · by_cases cx : 0 ≤ x.toInt ∧ x.toInt ≤ 1
      · obtain ⟨t, ht, rfl, ht2⟩ := ofRange c
        obtain ⟨y, hy, rfl, hy2⟩ := ofRange cb
        obtain ⟨q, hq, rfl, hq2⟩ := ofRangeLe cx
        have ht3 : t < T := by omega
        have h6 : hd t ≤ 6 := wf.2.2.1 t ht3
        have ct : (nI t).toNatClampNeg = t := nI_clamp (by omega)
        have hct := nchk2 (j := t) (n := 8) (by omega) (by omega)
        have e4 : h 4 t = nI (hd t) := rc.2.2.2.1 t (by omega)
        have f4 : h 64 t = nI (hd t) := rm.2.2.2.1 t (by omega)
        have ey : (nI (hd t) = nI y) = (hd t = y) := propext (nI_eq (by omega) (by omega))
        by_cases n1 : hd t = y
        · refine ⟨-100002, h, h, ?_, ?_, hj⟩
          · unfold f_X5_gain
            simp only [t5, X5_isPerson, X6_isPerson, X5_isWithin, X6_in, a64, qb, one0, zero0, if_true, if_false, L0, L1, L2, L4, L5, L6, L9, L10, L15, L16, L60, L99, L999, I0, I1, I6, I9, I16, I60, I99, I999, if_pos c, if_pos cb, if_pos cx, ct, if_neg hct, e4, ey, if_pos n1]
          · unfold f_X6_gain
            simp only [t6, X5_isPerson, X6_isPerson, X5_isWithin, X6_in, a64, qb, one0, zero0, if_true, if_false, L0, L1, L2, L4, L5, L6, L9, L10, L15, L16, L60, L99, L999, I0, I1, I6, I9, I16, I60, I99, I999, if_pos c, if_pos cb, if_pos cx, ct, if_neg hct, f4, ey, if_pos n1]
        · obtain ⟨h1, a1, b1, c1⟩ := X5_trySale (y := y) wc ht3 (by omega) hN rc
          have o5 := c1.weaken PC19_5
          have rm5 : RMt (hd, fs, sc, ov, T, U, w0, w1) h1 := RM.p5 rm o5
          have f4' : h1 64 t = nI (hd t) := rm5.2.2.2.1 t (by omega)
          have t6' := X6_isThing (h := h1) (T := T) rm5.1 hT (nI t)
          have key : ∀ p, p ≤ 6 → (f_X5_gain N (nI t) (nI y) (nI q) h = qbind (f_X5_gainOf N (nI p) h1) fun (x, h) => some (x, h)) → (f_X6_gain N (nI t) (nI y) (nI q) h1 = qbind (f_X6_gainOf N (nI t) (nI y) (nI p) h1) fun (x, h) => some (x, h)) → OKC (f_X5_gain N (nI t) (nI y) (nI q)) (f_X6_gain N (nI t) (nI y) (nI q)) h := by
            intro p hp g5 g6
            obtain ⟨h2, a2, b2, c2, d2⟩ := X6_gainOf (t := t) (y := y) wc ht3 (by omega) hp hN rm5 (r6.p5 o5)
            refine ⟨zI (gnC (hd, fs, sc, ov, T, U, w0, w1) (pu, co, wo, so) t y p), h1, h2, ?_, ?_, hj.bld wc wg (rc.p19 c1) (rg.p19 c1) b2 c2 o5 d2⟩
            · rw [g5, X5_gainOf wc ht3 (by omega) hp hN (rc.p19 c1) b1 (rg.p19 c1), qb]
            · rw [g6, a2, qb]
          rcases (show q = 0 ∨ q = 1 by omega) with rfl | rfl
          · refine key (hd t) h6 ?_ ?_
            · unfold f_X5_gain
              simp only [t5, X5_isPerson, X6_isPerson, X5_isWithin, X6_in, a64, qb, one0, zero0, if_true, if_false, L0, L1, L2, L4, L5, L6, L9, L10, L15, L16, L60, L99, L999, I0, I1, I6, I9, I16, I60, I99, I999, if_pos c, if_pos cb, if_pos cx, ct, if_neg hct, e4, ey, if_neg n1, a1, ne_m2_m2, ne_m2_m1, ne_m2_0, ne_m2_1, ne_m2_2, ne_m2_3, ne_m2_4, ne_m1_m2, ne_m1_m1, ne_m1_0, ne_m1_1, ne_m1_2, ne_m1_3, ne_m1_4, ne_0_m2, ne_0_m1, ne_0_0, ne_0_1, ne_0_2, ne_0_3, ne_0_4, ne_1_m2, ne_1_m1, ne_1_0, ne_1_1, ne_1_2, ne_1_3, ne_1_4, ne_2_m2, ne_2_m1, ne_2_0, ne_2_1, ne_2_2, ne_2_3, ne_2_4, ne_3_m2, ne_3_m1, ne_3_0, ne_3_1, ne_3_2, ne_3_3, ne_3_4, ne_4_m2, ne_4_m1, ne_4_0, ne_4_1, ne_4_2, ne_4_3, ne_4_4, nn_0_m2, nn_0_m1, nn_0_0, nn_0_1, nn_0_2, nn_0_3, nn_0_4, nn_1_m2, nn_1_m1, nn_1_0, nn_1_1, nn_1_2, nn_1_3, nn_1_4, nn_2_m2, nn_2_m1, nn_2_0, nn_2_1, nn_2_2, nn_2_3, nn_2_4, nn_3_m2, nn_3_m1, nn_3_0, nn_3_1, nn_3_2, nn_3_3, nn_3_4, nn_4_m2, nn_4_m1, nn_4_0, nn_4_1, nn_4_2, nn_4_3, nn_4_4]
            · unfold f_X6_gain
              simp only [t6', X5_isPerson, X6_isPerson, X5_isWithin, X6_in, a64, qb, one0, zero0, if_true, if_false, L0, L1, L2, L4, L5, L6, L9, L10, L15, L16, L60, L99, L999, I0, I1, I6, I9, I16, I60, I99, I999, if_pos c, if_pos cb, if_pos cx, ct, if_neg hct, f4', ey, if_neg n1, ne_m2_m2, ne_m2_m1, ne_m2_0, ne_m2_1, ne_m2_2, ne_m2_3, ne_m2_4, ne_m1_m2, ne_m1_m1, ne_m1_0, ne_m1_1, ne_m1_2, ne_m1_3, ne_m1_4, ne_0_m2, ne_0_m1, ne_0_0, ne_0_1, ne_0_2, ne_0_3, ne_0_4, ne_1_m2, ne_1_m1, ne_1_0, ne_1_1, ne_1_2, ne_1_3, ne_1_4, ne_2_m2, ne_2_m1, ne_2_0, ne_2_1, ne_2_2, ne_2_3, ne_2_4, ne_3_m2, ne_3_m1, ne_3_0, ne_3_1, ne_3_2, ne_3_3, ne_3_4, ne_4_m2, ne_4_m1, ne_4_0, ne_4_1, ne_4_2, ne_4_3, ne_4_4, nn_0_m2, nn_0_m1, nn_0_0, nn_0_1, nn_0_2, nn_0_3, nn_0_4, nn_1_m2, nn_1_m1, nn_1_0, nn_1_1, nn_1_2, nn_1_3, nn_1_4, nn_2_m2, nn_2_m1, nn_2_0, nn_2_1, nn_2_2, nn_2_3, nn_2_4, nn_3_m2, nn_3_m1, nn_3_0, nn_3_1, nn_3_2, nn_3_3, nn_3_4, nn_4_m2, nn_4_m1, nn_4_0, nn_4_1, nn_4_2, nn_4_3, nn_4_4]
          · refine key y (by omega) ?_ ?_
            · unfold f_X5_gain
              simp only [t5, X5_isPerson, X6_isPerson, X5_isWithin, X6_in, a64, qb, one0, zero0, if_true, if_false, L0, L1, L2, L4, L5, L6, L9, L10, L15, L16, L60, L99, L999, I0, I1, I6, I9, I16, I60, I99, I999, if_pos c, if_pos cb, if_pos cx, ct, if_neg hct, e4, ey, if_neg n1, a1, ne_m2_m2, ne_m2_m1, ne_m2_0, ne_m2_1, ne_m2_2, ne_m2_3, ne_m2_4, ne_m1_m2, ne_m1_m1, ne_m1_0, ne_m1_1, ne_m1_2, ne_m1_3, ne_m1_4, ne_0_m2, ne_0_m1, ne_0_0, ne_0_1, ne_0_2, ne_0_3, ne_0_4, ne_1_m2, ne_1_m1, ne_1_0, ne_1_1, ne_1_2, ne_1_3, ne_1_4, ne_2_m2, ne_2_m1, ne_2_0, ne_2_1, ne_2_2, ne_2_3, ne_2_4, ne_3_m2, ne_3_m1, ne_3_0, ne_3_1, ne_3_2, ne_3_3, ne_3_4, ne_4_m2, ne_4_m1, ne_4_0, ne_4_1, ne_4_2, ne_4_3, ne_4_4, nn_0_m2, nn_0_m1, nn_0_0, nn_0_1, nn_0_2, nn_0_3, nn_0_4, nn_1_m2, nn_1_m1, nn_1_0, nn_1_1, nn_1_2, nn_1_3, nn_1_4, nn_2_m2, nn_2_m1, nn_2_0, nn_2_1, nn_2_2, nn_2_3, nn_2_4, nn_3_m2, nn_3_m1, nn_3_0, nn_3_1, nn_3_2, nn_3_3, nn_3_4, nn_4_m2, nn_4_m1, nn_4_0, nn_4_1, nn_4_2, nn_4_3, nn_4_4]
            · unfold f_X6_gain
              simp only [t6', X5_isPerson, X6_isPerson, X5_isWithin, X6_in, a64, qb, one0, zero0, if_true, if_false, L0, L1, L2, L4, L5, L6, L9, L10, L15, L16, L60, L99, L999, I0, I1, I6, I9, I16, I60, I99, I999, if_pos c, if_pos cb, if_pos cx, ct, if_neg hct, f4', ey, if_neg n1, ne_m2_m2, ne_m2_m1, ne_m2_0, ne_m2_1, ne_m2_2, ne_m2_3, ne_m2_4, ne_m1_m2, ne_m1_m1, ne_m1_0, ne_m1_1, ne_m1_2, ne_m1_3, ne_m1_4, ne_0_m2, ne_0_m1, ne_0_0, ne_0_1, ne_0_2, ne_0_3, ne_0_4, ne_1_m2, ne_1_m1, ne_1_0, ne_1_1, ne_1_2, ne_1_3, ne_1_4, ne_2_m2, ne_2_m1, ne_2_0, ne_2_1, ne_2_2, ne_2_3, ne_2_4, ne_3_m2, ne_3_m1, ne_3_0, ne_3_1, ne_3_2, ne_3_3, ne_3_4, ne_4_m2, ne_4_m1, ne_4_0, ne_4_1, ne_4_2, ne_4_3, ne_4_4, nn_0_m2, nn_0_m1, nn_0_0, nn_0_1, nn_0_2, nn_0_3, nn_0_4, nn_1_m2, nn_1_m1, nn_1_0, nn_1_1, nn_1_2, nn_1_3, nn_1_4, nn_2_m2, nn_2_m1, nn_2_0, nn_2_1, nn_2_2, nn_2_3, nn_2_4, nn_3_m2, nn_3_m1, nn_3_0, nn_3_1, nn_3_2, nn_3_3, nn_3_4, nn_4_m2, nn_4_m1, nn_4_0, nn_4_1, nn_4_2, nn_4_3, nn_4_4]
      · refine ⟨-100001, h, h, ?_, ?_, hj⟩
        · unfold f_X5_gain
          simp only [t5, X5_isPerson, X6_isPerson, X5_isWithin, X6_in, a64, qb, one0, zero0, if_true, if_false, L0, L1, L2, L4, L5, L6, L9, L10, L15, L16, L60, L99, L999, I0, I1, I6, I9, I16, I60, I99, I999, if_pos c, if_pos cb, if_neg cx]
        · unfold f_X6_gain
          simp only [t6, X5_isPerson, X6_isPerson, X5_isWithin, X6_in, a64, qb, one0, zero0, if_true, if_false, L0, L1, L2, L4, L5, L6, L9, L10, L15, L16, L60, L99, L999, I0, I1, I6, I9, I16, I60, I99, I999, if_pos c, if_pos cb, if_neg cx]
    · refine ⟨-100001, h, h, ?_, ?_, hj⟩
      · unfold f_X5_gain
        simp only [t5, X5_isPerson, X6_isPerson, X5_isWithin, X6_in, a64, qb, one0, zero0, if_true, if_false, L0, L1, L2, L4, L5, L6, L9, L10, L15, L16, L60, L99, L999, I0, I1, I6, I9, I16, I60, I99, I999, if_pos c, if_neg cb]
      · unfold f_X6_gain
        simp only [t6, X5_isPerson, X6_isPerson, X5_isWithin, X6_in, a64, qb, one0, zero0, if_true, if_false, L0, L1, L2, L4, L5, L6, L9, L10, L15, L16, L60, L99, L999, I0, I1, I6, I9, I16, I60, I99, I999, if_pos c, if_neg cb]
  · refine ⟨-100001, h, h, ?_, ?_, hj⟩
    · unfold f_X5_gain
      simp only [t5, X5_isPerson, X6_isPerson, X5_isWithin, X6_in, a64, qb, one0, zero0, if_true, if_false, L0, L1, L2, L4, L5, L6, L9, L10, L15, L16, L60, L99, L999, I0, I1, I6, I9, I16, I60, I99, I999, if_neg c]
    · unfold f_X6_gain
      simp only [t6, X5_isPerson, X6_isPerson, X5_isWithin, X6_in, a64, qb, one0, zero0, if_true, if_false, L0, L1, L2, L4, L5, L6, L9, L10, L15, L16, L60, L99, L999, I0, I1, I6, I9, I16, I60, I99, I999, if_neg c]
