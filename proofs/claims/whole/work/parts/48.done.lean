/-! ===== pure 28: rows of sales in the reference; fewest there ===== -/
def dgN (D n v k : Nat) : Nat := v / D ^ (n - 1 - k) % D
def enc (d : Nat) : Nat := 10 * (d / 6) + d % 6
theorem dgN_0 {D k v : Nat} (hv : v < D ^ (k + 1)) : dgN D (k + 1) v 0 = v / D ^ k := by
  unfold dgN
  rw [show k + 1 - 1 - 0 = k by omega]
  exact Nat.mod_eq_of_lt (dig_of hv).1
theorem dgN_s {D k v i : Nat} (hi : i < k) : dgN D k (v % D ^ k) i = dgN D (k + 1) v (i + 1) := by
  unfold dgN
  rw [show k + 1 - 1 - (i + 1) = k - 1 - i by omega]
  have e : D ^ k = D ^ (k - 1 - i) * D ^ (i + 1) := by rw [← Nat.pow_add]; congr 1; omega
  rw [e, Nat.mod_mul_right_div_self]
  exact Nat.mod_mod_of_dvd _ (by rw [Nat.pow_succ]; exact Nat.dvd_mul_left _ _)
theorem dgN_lt {D n v k : Nat} (h : 0 < D) : dgN D n v k < D := Nat.mod_lt _ h
theorem Dn_le {T n : Nat} (hT : T ≤ 8) (hn : n ≤ 3) : (6 * T) ^ n ≤ 110592 := by
  have h1 : (6 * T) ^ n ≤ 48 ^ n := Nat.pow_le_pow_left (by omega) n
  have h2 : 48 ^ n ≤ 48 ^ 3 := Nat.pow_le_pow_right (by omega) hn
  have h3 : 48 ^ 3 = 110592 := rfl
  omega
section Done
variable {N : Nat}
theorem X6_done_L16 {D n v : Nat} {l2 : Int32} (hD : 0 < D) (hD2 : D ≤ 48) (hn : n ≤ 3) (hv : v < 1000000) : ∀ (j f : Nat) (h : qN), j ≤ n → j < f →
    ∃ h1, f_X6_done_L16 N l2 (nI D) f (nI (v / D ^ (n - j))) (nI j - 1) h = some h1 ∧ (∀ k, k < j → h1 73 k = nI (dgN D n v k)) ∧ Off (fun a k => a = 73 ∧ k < j) h h1 := by
  intro j
  induction j with
  | zero =>
    intro f h hj hf
    obtain ⟨f, rfl⟩ : ∃ m, f = m + 1 := ⟨f - 1, by omega⟩
    rw [f_X6_done_L16.eq_2, if_pos (by decide)]
    exact ⟨h, rfl, fun k hk => by omega, Off.rf⟩
  | succ j ih =>
    intro f h hj hf
    obtain ⟨f, rfl⟩ : ∃ m, f = m + 1 := ⟨f - 1, by omega⟩
    have i1 : nI (j + 1) - 1 = nI j := by rw [k1, pk_sub (by omega)]; rfl
    have hc := nchk2 (j := j) (n := 3) (by omega) (by omega)
    have d0 : ¬ nI D = 0 := by rw [k0, nI_eq (by omega) (by omega)]; omega
    have hvd : v / D ^ (n - (j + 1)) < 1000000 := Nat.lt_of_le_of_lt (Nat.div_le_self _ _) hv
    have dv : nI (v / D ^ (n - (j + 1))) / nI D = nI (v / D ^ (n - j)) := by
      rw [pk_div (by omega) hD (by omega), Nat.div_div_eq_div_mul, ← Nat.pow_succ]
      congr 3
      omega
    have rm : nI (v / D ^ (n - (j + 1))) - nI (v / D ^ (n - j)) * nI D = nI (dgN D n v j) := by
      rw [← dv, pk_rem (by omega) hD (by omega)]
      unfold dgN
      congr 4
      omega
    rw [i1, f_X6_done_L16.eq_2, if_neg (nI_pos (by omega)), if_neg d0, nI_clamp (show j < 2 ^ 31 by omega), if_neg hc, if_neg d0, dv, rm, ← m1eq]
    obtain ⟨h1, a1, b1, c1⟩ := ih f (qup h 73 j (nI (dgN D n v j))) (by omega) (by omega)
    refine ⟨h1, a1, fun k hk => ?_, (off_up (by omega)).tr (c1.weaken (fun a k x => by omega))⟩
    by_cases e : k = j
    · subst e
      rw [c1 73 k (by omega), qup_at]
    · exact b1 k (by omega)
theorem X6_done_L47 (hN : 12 < N) : ∀ (k n j f v : Nat) (c : Ct) (h : qN), n = j + k → n ≤ 3 → k < f → WCt c → RMt c h → v < (6 * c.2.2.2.2.1) ^ k → (∀ i, i < k → h 73 (j + i) = nI (dgN (6 * c.2.2.2.2.1) k v i)) →
    ∃ r h1 c', f_X6_done_L47 N (nI n) f (nI j) h = some r ∧ RMt c' h1 ∧ c'.2.2.2.2 = c.2.2.2.2 ∧ Off PM h h1 ∧ ((vF c k v ∧ r = .inr h1 ∧ c' = eC c k v) ∨ (¬ vF c k v ∧ r = .inl (0, h1))) := by
  intro k
  induction k with
  | zero =>
    intro n j f v c h e hn hf wc hr hv hd
    obtain ⟨f, rfl⟩ : ∃ m, f = m + 1 := ⟨f - 1, by omega⟩
    rw [f_X6_done_L47.eq_2, if_pos (nI_le (by omega) (by omega))]
    exact ⟨_, h, c, rfl, hr, rfl, Off.rf, Or.inl ⟨trivial, rfl, rfl⟩⟩
  | succ k ih =>
    intro n j f v c h e hn hf wc hr hv hd
    obtain ⟨f, rfl⟩ : ∃ m, f = m + 1 := ⟨f - 1, by omega⟩
    have hT : c.2.2.2.2.1 ≤ 8 := wc.1.1
    obtain ⟨d1, d2, -⟩ := dig_of hv
    obtain ⟨t1, t2⟩ := dig_t d1
    have hc := nchk2 (j := j) (n := 3) (by omega) (by omega)
    have e73 : h 73 j = nI (v / (6 * c.2.2.2.2.1) ^ k) := by rw [← dgN_0 hv]; exact hd 0 (by omega)
    generalize hdd : v / (6 * c.2.2.2.2.1) ^ k = d at *
    have q1 : nI d / (6 : Int32) = nI (d / 6) := by rw [show (6 : Int32) = nI 6 from rfl, pk_div (by omega) (by omega) (by omega)]
    have q2 : nI d - nI (d / 6) * (6 : Int32) = nI (d % 6) := by rw [← q1, show (6 : Int32) = nI 6 from rfl, pk_rem (by omega) (by omega) (by omega)]
    have hct := nchk2 (j := d / 6) (n := 8) (by omega) (by omega)
    have h6 : c.1 (d / 6) ≤ 6 := wc.1.2.2.1 _ t1
    have e4 : h 64 (d / 6) = nI (c.1 (d / 6)) := hr.2.2.2.1 _ (by omega)
    have ey : (nI (c.1 (d / 6)) = nI (d % 6)) = (c.1 (d / 6) = d % 6) := propext (nI_eq (by omega) (by omega))
    rw [f_X6_done_L47.eq_2, if_neg (nI_ge (by omega) (by omega))]
    simp only [nI_clamp (show j < 2 ^ 31 by omega), if_neg hc, e73, q1, q2, nI_clamp (show d / 6 < 2 ^ 31 by omega), if_neg hct, e4, ey]
    have vs : vF c (k + 1) v = (c.1 (d / 6) ≠ d % 6 ∧ vF (mvC c (d / 6) (d % 6)) k (v % (6 * c.2.2.2.2.1) ^ k)) := by simp only [vF]; rw [hdd]
    have es : eC c (k + 1) v = eC (mvC c (d / 6) (d % 6)) k (v % (6 * c.2.2.2.2.1) ^ k) := by simp only [eC]; rw [hdd]
    by_cases n1 : c.1 (d / 6) = d % 6
    · rw [if_pos n1]
      exact ⟨_, h, c, rfl, hr, rfl, Off.rf, Or.inr ⟨fun z => by rw [vs] at z; exact z.1 n1, rfl⟩⟩
    · obtain ⟨h1, a1, b1, c1⟩ := X6_sellsC (t := d / 6) (y := d % 6) wc t1 (by omega) hN hr
      rw [if_neg n1, a1, qb]
      dsimp only
      rw [nI_1]
      obtain ⟨r, h2, c', a2, b2, g2, c2, x2⟩ := ih n (j + 1) f (v % (6 * c.2.2.2.2.1) ^ k) (mvC c (d / 6) (d % 6)) h1 (by omega) hn (by omega) (wc.mv t1 (by omega)) b1 d2 (fun i hi => by
        rw [c1 73 _ (by unfold PM; omega), show j + 1 + i = j + (i + 1) by omega, hd (i + 1) (by omega)]
        show nI _ = nI (dgN (6 * c.2.2.2.2.1) k (v % (6 * c.2.2.2.2.1) ^ k) i)
        rw [dgN_s hi])
      refine ⟨r, h2, c', a2, b2, g2, c1.tr c2, ?_⟩
      rcases x2 with ⟨x, y, z⟩ | ⟨x, y⟩
      · exact Or.inl ⟨by rw [vs]; exact ⟨n1, x⟩, y, by rw [es]; exact z⟩
      · exact Or.inr ⟨fun z => x (by rw [vs] at z; exact z.2), y⟩
def PD : Nat → Nat → Prop := fun a k => PM a k ∨ a = 73
theorem X6_done {c : Ct} {n v : Nat} {h : qN} (wc : WCt c) (hN : 12 < N) (hn : n ≤ 3) (hr : RMt c h) (hv : v < (6 * c.2.2.2.2.1) ^ n) :
    ∃ (b : Bool) (h1 : qN) (c' : Ct), f_X6_done N (nI v) (nI n) h = some (nI b.toNat, h1) ∧ RMt c' h1 ∧ c'.2.2.2.2 = c.2.2.2.2 ∧ (b = true ↔ vF c n v) ∧ (b = true → c' = eC c n v) ∧ (∀ k, k < n → h1 73 k = nI (dgN (6 * c.2.2.2.2.1) n v k)) ∧ Off PD h h1 := by
  have hT : c.2.2.2.2.1 ≤ 8 := wc.1.1
  have hb := Dn_le (T := c.2.2.2.2.1) hT hn
  obtain ⟨N, rfl⟩ : ∃ m, N = m + 1 := ⟨N - 1, by omega⟩
  have st : ∃ h1, f_X6_done_L16 (N + 1) (nI n) ((6 : Int32) * (h 60 3)) (N + 1) (nI v) (nI n - (1 : Int32)) h = some h1 ∧ (∀ k, k < n → h1 73 k = nI (dgN (6 * c.2.2.2.2.1) n v k)) ∧ Off (fun a k => a = 73 ∧ k < n) h h1 := by
    rcases Nat.eq_zero_or_pos n with h0 | h0
    · subst h0
      rw [f_X6_done_L16.eq_2, if_pos (by decide)]
      exact ⟨h, rfl, fun k hk => by omega, Off.rf⟩
    · have hD : 0 < 6 * c.2.2.2.2.1 := by
        rcases Nat.eq_zero_or_pos (6 * c.2.2.2.2.1) with hz | hz
        · rw [hz, Nat.zero_pow h0] at hv; omega
        · exact hz
      rw [show h 60 3 = nI c.2.2.2.2.1 from hr.1, show (6 : Int32) = nI 6 from rfl, pk_mul]
      have := X6_done_L16 (N := N + 1) (l2 := nI n) hD (by omega) hn (show v < 1000000 by omega) n (N + 1) h (Nat.le_refl _) (by omega)
      rw [Nat.sub_self, Nat.pow_zero, Nat.div_one] at this
      exact this
  obtain ⟨h1, a1, b1, c1⟩ := st
  have r1 : RMt c h1 := RM.off hr c1 (fun a k x y => by unfold PM at x; omega)
  obtain ⟨r, h2, c', a2, b2, g2, c2, x2⟩ := X6_done_L47 (N := N + 1) hN n n 0 (N + 1) v c h1 (by omega) hn (by omega) wc r1 hv (fun i hi => by rw [Nat.zero_add]; exact b1 i hi)
  have o : Off PD h h2 := (c1.weaken (fun a k x => Or.inr x.1)).tr (c2.weaken (fun a k x => Or.inl x))
  have cells : ∀ k, k < n → h2 73 k = nI (dgN (6 * c.2.2.2.2.1) n v k) := fun k hk => by rw [c2 73 k (by unfold PM; omega)]; exact b1 k hk
  unfold f_X6_done
  rw [a1, qb, k0, a2, qb]
  rcases x2 with ⟨x, rfl, z⟩ | ⟨x, rfl⟩
  · exact ⟨true, h2, c', rfl, b2, g2, ⟨fun _ => x, fun _ => rfl⟩, fun _ => z, cells, o⟩
  · exact ⟨false, h2, c', rfl, b2, g2, ⟨fun z => absurd z (by simp), fun z => absurd z x⟩, fun z => absurd z (by simp), cells, o⟩
theorem X6_notes {n : Nat} {F : Nat → Nat} (hn : n ≤ 3) (hF : ∀ k, k < n → F k < 48) : ∀ (k j f : Nat) (h : qN), n = j + k → k < f → (∀ i, i < n → h 73 i = nI (F i)) → (∀ i, i < j → h 74 i = nI (enc (F i))) →
    ∃ h1, f_X6_notes_L2 N (nI n) f (nI j) h = some h1 ∧ (∀ i, i < n → h1 74 i = nI (enc (F i))) ∧ Off (fun a _ => a = 74) h h1 := by
  intro k
  induction k with
  | zero =>
    intro j f h e hf h3 h4
    obtain ⟨f, rfl⟩ : ∃ m, f = m + 1 := ⟨f - 1, by omega⟩
    rw [f_X6_notes_L2.eq_2, if_pos (nI_le (by omega) (by omega))]
    exact ⟨h, rfl, fun i hi => h4 i (by omega), Off.rf⟩
  | succ k ih =>
    intro j f h e hf h3 h4
    obtain ⟨f, rfl⟩ : ∃ m, f = m + 1 := ⟨f - 1, by omega⟩
    have hc := nchk2 (j := j) (n := 3) (by omega) (by omega)
    have hd := hF j (by omega)
    have q1 : nI (F j) / (6 : Int32) = nI (F j / 6) := by rw [show (6 : Int32) = nI 6 from rfl, pk_div (by omega) (by omega) (by omega)]
    have q2 : nI (F j) - nI (F j / 6) * (6 : Int32) = nI (F j % 6) := by rw [← q1, show (6 : Int32) = nI 6 from rfl, pk_rem (by omega) (by omega) (by omega)]
    have q3 : (10 : Int32) * nI (F j / 6) + nI (F j % 6) = nI (enc (F j)) := by rw [k10, pk_mul, nI_add]; rfl
    rw [f_X6_notes_L2.eq_2, if_neg (nI_ge (by omega) (by omega))]
    simp only [nI_clamp (show j < 2 ^ 31 by omega), if_neg hc, h3 j (by omega), q1, q2, q3, nI_1]
    obtain ⟨h1, a1, b1, c1⟩ := ih (j + 1) f (qup h 74 j (nI (enc (F j)))) (by omega) (by omega) h3 (fun i hi => by
      by_cases q : i = j
      · subst q; exact qup_at _ _ _ _
      · simp only [qup, if_true, if_neg q]; exact h4 i (by omega))
    exact ⟨h1, a1, b1, Off.tr (off_up (P := fun a _ => a = 74) rfl) c1⟩
/-! what is still wanted, as a word -/
theorem w_full {U : Nat} (hU : U ≤ 12) {i : Nat} (hi : i < 32) : bt ((1 : Int32) <<< (nI U &&& 31) - 1) i = decide (i < U) := by
  have := pow_le hU
  rw [shl1 hU, k1, pk_sub this.1, nI_bt (by omega) hi, Nat.testBit_two_pow_sub_one]
def spB (nv : Int32) : Nat → Bool := fun s => bt nv s
theorem w_want {w nv : Int32} {ov : Nat → Bool} {U : Nat} (hU : U ≤ 12) (h : OVW w ov) : (w &&& ((((1 : Int32) <<< (nI U &&& 31)) - (1 : Int32)) &&& (nv ^^^ (-1 : Int32)))) = ((((1 : Int32) <<< (nI U &&& 31)) - (1 : Int32)) &&& (nv ^^^ (-1 : Int32))) ↔ ∀ s, s < U → ov s = true ∨ spB nv s = true := by
  have bl : ∀ i, i < 32 → bt ((((1 : Int32) <<< (nI U &&& 31)) - (1 : Int32)) &&& (nv ^^^ (-1 : Int32))) i = (decide (i < U) && !(bt nv i)) := fun i hi => by
    rw [b_and, w_full hU hi, b_xor, b_m1 i hi]
    cases bt nv i <;> simp
  constructor
  · intro e s hs
    have h1 : bt (w &&& ((((1 : Int32) <<< (nI U &&& 31)) - (1 : Int32)) &&& (nv ^^^ (-1 : Int32)))) s = bt ((((1 : Int32) <<< (nI U &&& 31)) - (1 : Int32)) &&& (nv ^^^ (-1 : Int32))) s := by rw [e]
    rw [b_and, bl s (by omega), h s (by omega)] at h1
    unfold spB
    cases hb : bt nv s with
    | true => exact Or.inr rfl
    | false =>
      rw [hb] at h1
      simp [hs, show s < 12 by omega] at h1
      exact Or.inl h1
  · intro hh
    apply b_ext
    intro i hi
    rw [b_and, bl i hi, h i hi]
    by_cases hs : i < U
    · rcases hh i hs with q | q
      · simp [hs, q, show i < 12 by omega]
      · unfold spB at q; simp [q]
    · simp [hs]
/-- a row is good -/
def gd (c : Ct) (sp : Nat → Bool) (n v : Nat) : Prop := vF c n v ∧ endd (eC c n v) sp
def PF : Nat → Nat → Prop := fun a k => PM a k ∨ a = 73 ∨ a = 74
theorem PD_F : ∀ a k, PD a k → PF a k := fun a k x => by
  rcases x with x | x
  · exact Or.inl x
  · exact Or.inr (Or.inl x)
theorem RK.pd {c : Ct} {h h1 : qN} (hr : RK c h) (hh : Off PD h h1) : RK c h1 := hr.off hh (fun a k x y => by unfold PK at x; unfold PD PM at y; omega)
abbrev wnt (c : Ct) : Int32 := (((1 : Int32) <<< (nI c.2.2.2.2.2.1 &&& 31)) - (1 : Int32)) &&& (nvC c ^^^ (-1 : Int32))
theorem X6_few_L32 {c : Ct} {n : Nat} (wc : WCt c) (hN : 12 < N) (hn : n ≤ 3) : ∀ (k j f : Nat) (h : qN), (6 * c.2.2.2.2.1) ^ n = j + k → k < f → RMt c h → RK c h → (∀ v, v < j → ¬ gd c (spB (nvC c)) n v) →
    ∃ r h1, f_X6_fewestOf_L32 N (wnt c) (nI ((6 * c.2.2.2.2.1) ^ n)) (nI n) f (nI j) h = some r ∧ RMt c h1 ∧ RK c h1 ∧ Off PF h h1 ∧ ((r = .inr h1 ∧ ∀ v, v < (6 * c.2.2.2.2.1) ^ n → ¬ gd c (spB (nvC c)) n v) ∨
      (∃ v, v < (6 * c.2.2.2.2.1) ^ n ∧ r = .inl (nI n, h1) ∧ gd c (spB (nvC c)) n v ∧ (∀ v', v' < v → ¬ gd c (spB (nvC c)) n v') ∧ ∀ i, i < n → h1 74 i = nI (enc (dgN (6 * c.2.2.2.2.1) n v i)))) := by
  have hT : c.2.2.2.2.1 ≤ 8 := wc.1.1
  have hU : c.2.2.2.2.2.1 ≤ 12 := wc.1.2.1
  have hb := Dn_le (T := c.2.2.2.2.1) hT hn
  intro k
  induction k with
  | zero =>
    intro j f h e hf hr hk hj
    obtain ⟨f, rfl⟩ : ∃ m, f = m + 1 := ⟨f - 1, by omega⟩
    rw [f_X6_fewestOf_L32.eq_2, if_pos (nI_le (by omega) (by omega))]
    exact ⟨_, h, rfl, hr, hk, Off.rf, Or.inl ⟨rfl, fun v hv => hj v (by omega)⟩⟩
  | succ k ih =>
    intro j f h e hf hr hk hj
    obtain ⟨f, rfl⟩ : ∃ m, f = m + 1 := ⟨f - 1, by omega⟩
    have hjD : j < (6 * c.2.2.2.2.1) ^ n := by omega
    obtain ⟨b, h1, c', a1, b1, g1, x1, y1, z1, o1⟩ := X6_done wc hN hn hr hjD
    obtain ⟨h2, a2, b2, o2⟩ := X6_back hN (hk.pd o1) b1 g1
    have k2' : RK c h2 := (hk.pd o1).pm o2
    have oo : Off PF h h2 := (o1.weaken PD_F).tr (o2.weaken (fun a k x => Or.inl x))
    rw [f_X6_fewestOf_L32.eq_2, if_neg (nI_ge (by omega) (by omega)), a1, qb]
    dsimp only
    rw [a2, qb]
    have cond : ((if nI b.toNat = 0 then (0 : Int32) else (if ((h1 60 9) &&& wnt c) = wnt c then (1 : Int32) else (0 : Int32))) = 0) ↔ ¬ gd c (spB (nvC c)) n j := by
      cases b with
      | false =>
        rw [if_pos bF]
        exact ⟨fun _ z => absurd (x1.mpr z.1) (by simp), fun _ => rfl⟩
      | true =>
        rw [if_neg bT]
        have hc' := y1 rfl
        subst hc'
        have hU' : (eC c n j).2.2.2.2.2.1 = c.2.2.2.2.2.1 := congrArg (fun z => z.2.1) (eC_T n j c)
        have ww : (((h1 60 9) &&& wnt c) = wnt c) ↔ endd (eC c n j) (spB (nvC c)) := by
          unfold endd
          rw [hU']
          exact w_want hU b1.2.2.1
        by_cases q : ((h1 60 9) &&& wnt c) = wnt c
        · rw [if_pos q]
          exact ⟨fun z => absurd z (by decide), fun z => absurd ⟨x1.mp rfl, ww.mp q⟩ z⟩
        · rw [if_neg q]
          exact ⟨fun _ z => q (ww.mpr z.2), fun _ => rfl⟩
    by_cases q : gd c (spB (nvC c)) n j
    · rw [if_neg (fun z => cond.mp z q)]
      have cells : ∀ i, i < n → h2 73 i = nI (dgN (6 * c.2.2.2.2.1) n j i) := fun i hi => by rw [o2 73 i (by unfold PM; omega)]; exact z1 i hi
      obtain ⟨h3, a3, b3, o3⟩ := X6_notes (N := N) (F := dgN (6 * c.2.2.2.2.1) n j) hn (fun i hi => by
          have hD : 0 < 6 * c.2.2.2.2.1 := by
            rcases Nat.eq_zero_or_pos (6 * c.2.2.2.2.1) with hz | hz
            · rw [hz, Nat.zero_pow (by omega)] at hjD; omega
            · exact hz
          have := dgN_lt (D := 6 * c.2.2.2.2.1) (n := n) (v := j) (k := i) hD
          omega) n 0 N h2 (by omega) (by omega) cells (fun i hi => by omega)
      refine ⟨_, h3, ?_, RM.off b2 o3 (fun a k x y => by unfold PM at x; omega), k2'.off o3 (fun a k x y => by unfold PK at x; omega), oo.tr (o3.weaken (fun a k x => Or.inr (Or.inr x))), Or.inr ⟨j, hjD, rfl, q, hj, b3⟩⟩
      unfold f_X6_notes
      rw [k0, a3, qb, qb]
    · rw [if_pos (cond.mpr q), nI_1]
      obtain ⟨r, h3, a3, b3, c3, o3, x3⟩ := ih (j + 1) f h2 (by omega) (by omega) b2 k2' (fun v hv => by
        by_cases e : v = j
        · subst e; exact q
        · exact hj v (by omega))
      exact ⟨r, h3, a3, b3, c3, oo.tr o3, x3⟩
/-- the least row of all -/
def FW (c : Ct) (sp : Nat → Bool) (r : Option (Nat × Nat)) : Prop := match r with
  | none => ∀ m v, m < 4 → v < (6 * c.2.2.2.2.1) ^ m → ¬ gd c sp m v
  | some (m, v) => m < 4 ∧ v < (6 * c.2.2.2.2.1) ^ m ∧ gd c sp m v ∧ (∀ m' v', m' < m → v' < (6 * c.2.2.2.2.1) ^ m' → ¬ gd c sp m' v') ∧ (∀ v', v' < v → ¬ gd c sp m v')
theorem FW.uniq {c : Ct} {sp : Nat → Bool} {r r' : Option (Nat × Nat)} (h : FW c sp r) (h' : FW c sp r') : r = r' := by
  cases r with
  | none =>
    cases r' with
    | none => rfl
    | some p => obtain ⟨m, v⟩ := p; exact absurd h'.2.2.1 (h m v h'.1 h'.2.1)
  | some p =>
    obtain ⟨m, v⟩ := p
    cases r' with
    | none => exact absurd h.2.2.1 (h' m v h.1 h.2.1)
    | some p' =>
      obtain ⟨m', v'⟩ := p'
      obtain ⟨a1, a2, a3, a4, a5⟩ := h
      obtain ⟨b1, b2, b3, b4, b5⟩ := h'
      have em : m = m' := by
        rcases Nat.lt_trichotomy m m' with q | q | q
        · exact absurd a3 (b4 m v q a2)
        · exact q
        · exact absurd b3 (a4 m' v' q b2)
      subst em
      have ev : v = v' := by
        rcases Nat.lt_trichotomy v v' with q | q | q
        · exact absurd a3 (b5 v q)
        · exact q
        · exact absurd b3 (a5 v' q)
      subst ev
      rfl
theorem X6_few_L24 {c : Ct} (wc : WCt c) (hN : 110600 < N) : ∀ (k n f : Nat) (h : qN), 4 = n + k → k < f → RMt c h → RK c h → (∀ m v, m < n → v < (6 * c.2.2.2.2.1) ^ m → ¬ gd c (spB (nvC c)) m v) →
    ∃ r h1 R, f_X6_fewestOf_L24 N (wnt c) f (nI ((6 * c.2.2.2.2.1) ^ n)) (nI n) h = some r ∧ RMt c h1 ∧ RK c h1 ∧ Off PF h h1 ∧ FW c (spB (nvC c)) R ∧ ((R = none ∧ r = .inr h1) ∨ ∃ m v, R = some (m, v) ∧ r = .inl (nI m, h1) ∧ ∀ i, i < m → h1 74 i = nI (enc (dgN (6 * c.2.2.2.2.1) m v i))) := by
  have hT : c.2.2.2.2.1 ≤ 8 := wc.1.1
  intro k
  induction k with
  | zero =>
    intro n f h e hf hr hk hj
    obtain ⟨f, rfl⟩ : ∃ m, f = m + 1 := ⟨f - 1, by omega⟩
    rw [f_X6_fewestOf_L24.eq_2, k4, if_pos (nI_le (by omega) (by omega))]
    exact ⟨_, h, none, rfl, hr, hk, Off.rf, fun m v h1 h2 => hj m v (by omega) h2, Or.inl ⟨rfl, rfl⟩⟩
  | succ k ih =>
    intro n f h e hf hr hk hj
    obtain ⟨f, rfl⟩ : ∃ m, f = m + 1 := ⟨f - 1, by omega⟩
    have hb := Dn_le (T := c.2.2.2.2.1) (n := n) hT (by omega)
    obtain ⟨r, h1, a1, b1, c1, o1, x1⟩ := X6_few_L32 (N := N) (n := n) wc (by omega) (by omega) ((6 * c.2.2.2.2.1) ^ n) 0 N h (by omega) (by omega) hr hk (fun v hv => by omega)
    rw [f_X6_fewestOf_L24.eq_2, k4, if_neg (nI_ge (by omega) (by omega)), k0, a1, qb]
    rcases x1 with ⟨rfl, nx⟩ | ⟨v, hv, rfl, hg, hl, hcell⟩
    · dsimp only
      rw [show h1 60 3 = nI c.2.2.2.2.1 from b1.1, show (6 : Int32) = nI 6 from rfl, pk_mul, pk_mul, ← Nat.pow_succ, nI_1]
      obtain ⟨r, h2, R, a2, b2, c2, o2, x2, y2⟩ := ih (n + 1) f h1 (by omega) (by omega) b1 c1 (fun m v h1 h2 => by
        by_cases e : m = n
        · subst e; exact nx v h2
        · exact hj m v (by omega) h2)
      exact ⟨r, h2, R, a2, b2, c2, o1.tr o2, x2, y2⟩
    · exact ⟨_, h1, some (n, v), rfl, b1, c1, o1, ⟨by omega, hv, hg, hj, hl⟩, Or.inr ⟨n, v, rfl, rfl, hcell⟩⟩
def PFK : Nat → Nat → Prop := fun a k => PK a k ∨ PF a k
theorem PFK_6 : ∀ a k, PFK a k → P6 a k := fun a k x => by unfold PFK PF PK PM at x; unfold P6; omega
theorem RG6.pfk {g : Gt} {h h1 : qN} (hr : RG6 g h) (hh : Off PFK h h1) : RG6 g h1 := hr.off hh (fun a k x y => by unfold PFK PF PK PM at y; omega)
theorem X6_fewestOf_ok {c : Ct} {h : qN} (wc : WCt c) (hN : 110600 < N) (hr : RMt c h) :
    ∃ h1 R, FW c (spB (nvC c)) R ∧ f_X6_fewestOf N h = some ((match R with | none => 4 | some (m, _) => nI m), h1) ∧ RMt c h1 ∧ Off PFK h h1 ∧ ∀ m v, R = some (m, v) → ∀ i, i < m → h1 74 i = nI (enc (dgN (6 * c.2.2.2.2.1) m v i)) := by
  obtain ⟨h1, a1, b1, c1⟩ := X6_keeps (N := N) (by omega) hr
  have r1 : RMt c h1 := RM.pk hr c1
  obtain ⟨r, h2, R, a2, b2, c2, o2, x2, y2⟩ := X6_few_L24 (N := N) wc hN 4 0 N h1 (by omega) (by omega) r1 b1 (fun m v hm => by omega)
  have o : Off PFK h h2 := (c1.weaken (fun a k x => Or.inl x)).tr (o2.weaken (fun a k x => Or.inr x))
  refine ⟨h2, R, x2, ?_, b2, o, ?_⟩
  · unfold f_X6_fewestOf
    rw [X6_neverC wc (by omega) hr, qb]
    dsimp only
    rw [a1, qb, show h 60 6 = nI c.2.2.2.2.2.1 from hr.2.1]
    rw [show f_X6_fewestOf_L24 N ((((1 : Int32) <<< (nI c.2.2.2.2.2.1 &&& 31)) - (1 : Int32)) &&& (nvC c ^^^ (-1 : Int32))) N (1 : Int32) (0 : Int32) h1 = some r from by rw [Nat.pow_zero] at a2; exact a2, qb]
    rcases y2 with ⟨rfl, rfl⟩ | ⟨m, v, rfl, rfl, -⟩ <;> rfl
  · intro m v hR
    rcases y2 with ⟨rfl, -⟩ | ⟨m', v', rfl, -, y⟩
    · exact absurd hR (by simp)
    · have := Option.some.inj hR
      simp only [Prod.mk.injEq] at this
      obtain ⟨rfl, rfl⟩ := this
      exact y
end Done
