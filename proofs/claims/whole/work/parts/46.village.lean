/-! ===== pure 26: village, suits ===== -/
theorem rdS_inv {tp : Nat → Nat} {len w sep : Nat} {cl : Nat → Nat → (Nat → Nat) → Bool × Nat × (Nat → Nat)} {Q : Nat → (Nat → Nat) → Prop}
    (hcl : ∀ l p F, (∀ t, t < l → Q t F) → (cl (w * l) p F).1 = true → ∀ t, t < l + 1 → Q t (cl (w * l) p F).2.2) :
    ∀ (k l p : Nat) (F : Nat → Nat), (∀ t, t < l → Q t F) → (rdS tp len cl w sep k l p F).1 = true → l + 1 ≤ (rdS tp len cl w sep k l p F).2.1 ∧ (rdS tp len cl w sep k l p F).2.1 ≤ l + k ∧ ∀ t, t < (rdS tp len cl w sep k l p F).2.1 → Q t (rdS tp len cl w sep k l p F).2.2.2 := by
  intro k
  induction k with
  | zero => intro l p F hQ h; exact absurd h (by simp [rdS])
  | succ k ih =>
    intro l p F hQ h
    simp only [rdS] at h ⊢
    by_cases c : (cl (w * l) p F).1 = true
    · simp only [if_pos c] at h ⊢
      by_cases s0 : sg tp len (cl (w * l) p F).2.1 = 0
      · simp only [if_pos s0] at h ⊢
        exact ⟨Nat.le_refl _, by omega, hcl l p F hQ c⟩
      · simp only [if_neg s0] at h ⊢
        by_cases s1 : sg tp len (cl (w * l) p F).2.1 = sep ∧ k ≠ 0
        · simp only [if_pos s1] at h ⊢
          have := ih (l + 1) _ _ (hcl l p F hQ c) h
          exact ⟨by omega, by omega, this.2.2⟩
        · simp only [if_neg s1] at h; exact absurd h (by simp)
    · simp only [if_neg c] at h; exact absurd h (by simp)
theorem digS_inv {tp : Nat → Nat} {len : Nat} : ∀ (k b p : Nat) (F : Nat → Nat), (∀ x, x < b → (digS tp len k b p F).2.2 x = F x) ∧ ((digS tp len k b p F).1 = true → ∀ x, b ≤ x → x < b + k → (digS tp len k b p F).2.2 x ≤ 9) := by
  intro k
  induction k with
  | zero => intro b p F; exact ⟨fun x _ => rfl, fun _ x h1 h2 => by omega⟩
  | succ k ih =>
    intro b p F
    simp only [digS]
    by_cases c : 48 ≤ sg tp len p ∧ sg tp len p ≤ 57
    · rw [if_pos c]
      obtain ⟨a1, a2⟩ := ih (b + 1) (sk tp len p + 1) (fun x => if x = b then sg tp len p - 48 else F x)
      refine ⟨fun x hx => ?_, fun h x h1 h2 => ?_⟩
      · rw [a1 x (by omega), if_neg (by omega)]
      · by_cases e : x = b
        · rw [a1 x (by omega), if_pos e]; omega
        · exact a2 h x (by omega) (by omega)
    · rw [if_neg c]
      exact ⟨fun x _ => rfl, fun z => absurd z (by simp)⟩
def vQ (t : Nat) (F : Nat → Nat) : Prop := F (7 * t) ≤ 6 ∧ ∀ j, j < 6 → F (7 * t + 1 + j) ≤ 9
theorem thS_inv {tp : Nat → Nat} {len : Nat} (l p : Nat) (F : Nat → Nat) (hQ : ∀ t, t < l → vQ t F) (h : (thS tp len (7 * l) p F).1 = true) : ∀ t, t < l + 1 → vQ t (thS tp len (7 * l) p F).2.2 := by
  have main : ∀ (v q : Nat), v ≤ 6 → (digS tp len 6 (7 * l + 1) q (fun x => if x = 7 * l then v else F x)).1 = true → ∀ t, t < l + 1 → vQ t (digS tp len 6 (7 * l + 1) q (fun x => if x = 7 * l then v else F x)).2.2 := by
    intro v q hv hd t ht
    obtain ⟨a1, a2⟩ := digS_inv (tp := tp) (len := len) 6 (7 * l + 1) q (fun x => if x = 7 * l then v else F x)
    by_cases e : t = l
    · subst e
      refine ⟨?_, fun j hj => a2 hd _ (by omega) (by omega)⟩
      rw [a1 _ (by omega), if_pos rfl]; exact hv
    · obtain ⟨q1, q2⟩ := hQ t (by omega)
      refine ⟨?_, fun j hj => ?_⟩
      · rw [a1 _ (by omega), if_neg (by omega)]; exact q1
      · rw [a1 _ (by omega), if_neg (by omega)]; exact q2 j hj
  unfold thS at h ⊢
  by_cases d : sg tp len p = 45
  · rw [if_pos d] at h ⊢
    exact main 6 _ (by omega) h
  · rw [if_neg d] at h ⊢
    by_cases d2 : 48 ≤ sg tp len p ∧ sg tp len p ≤ 53
    · rw [if_pos d2] at h ⊢
      exact main _ _ (by omega) h
    · rw [if_neg d2] at h; exact absurd h (by simp)
def sQ (T t : Nat) (F : Nat → Nat) : Prop := okS T (F (2 * t)) ∧ okS T (F (2 * t + 1)) ∧ F (2 * t) ≠ F (2 * t + 1)
theorem suS_inv {tp : Nat → Nat} {len T : Nat} (hT : T ≤ 8) (l p : Nat) (F : Nat → Nat) (hQ : ∀ t, t < l → sQ T t F) (h : (suS tp len T (2 * l) p F).1 = true) : ∀ t, t < l + 1 → sQ T t (suS tp len T (2 * l) p F).2.2 := by
  unfold suS at h ⊢
  cases hs : sdS T (sg tp len p) with
  | none => rw [hs] at h; exact absurd h (by simp)
  | some x =>
    rw [hs] at h
    dsimp only at h ⊢
    cases hs2 : sdS T (sg tp len (sk tp len p + 1)) with
    | none => rw [hs2] at h; exact absurd h (by simp)
    | some y =>
      rw [hs2] at h
      dsimp only at h ⊢
      by_cases e : y = x
      · rw [if_pos e] at h; exact absurd h (by simp)
      · rw [if_neg e]
        obtain ⟨-, xo, -⟩ := sdS_le hT hs
        obtain ⟨-, yo, -⟩ := sdS_le hT hs2
        intro t ht
        unfold sQ
        dsimp only
        by_cases q : t = l
        · subst q
          rw [if_neg (show ¬ 2 * t = 2 * t + 1 by omega), if_pos rfl, if_pos rfl]
          exact ⟨xo, yo, fun z => e z.symm⟩
        · rw [if_neg (show ¬ 2 * t = 2 * l + 1 by omega), if_neg (show ¬ 2 * t = 2 * l by omega), if_neg (show ¬ 2 * t + 1 = 2 * l + 1 by omega), if_neg (show ¬ 2 * t + 1 = 2 * l by omega)]
          exact hQ t (by omega)
/-! the village that is read -/
def vlH (hd F : Nat → Nat) (n : Nat) : Nat → Nat := fun k => if k < n then F (7 * k) else hd k
def vlW (wo F : Nat → Nat) (n : Nat) : Nat → Nat := fun k => if k < 6 * n then F (7 * (k / 6) + 1 + k % 6) else wo k
theorem vlH_s (hd F : Nat → Nat) (n : Nat) : (fun k => if k = n then F (7 * n) else vlH hd F n k) = vlH hd F (n + 1) := by
  funext k
  unfold vlH
  by_cases e : k = n
  · subst e; rw [if_pos rfl, if_pos (by omega)]
  · rw [if_neg e]
    by_cases c : k < n
    · rw [if_pos c, if_pos (by omega)]
    · rw [if_neg c, if_neg (by omega)]
theorem vlW_s (wo F : Nat → Nat) (n : Nat) : (fun k => if 6 * n ≤ k ∧ k < 6 * n + 6 then F (7 * n + 1 + (k - 6 * n)) else vlW wo F n k) = vlW wo F (n + 1) := by
  funext k
  unfold vlW
  by_cases e : 6 * n ≤ k ∧ k < 6 * n + 6
  · rw [if_pos e, if_pos (by omega), show k / 6 = n by omega, show k % 6 = k - 6 * n by omega]
  · rw [if_neg e]
    by_cases c : k < 6 * n
    · rw [if_pos c, if_pos (by omega)]
    · rw [if_neg c, if_neg (by omega)]
section Vil
variable {N : Nat} {F : Nat → Nat} {h : qN} {x : Int32}
theorem X4_take_L {m : Nat} (hm : m ≤ 8) : ∀ (k j n : Nat) (h : qN) (hd wo : Nat → Nat), m = j + k → k < n → h 2 4 = nI j → (∀ k, k < 8 → h 4 k = nI (vlH hd F j k)) → (∀ k, k < 48 → h 9 k = nI (vlW wo F j k)) → (∀ x, x < 7 * m → h 50 x = nI (F x)) →
    ∃ h1, f_X4_takeThings_L26 N 1 50 56 (nI m) n (nI j) h = some h1 ∧ h1 2 4 = nI m ∧ (∀ k, k < 8 → h1 4 k = nI (vlH hd F m k)) ∧ (∀ k, k < 48 → h1 9 k = nI (vlW wo F m k)) ∧ Off (fun a k => (a = 2 ∧ k = 4) ∨ a = 4 ∨ a = 9) h h1 := by
  intro k
  induction k with
  | zero =>
    intro j n h hd wo e hn e4 eh ew hF
    obtain ⟨n, rfl⟩ : ∃ m, n = m + 1 := ⟨n - 1, by omega⟩
    have : j = m := by omega
    subst this
    rw [f_X4_takeThings_L26.eq_2, if_pos (nI_le (by omega) (by omega))]
    exact ⟨h, rfl, e4, eh, ew, Off.rf⟩
  | succ k ih =>
    intro j n h hd wo e hn e4 eh ew hF
    obtain ⟨n, rfl⟩ : ∃ m, n = m + 1 := ⟨n - 1, by omega⟩
    have i7 : nI j * (7 : Int32) = nI (7 * j) := by rw [k7, pk_mul, Nat.mul_comm]
    have i6 : nI j * (6 : Int32) = nI (6 * j) := by rw [k6, pk_mul, Nat.mul_comm]
    have hc1 := nchk2 (j := 7 * j) (n := 56) (by omega) (by omega)
    have hc2 := nchk2 (j := j) (n := 8) (by omega) (by omega)
    have cop : ¬ nI (7 * j + 1) < 0 ∧ ¬ nI (6 * j) < 0 ∧ ¬ (6 : Int32) < 0 ∧ 7 * j + 1 + 6 ≤ 56 ∧ 6 * j + 6 ≤ 48 := ⟨nI_pos (by omega), nI_pos (by omega), by decide, by omega, by omega⟩
    have ad : f_X0_addThing (1 + 1) (h 50 (7 * j)) h = some (nI j, qup (qup h 4 j (nI (F (7 * j)))) 2 4 (nI (j + 1))) := by
      show f_X0_addThing 2 (h 50 (7 * j)) h = _
      unfold f_X0_addThing
      have q1 : (qup h (2 + 2) j (nI (F (7 * j)))) 2 4 = nI j := e4
      simp only [e4, nI_clamp (show j < 2 ^ 31 by omega), if_neg hc2, hF (7 * j) (by omega), q1, nI_1]
    rw [f_X4_takeThings_L26.eq_2, if_neg (nI_ge (by omega) (by omega)), i7, nI_clamp (show 7 * j < 2 ^ 31 by omega), if_neg hc1, ad, qb]
    simp only [i6, nI_1, nI_clamp (show 7 * j + 1 < 2 ^ 31 by omega), nI_clamp (show 6 * j < 2 ^ 31 by omega)]
    rw [if_pos cop]
    obtain ⟨h1, a1, b1, c1, d1, o1⟩ := ih (j + 1) n (qrow (qup (qup h 4 j (nI (F (7 * j)))) 2 4 (nI (j + 1))) (1 + 8) (va_cpy ((qup (qup h 4 j (nI (F (7 * j)))) 2 4 (nI (j + 1))) 50) ((qup (qup h 4 j (nI (F (7 * j)))) 2 4 (nI (j + 1))) (1 + 8)) (7 * j + 1) (6 * j) 6)) hd wo (by omega) (by omega) (by simp [qrow, qup])
      (fun k hk => by
        simp only [qrow, qup, show ¬ (4 : Nat) = 1 + 8 by omega, show ¬ (4 : Nat) = 2 by omega, if_false, if_true]
        rw [← vlH_s]
        dsimp only
        by_cases q : k = j
        · rw [if_pos q, if_pos q]
        · rw [if_neg q, if_neg q]; exact eh k hk)
      (fun k hk => by
        rw [← vlW_s]
        simp only [qrow, if_true, va_cpy, qup, show ¬ (50 : Nat) = 2 by omega, show ¬ (50 : Nat) = 4 by omega, show ¬ (1 + 8 : Nat) = 2 by omega, show ¬ (1 + 8 : Nat) = 4 by omega, if_false]
        by_cases q : 6 * j ≤ k ∧ k < 6 * j + 6
        · rw [if_pos q, if_pos q, hF _ (by omega)]
        · rw [if_neg q, if_neg q]; exact ew k hk)
      (fun x hx => by
        simp only [qrow, qup, show ¬ (50 : Nat) = 2 by omega, show ¬ (50 : Nat) = 4 by omega, show ¬ (50 : Nat) = 1 + 8 by omega, if_false]
        exact hF x hx)
    refine ⟨h1, a1, b1, c1, d1, Off.tr (fun a k ha => ?_) o1⟩
    simp only [qrow, qup, if_neg (show ¬ a = 1 + 8 by omega), if_neg (show ¬ a = 4 by omega)]
    by_cases q : a = 2
    · rw [if_pos q, if_neg (by omega)]
    · rw [if_neg q]
theorem X6_village_row {t : Nat} (ht : t < 8) : ∀ (k j n : Nat) (h : qN), 6 = j + k → k < n →
    ∃ h1, f_X6_village_L49 N x (nI t) n (nI j) h = some h1 ∧ (∀ i, j ≤ i → i < 6 → h1 65 (6 * t + i) = h 69 (7 * t + 1 + i)) ∧ Off (fun a k => a = 65 ∧ 6 * t + j ≤ k ∧ k < 6 * t + 6) h h1 := by
  intro k
  induction k with
  | zero =>
    intro j n h e hn
    obtain ⟨n, rfl⟩ : ∃ m, n = m + 1 := ⟨n - 1, by omega⟩
    rw [f_X6_village_L49.eq_2, show j = 6 by omega, if_pos (by decide)]
    exact ⟨h, rfl, fun i h1 h2 => by omega, Off.rf⟩
  | succ k ih =>
    intro j n h e hn
    obtain ⟨n, rfl⟩ : ∃ m, n = m + 1 := ⟨n - 1, by omega⟩
    have i7 : (7 : Int32) * nI t = nI (7 * t) := by rw [k7, pk_mul]
    have i6 : (6 : Int32) * nI t = nI (6 * t) := by rw [show (6 : Int32) = nI 6 from rfl, pk_mul]
    have hc1 := nchk2 (j := 7 * t + 1 + j) (n := 56) (by omega) (by omega)
    have hc2 := nchk2 (j := 6 * t + j) (n := 48) (by omega) (by omega)
    rw [f_X6_village_L49.eq_2, if_neg (show ¬ (6 : Int32) ≤ nI j from nI_ge (b := 6) (by omega) (by omega)), i7, nI_1, nI_add, nI_clamp (show 7 * t + 1 + j < 2 ^ 31 by omega), if_neg hc1, i6, nI_add, nI_clamp (show 6 * t + j < 2 ^ 31 by omega), if_neg hc2, nI_1]
    obtain ⟨h1, a1, b1, o1⟩ := ih (j + 1) n (qup h 65 (6 * t + j) (h 69 (7 * t + 1 + j))) (by omega) (by omega)
    refine ⟨h1, a1, fun i hi1 hi2 => ?_, Off.tr (off_up (by omega)) (o1.weaken (fun a k x => by omega))⟩
    by_cases q : i = j
    · subst q
      rw [o1 65 (6 * t + i) (by omega), qup_at]
    · rw [b1 i (by omega) hi2]; rfl
theorem X6_village_L {m : Nat} (hm : m ≤ 8) (hN : 8 < N) : ∀ (k j n : Nat) (h : qN) (hd wo : Nat → Nat), m = j + k → k < n → (∀ k, k < 8 → h 64 k = nI (vlH hd F j k)) → (∀ k, k < 48 → h 65 k = nI (vlW wo F j k)) → (∀ x, x < 7 * m → h 69 x = nI (F x)) →
    ∃ h1, f_X6_village_L27 N (nI m) n (nI j) h = some h1 ∧ (∀ k, k < 8 → h1 64 k = nI (vlH hd F m k)) ∧ (∀ k, k < 48 → h1 65 k = nI (vlW wo F m k)) ∧ Off (fun a _ => a = 64 ∨ a = 65) h h1 := by
  intro k
  induction k with
  | zero =>
    intro j n h hd wo e hn eh ew hF
    obtain ⟨n, rfl⟩ : ∃ m, n = m + 1 := ⟨n - 1, by omega⟩
    have : j = m := by omega
    subst this
    rw [f_X6_village_L27.eq_2, if_pos (nI_le (by omega) (by omega))]
    exact ⟨h, rfl, eh, ew, Off.rf⟩
  | succ k ih =>
    intro j n h hd wo e hn eh ew hF
    obtain ⟨n, rfl⟩ : ∃ m, n = m + 1 := ⟨n - 1, by omega⟩
    have i7 : (7 : Int32) * nI j = nI (7 * j) := by rw [k7, pk_mul]
    have hc1 := nchk2 (j := 7 * j) (n := 56) (by omega) (by omega)
    have hc2 := nchk2 (j := j) (n := 8) (by omega) (by omega)
    obtain ⟨h1, a1, b1, o1⟩ := X6_village_row (N := N) (x := nI m) (t := j) (by omega) 6 0 N (qup h 64 j (h 69 (7 * j))) (by omega) (by omega)
    rw [f_X6_village_L27.eq_2, if_neg (nI_ge (by omega) (by omega)), i7, nI_clamp (show 7 * j < 2 ^ 31 by omega), if_neg hc1, nI_clamp (show j < 2 ^ 31 by omega), if_neg hc2, k0, a1, qb, nI_1]
    obtain ⟨h2, a2, b2, c2, o2⟩ := ih (j + 1) n h1 hd wo (by omega) (by omega)
      (fun k hk => by
        rw [o1 64 k (by omega), ← vlH_s]
        simp only [qup, if_true]
        by_cases q : k = j
        · rw [if_pos q, if_pos q, hF _ (by omega)]
        · rw [if_neg q, if_neg q]; exact eh k hk)
      (fun k hk => by
        rw [← vlW_s]
        dsimp only
        by_cases q : 6 * j ≤ k ∧ k < 6 * j + 6
        · rw [if_pos q, show k = 6 * j + (k - 6 * j) by omega, b1 (k - 6 * j) (by omega) (by omega), show 6 * j + (k - 6 * j) - 6 * j = k - 6 * j by omega]
          exact hF _ (by omega)
        · rw [if_neg q, o1 65 k (by omega)]; exact ew k hk)
      (fun x hx => by rw [o1 69 x (by omega)]; exact hF x hx)
    exact ⟨h2, a2, b2, c2, Off.tr (off_up (by omega)) ((o1.weaken (fun a k x => by omega)).tr o2)⟩
end Vil

theorem rdV_neg {r : Bool × Nat × Nat × (Nat → Nat)} (h : r.1 = false) (hp : r.2.2.1 ≤ 80) : rdV r ≤ 0 := by
  have e : rdV r = zI (-20 - r.2.2.1) := by
    unfold rdV
    rw [h, if_neg (by simp), show (-20 : Int32) = zI (-20) from rfl, nI_z, zI_sub]
  rw [e, show (0 : Int32) = zI 0 from rfl, zI_le (by omega) (by omega)]
  omega
theorem rdV_pos {r : Bool × Nat × Nat × (Nat → Nat)} (h : r.1 = true) : rdV r = nI r.2.1 := by unfold rdV; rw [if_pos h]
def PVL : Nat → Nat → Prop := fun a k => (1 ≤ a ∧ a < 10) ∨ (48 ≤ a ∧ a < 52) ∨ (a = 60 ∧ (k = 3 ∨ k = 6 ∨ k = 9 ∨ k = 12 ∨ k = 13 ∨ k = 14)) ∨ (61 ≤ a ∧ a < 68) ∨ a = 69
theorem J.vl {c : Ct} {g : Gt} {h h1 : qN} (hj : J h) (wc : WCt c) (wg : WGt g) (rc : RCt 2 c h1) (rg : RG1 1 g h1) (rm : RMt c h1) (r6 : RG6 g h1) (e5 : h1 48 2 = 0) (e6 : h1 60 12 = 0) (o : Off PVL h h1) : J h1 :=
  ⟨⟨c, g, wc, wg, rc, rg, rm, r6⟩, hj.2.1.off o (fun a k x y => by unfold PVL at y; omega), ⟨0, fun _ => 0, by omega, fun k hk => by omega, e5, e6, fun k hk => by omega, fun k hk => by omega⟩, hj.2.2.2.off o (fun a k x y => by unfold PVL at y; omega)⟩
theorem call_village {N : Nat} (hN : 80 < N) {h : qN} (hj : J h) : OKC (f_X5_village N) (f_X6_village N) h := by
  obtain ⟨⟨hd, fs, sc, ov, T, U, w0, w1⟩, ⟨pu, co, wo, so⟩, wc, wg, rc, rg, rm, r6⟩ := hj.1
  have wf : WF hd fs sc ov T U := wc.1
  obtain ⟨len, tp, hl, htp, e5, e6, t5, t6⟩ := hj.2.2.1
  obtain ⟨N, rfl⟩ : ∃ m, N = m + 1 := ⟨N - 1, by omega⟩
  obtain ⟨h1, a1, b1, p1, o1⟩ := X3_readThings hl htp hN (fun _ => 0) e5 t5
  have iv := rdS_inv (tp := tp) (len := len) (w := 7) (sep := 59) (cl := thS tp len) (Q := vQ) (fun l p F => thS_inv l p F) 8 0 0 (fun _ => 0) (fun t ht => by omega)
  obtain ⟨R, hR⟩ : ∃ R, rdS tp len (thS tp len) 7 59 8 0 0 (fun _ => 0) = R := ⟨_, rfl⟩
  rw [hR] at a1 b1 p1 iv
  have e3 : h 60 3 = nI T := rm.1
  cases hok : R.1 with
  | false =>
    have hneg := rdV_neg hok (by omega)
    have o2 : Off PT5 h (qup h1 48 2 0) := Off.up o1 (by unfold PT5; omega)
    obtain ⟨h2, a2, b2, z2, o3⟩ := X6_rdV (T := T) (h := qup h1 48 2 0) hl htp hN (fun _ => 0) (by rw [o2 60 3 (by unfold PT5; omega)]; exact e3) (by rw [o2 60 12 (by unfold PT5; omega)]; exact e6) (fun k hk => by rw [o2 68 k (by unfold PT5; omega)]; exact t6 k hk)
    rw [hR] at a2
    refine ⟨rdV R, qup h1 48 2 0, h2, ?_, ?_, hj.tx ⟨0, fun _ => 0, by omega, fun k hk => by omega, ?_, z2, fun k hk => by omega, fun k hk => by omega⟩ ((o2.weaken (fun a k x => by unfold PT5 at x; omega)).tr (o3.weaken (fun a k x => by unfold PT6 at x; omega)))⟩
    · unfold f_X5_village
      rw [a1, qb]
      dsimp only
      rw [if_pos hneg]
    · unfold f_X6_village
      rw [a2, qb]
      dsimp only
      rw [if_pos hneg, qb, f_X6_village_L27.eq_2, if_pos hneg, qb]
    · rw [o3 48 2 (by unfold PT6; omega), qup_at]; rfl
  | true =>
    obtain ⟨n1, n2, nq⟩ := iv hok
    have b1 := b1 hok
    have hv := rdV_pos hok
    obtain ⟨n, hn⟩ : ∃ n, R.2.1 = n := ⟨_, rfl⟩
    obtain ⟨F, hF⟩ : ∃ F, R.2.2.2 = F := ⟨_, rfl⟩
    rw [hn] at n1 n2 nq b1 hv
    rw [hF] at nq b1
    have npos : ¬ nI n ≤ 0 := nI_ge (a := 0) (by omega) (by omega)
    obtain ⟨h0, hh0⟩ : ∃ h0, qup (qup (qup (qup h1 48 2 0) 2 4 0) 2 5 0) 2 6 0 = h0 := ⟨_, rfl⟩
    have o0 : Off (fun a _ => a < 60) h h0 := by
      rw [← hh0]
      exact Off.up (Off.up (Off.up (Off.up (o1.weaken (fun a k x => by unfold PT5 at x; omega)) (by omega)) (by omega)) (by omega)) (by omega)
    have o0' : Off (fun a k => PT5 a k ∨ a = 2) h h0 := by
      rw [← hh0]
      exact Off.up (Off.up (Off.up (Off.up (o1.weaken (fun a k x => Or.inl x)) (by unfold PT5; omega)) (by omega)) (by omega)) (by omega)
    obtain ⟨h3, a3, c3, d3, f3, o3⟩ := X4_take_L (N := N + 1) (F := F) (m := n) (by omega) n 0 (N + 1) h0 hd wo (by omega) (by omega) (by rw [← hh0]; simp [qup]; rfl)
      (fun k hk => by rw [o0' 4 k (by unfold PT5; omega)]; unfold vlH; rw [if_neg (by omega)]; exact rc.2.2.2.1 k hk)
      (fun k hk => by rw [o0' 9 k (by unfold PT5; omega)]; unfold vlW; rw [if_neg (by omega)]; exact rg.2.2.1 k hk)
      (fun x hx => by rw [← hh0]; exact b1 x hx)
    have o3' : Off (fun a k => PT5 a k ∨ a = 2 ∨ a = 4 ∨ a = 9) h h3 := (o0'.weaken (fun a k x => by rcases x with x | x; exact Or.inl x; exact Or.inr (Or.inl x))).tr (o3.weaken (fun a k x => Or.inr (by omega)))
    have e25 : h3 2 5 = 0 := by rw [o3 2 5 (by omega), ← hh0]; simp [qup]
    have e26 : h3 2 6 = 0 := by rw [o3 2 6 (by omega), ← hh0]; simp [qup]
    have e482 : h3 48 2 = 0 := by rw [o3 48 2 (by omega), ← hh0]; simp [qup]
    obtain ⟨h4, a4, b4, z4, o4⟩ := X6_rdV (T := T) (h := h3) hl htp hN (fun _ => 0) (by rw [o3' 60 3 (by unfold PT5; omega)]; exact e3) (by rw [o3' 60 12 (by unfold PT5; omega)]; exact e6) (fun k hk => by rw [o3' 68 k (by unfold PT5; omega)]; exact t6 k hk)
    rw [hR] at a4 b4
    have b4 := b4 hok
    rw [hn, hF] at b4
    have o4' : Off (fun a _ => 60 ≤ a) h3 h4 := o4.weaken (fun a k x => by unfold PT6 at x; omega)
    obtain ⟨h5, hh5⟩ : ∃ h5, qup (qup (qup h4 60 3 (nI n)) 60 6 0) 60 9 0 = h5 := ⟨_, rfl⟩
    have o45 : Off (fun a k => a = 60 ∧ (k = 3 ∨ k = 6 ∨ k = 9)) h4 h5 := by
      rw [← hh5]
      exact Off.up (Off.up (off_up (by omega)) (by omega)) (by omega)
    have o35 : ∀ a k, 61 ≤ a → a ≠ 69 → h5 a k = h a k := fun a k ha h69 => by
      rw [o45 a k (by omega), o4 a k (by unfold PT6; omega), o3' a k (by unfold PT5; omega)]
    obtain ⟨h6, a6, c6, d6, o6⟩ := X6_village_L (N := N + 1) (F := F) (m := n) (by omega) (by omega) n 0 (N + 1) h5 hd wo (by omega) (by omega)
      (fun k hk => by rw [o35 64 k (by omega) (by omega)]; unfold vlH; rw [if_neg (by omega)]; exact rm.2.2.2.1 k hk)
      (fun k hk => by rw [o35 65 k (by omega) (by omega)]; unfold vlW; rw [if_neg (by omega)]; exact r6.2.2.1 k hk)
      (fun x hx => by rw [o45 69 x (by omega)]; exact b4 x hx)
    have o36 : Off (fun a _ => 60 ≤ a) h3 h6 := o4'.tr ((o45.weaken (fun a k x => by omega)).tr (o6.weaken (fun a k x => by omega)))
    have e6k : ∀ k, h6 60 k = h5 60 k := fun k => o6 60 k (by omega)
    have e5k : ∀ k, k ≠ 3 → k ≠ 6 → k ≠ 9 → h5 60 k = h4 60 k := fun k q1 q2 q3 => o45 60 k (by omega)
    have wQ : ∀ k, k < 48 → vlW wo F n k ≤ 99 := fun k hk => by
      unfold vlW
      by_cases c : k < 6 * n
      · rw [if_pos c]
        have := (nq (k / 6) (by omega)).2 (k % 6) (by omega)
        omega
      · rw [if_neg c]; exact wg.2.2 k hk
    have hQ : ∀ k, k < n → vlH hd F n k ≤ 6 := fun k hk => by unfold vlH; rw [if_pos hk]; exact (nq k hk).1
    have oT : Off PVL h h6 := by
      refine Off.tr (o3'.weaken (fun a k x => by unfold PT5 at x; unfold PVL; omega)) (Off.tr (o4.weaken (fun a k x => by unfold PT6 at x; unfold PVL; omega)) (Off.tr (o45.weaken (fun a k x => by unfold PVL; omega)) (o6.weaken (fun a k x => by unfold PVL; omega))))
    refine ⟨nI n, h3, h6, ?_, ?_, hj.vl (c := (vlH hd F n, fs, sc, fun _ => false, n, 0, w0, w1)) (g := (pu, co, vlW wo F n, so)) ⟨⟨by show n ≤ 8; omega, by show (0 : Nat) ≤ 12; omega, hQ, fun s hs => absurd hs (Nat.not_lt_zero s), fun s hs => absurd hs (by simp)⟩, fun s hs => absurd hs (Nat.not_lt_zero s)⟩ ⟨wg.1, wg.2.1, wQ⟩ ?_ ?_ ?_ ?_ ?_ ?_ oT⟩
    · unfold f_X5_village
      rw [a1, qb, hv]
      dsimp only
      rw [if_neg npos]
      unfold f_X4_takeThings
      rw [show qup (qup (qup (qup h1 48 2 0) (1 + 1) 4 0) (1 + 1) 5 0) (1 + 1) 6 0 = h0 from hh0, k0, a3, qb, qb]
    · unfold f_X6_village
      rw [a4, qb, hv]
      dsimp only
      rw [if_neg npos, qb, hh5, k0, a6, qb]
    · refine ⟨?_, ?_, ?_, fun k hk => ?_, fun k hk => ?_, fun k hk => ?_, ?_, ?_⟩
      · rw [o36 2 4 (by omega)]; exact c3
      · rw [o36 2 5 (by omega), e25]; rfl
      · rw [o36 2 6 (by omega), e26]; exact OVW.zero
      · rw [o36 (2 + 2) k (by omega)]; exact d3 k hk
      · rw [o36 (2 + 3) k (by omega), o3' (2 + 3) k (by unfold PT5; omega)]; exact rc.2.2.2.2.1 k hk
      · rw [o36 (2 + 4) k (by omega), o3' (2 + 4) k (by unfold PT5; omega)]; exact rc.2.2.2.2.2.1 k hk
      · rw [o36 (2 + 1) 0 (by omega), o3' (2 + 1) 0 (by unfold PT5; omega)]; exact rc.2.2.2.2.2.2.1
      · rw [o36 (2 + 1) 1 (by omega), o3' (2 + 1) 1 (by unfold PT5; omega)]; exact rc.2.2.2.2.2.2.2
    · refine ⟨fun k hk => ?_, fun k hk => ?_, fun k hk => ?_, ?_⟩
      · rw [o36 (1 + 6) k (by omega), o3' (1 + 6) k (by unfold PT5; omega)]; exact rg.1 k hk
      · rw [o36 (1 + 7) k (by omega), o3' (1 + 7) k (by unfold PT5; omega)]; exact rg.2.1 k hk
      · rw [o36 (1 + 8) k (by omega)]; exact f3 k hk
      · rw [o36 1 4 (by omega), o3' 1 4 (by unfold PT5; omega)]; exact rg.2.2.2
    · refine ⟨?_, ?_, ?_, fun k hk => ?_, fun k hk => ?_, fun k hk => ?_, ?_, ?_⟩
      · rw [e6k, ← hh5]; simp [qup]
      · rw [e6k, ← hh5]; simp [qup]; rfl
      · rw [e6k, ← hh5, show qup (qup (qup h4 60 3 (nI n)) 60 6 0) 60 9 0 60 9 = 0 from qup_at _ _ _ _]; exact OVW.zero
      · exact c6 k hk
      · rw [o6 66 k (by omega), o35 66 k (by omega) (by omega)]; exact rm.2.2.2.2.1 k hk
      · rw [o6 67 k (by omega), o35 67 k (by omega) (by omega)]; exact rm.2.2.2.2.2.1 k hk
      · rw [o6 63 0 (by omega), o35 63 0 (by omega) (by omega)]; exact rm.2.2.2.2.2.2.1
      · rw [o6 63 1 (by omega), o35 63 1 (by omega) (by omega)]; exact rm.2.2.2.2.2.2.2
    · refine ⟨fun k hk => ?_, fun k hk => ?_, fun k hk => d6 k hk, ?_⟩
      · rw [o6 61 k (by omega), o35 61 k (by omega) (by omega)]; exact r6.1 k hk
      · rw [o6 62 k (by omega), o35 62 k (by omega) (by omega)]; exact r6.2.1 k hk
      · rw [e6k, e5k 10 (by omega) (by omega) (by omega), o4 60 10 (by unfold PT6; omega), o3' 60 10 (by unfold PT5; omega)]; exact r6.2.2.2
    · rw [o36 48 2 (by omega)]; exact e482
    · rw [e6k, e5k 12 (by omega) (by omega) (by omega)]; exact z4
/-! suits that are read -/
def suR (F : Nat → Nat) : Nat → Nat → Ct → Ct
  | 0, _, c => c
  | k + 1, j, c => suR F k (j + 1) (suC c (F (2 * j)) (F (2 * j + 1)))
theorem suR_ok {F : Nat → Nat} : ∀ (k j : Nat) (c : Ct), WCt c → c.2.2.2.2.2.1 + k ≤ 12 → (∀ t, j ≤ t → t < j + k → sQ c.2.2.2.2.1 t F) → WCt (suR F k j c) := by
  intro k
  induction k with
  | zero => intro j c wc _ _; exact wc
  | succ k ih =>
    intro j c wc hU hQ
    obtain ⟨q1, q2, q3⟩ := hQ j (by omega) (by omega)
    exact ih (j + 1) _ (wc.su q1 q2 q3 (by omega)) (by show c.2.2.2.2.2.1 + 1 + k ≤ 12; omega) (fun t h1 h2 => hQ t (by omega) (by omega))
section Sui
variable {N : Nat} {F : Nat → Nat}
theorem X5_suits_L {m : Nat} (hm : m ≤ 12) (hN : 12 < N) : ∀ (k j n : Nat) (c : Ct) (h : qN), m = j + k → k < n → WCt c → c.2.2.2.2.2.1 + k ≤ 12 → (∀ t, j ≤ t → t < j + k → sQ c.2.2.2.2.1 t F) → RCt 2 c h → (∀ x, x < 2 * m → h 50 x = nI (F x)) →
    ∃ h1, f_X5_suits_L48 N (nI m) n (nI j) h = some h1 ∧ RCt 2 (suR F k j c) h1 ∧ Off (PC 2) h h1 := by
  intro k
  induction k with
  | zero =>
    intro j n c h e hn wc hU hQ hr hF
    obtain ⟨n, rfl⟩ : ∃ m, n = m + 1 := ⟨n - 1, by omega⟩
    rw [f_X5_suits_L48.eq_2, if_pos (nI_le (by omega) (by omega))]
    exact ⟨h, rfl, hr, Off.rf⟩
  | succ k ih =>
    intro j n c h e hn wc hU hQ hr hF
    obtain ⟨n, rfl⟩ : ∃ m, n = m + 1 := ⟨n - 1, by omega⟩
    obtain ⟨q1, q2, q3⟩ := hQ j (by omega) (by omega)
    have i2 : (2 : Int32) * nI j = nI (2 * j) := by rw [k2, pk_mul]
    have hc1 := nchk2 (j := 2 * j) (n := 56) (by omega) (by omega)
    have hc2 := nchk2 (j := 2 * j + 1) (n := 56) (by omega) (by omega)
    obtain ⟨h1, a1, b1, o1⟩ := X0_addSuitC wc q1 q2 (by omega) hN hr
    rw [f_X5_suits_L48.eq_2, if_neg (nI_ge (by omega) (by omega))]
    simp only [i2, nI_1, nI_clamp (show 2 * j < 2 ^ 31 by omega), nI_clamp (show 2 * j + 1 < 2 ^ 31 by omega), if_neg hc1, if_neg hc2, hF (2 * j) (by omega), hF (2 * j + 1) (by omega), a1, qb]
    obtain ⟨h2, a2, b2, o2⟩ := ih (j + 1) n _ h1 (by omega) (by omega) (wc.su q1 q2 q3 (by omega)) (by show c.2.2.2.2.2.1 + 1 + k ≤ 12; omega) (fun t h1 h2 => hQ t (by omega) (by omega)) b1 (fun x hx => by rw [o1 50 x (by unfold PC; omega)]; exact hF x hx)
    exact ⟨h2, a2, b2, o1.tr o2⟩
theorem X6_suits_L {m : Nat} (hm : m ≤ 12) (hN : 12 < N) : ∀ (k j n : Nat) (c : Ct) (h : qN), m = j + k → k < n → WCt c → c.2.2.2.2.2.1 + k ≤ 12 → (∀ t, j ≤ t → t < j + k → sQ c.2.2.2.2.1 t F) → RMt c h → (∀ x, x < 2 * m → h 69 x = nI (F x)) →
    ∃ h1, f_X6_suits_L26 N (nI m) n (nI j) h = some h1 ∧ RMt (suR F k j c) h1 ∧ Off PM h h1 := by
  intro k
  induction k with
  | zero =>
    intro j n c h e hn wc hU hQ hr hF
    obtain ⟨n, rfl⟩ : ∃ m, n = m + 1 := ⟨n - 1, by omega⟩
    rw [f_X6_suits_L26.eq_2, if_pos (nI_le (by omega) (by omega))]
    exact ⟨h, rfl, hr, Off.rf⟩
  | succ k ih =>
    intro j n c h e hn wc hU hQ hr hF
    obtain ⟨n, rfl⟩ : ∃ m, n = m + 1 := ⟨n - 1, by omega⟩
    obtain ⟨q1, q2, q3⟩ := hQ j (by omega) (by omega)
    have i2 : (2 : Int32) * nI j = nI (2 * j) := by rw [k2, pk_mul]
    have hc1 := nchk2 (j := 2 * j) (n := 56) (by omega) (by omega)
    have hc2 := nchk2 (j := 2 * j + 1) (n := 56) (by omega) (by omega)
    obtain ⟨h1, a1, b1, o1⟩ := X6_comesC wc q1 q2 (by omega) hN hr
    rw [f_X6_suits_L26.eq_2, if_neg (nI_ge (by omega) (by omega))]
    simp only [i2, nI_1, nI_clamp (show 2 * j < 2 ^ 31 by omega), nI_clamp (show 2 * j + 1 < 2 ^ 31 by omega), if_neg hc1, if_neg hc2, hF (2 * j) (by omega), hF (2 * j + 1) (by omega), a1, qb]
    obtain ⟨h2, a2, b2, o2⟩ := ih (j + 1) n _ h1 (by omega) (by omega) (wc.su q1 q2 q3 (by omega)) (by show c.2.2.2.2.2.1 + 1 + k ≤ 12; omega) (fun t h1 h2 => hQ t (by omega) (by omega)) b1 (fun x hx => by rw [o1 69 x (by unfold PM; omega)]; exact hF x hx)
    exact ⟨h2, a2, b2, o1.tr o2⟩
end Sui
def P5T : Nat → Nat → Prop := fun a _ => (1 ≤ a ∧ a < 10) ∨ (48 ≤ a ∧ a < 52)
theorem PT5_P5T : ∀ a k, PT5 a k → P5T a k := fun a k x => by unfold PT5 at x; unfold P5T; omega
theorem call_suits {N : Nat} (hN : 80 < N) {h : qN} (hj : J h) : OKC (f_X5_suits N) (f_X6_suits N) h := by
  obtain ⟨c, g, wc, wg, rc, rg, rm, r6⟩ := hj.1
  have hT : c.2.2.2.2.1 ≤ 8 := wc.1.1
  have hU : c.2.2.2.2.2.1 ≤ 12 := wc.1.2.1
  obtain ⟨len, tp, hl, htp, e5, e6, t5, t6⟩ := hj.2.2.1
  obtain ⟨N, rfl⟩ : ∃ m, N = m + 1 := ⟨N - 1, by omega⟩
  obtain ⟨h1, a1, b1, p1, o1⟩ := X3_readSuits (T := c.2.2.2.2.1) hT hl htp hN (fun _ => 0) e5 t5
  have iv := rdS_inv (tp := tp) (len := len) (w := 2) (sep := 44) (cl := suS tp len c.2.2.2.2.1) (Q := sQ c.2.2.2.2.1) (fun l p F => suS_inv hT l p F) 12 0 0 (fun _ => 0) (fun t ht => by omega)
  obtain ⟨R, hR⟩ : ∃ R, rdS tp len (suS tp len c.2.2.2.2.1) 2 44 12 0 0 (fun _ => 0) = R := ⟨_, rfl⟩
  rw [hR] at a1 b1 p1 iv
  have e3 : h 60 3 = nI c.2.2.2.2.1 := rm.1
  have e4 : h 2 4 = nI c.2.2.2.2.1 := rc.1
  have o2 : Off PT5 h (qup h1 48 2 0) := Off.up o1 (by unfold PT5; omega)
  have o2' : Off P5T h (qup h1 48 2 0) := o2.weaken PT5_P5T
  have eU5 : (qup h1 48 2 0) 2 5 = nI c.2.2.2.2.2.1 := by rw [o2 2 5 (by unfold PT5; omega)]; exact rc.2.1
  have u12 : (12 : Int32) - nI c.2.2.2.2.2.1 = nI (12 - c.2.2.2.2.2.1) := by rw [k12, pk_sub hU]
  have rc2 : RCt 2 c (qup h1 48 2 0) := RC.off rc o2 (fun a k x y z => by unfold PT5 at z; omega)
  cases hok : R.1 with
  | false =>
    have hneg := rdV_neg hok (by omega)
    obtain ⟨h2, a2, b2, z2, o3⟩ := X6_rdS hT (h := qup h1 48 2 0) hl htp hN (fun _ => 0) (by rw [o2 60 3 (by unfold PT5; omega)]; exact e3) (by rw [o2 60 12 (by unfold PT5; omega)]; exact e6) (fun k hk => by rw [o2 68 k (by unfold PT5; omega)]; exact t6 k hk)
    rw [hR] at a2
    refine ⟨rdV R, qup h1 48 2 0, h2, ?_, ?_, hj.tx ⟨0, fun _ => 0, by omega, fun k hk => by omega, ?_, z2, fun k hk => by omega, fun k hk => by omega⟩ ((o2.weaken (fun a k x => by unfold PT5 at x; omega)).tr (o3.weaken (fun a k x => by unfold PT6 at x; omega)))⟩
    · have le12 : rdV R ≤ nI (12 - c.2.2.2.2.2.1) := Int32.le_trans hneg (nI_pos' (by omega))
      unfold f_X5_suits
      rw [e4, a1, qb]
      dsimp only
      rw [eU5, u12, if_pos le12, f_X5_suits_L48.eq_2, if_pos hneg, qb]
    · unfold f_X6_suits
      rw [a2, qb]
      dsimp only
      rw [if_pos hneg, f_X6_suits_L26.eq_2, if_pos hneg, qb]
    · rw [o3 48 2 (by unfold PT6; omega), qup_at]; rfl
  | true =>
    obtain ⟨n1, n2, nq⟩ := iv hok
    have b1 := b1 hok
    have hv := rdV_pos hok
    obtain ⟨n, hn⟩ : ∃ n, R.2.1 = n := ⟨_, rfl⟩
    obtain ⟨F, hF⟩ : ∃ F, R.2.2.2 = F := ⟨_, rfl⟩
    rw [hn] at n1 n2 nq b1 hv
    rw [hF] at nq b1
    have npos : ¬ nI n ≤ 0 := nI_ge (a := 0) (by omega) (by omega)
    by_cases cu : c.2.2.2.2.2.1 + n ≤ 12
    · obtain ⟨h3, a3, b3, o3⟩ := X5_suits_L (N := N + 1) (F := F) (m := n) (by omega) (by omega) n 0 (N + 1) c (qup h1 48 2 0) (by omega) (by omega) wc cu (fun t h1 h2 => nq t (by omega)) rc2 (fun x hx => b1 x hx)
      have o3' : Off P5T h h3 := o2'.tr (o3.weaken (fun a k x => by unfold PC at x; unfold P5T; omega))
      obtain ⟨h4, a4, b4, z4, o4⟩ := X6_rdS hT (h := h3) hl htp hN (fun _ => 0) (by rw [o3' 60 3 (by unfold P5T; omega)]; exact e3) (by rw [o3' 60 12 (by unfold P5T; omega)]; exact e6) (fun k hk => by rw [o3' 68 k (by unfold P5T; omega)]; exact t6 k hk)
      rw [hR] at a4 b4
      have b4 := b4 hok
      rw [hn, hF] at b4
      have rm4 : RMt c h4 := RM.off (RM.off rm o3' (fun a k x y => by unfold PM at x; unfold P5T at y; omega)) o4 (fun a k x y => by unfold PM at x; unfold PT6 at y; omega)
      obtain ⟨h5, a5, b5, o5⟩ := X6_suits_L (N := N + 1) (F := F) (m := n) (by omega) (by omega) n 0 (N + 1) c h4 (by omega) (by omega) wc cu (fun t h1 h2 => nq t (by omega)) rm4 (fun x hx => b4 x hx)
      have oT : Off PVL h h5 := (o3'.weaken (fun a k x => by unfold P5T at x; unfold PVL; omega)).tr ((o4.weaken (fun a k x => by unfold PT6 at x; unfold PVL; omega)).tr (o5.weaken (fun a k x => by unfold PM at x; unfold PVL; omega)))
      have o35 : Off (fun a _ => 60 ≤ a) h3 h5 := (o4.weaken (fun a k x => by unfold PT6 at x; omega)).tr (o5.weaken (fun a k x => by unfold PM at x; omega))
      have le12 : nI n ≤ nI (12 - c.2.2.2.2.2.1) := nI_le (by omega) (by omega)
      have eU6 : h4 60 6 = nI c.2.2.2.2.2.1 := rm4.2.1
      have lim : nI (c.2.2.2.2.2.1 + n) ≤ (12 : Int32) := nI_le (b := 12) cu (by omega)
      refine ⟨nI n, h3, h5, ?_, ?_, hj.vl (c := suR F n 0 c) (g := g) (suR_ok n 0 c wc cu (fun t h1 h2 => nq t (by omega))) wg (RC.off b3 o35 (fun a k x y z => by omega)) ?_ b5 ?_ ?_ ?_ oT⟩
      · unfold f_X5_suits
        rw [e4, a1, qb, hv]
        dsimp only
        rw [eU5, u12, if_pos le12, show f_X5_suits_L48 (N + 1) (nI n) (N + 1) 0 (qup h1 48 2 0) = some h3 from a3, qb]
      · unfold f_X6_suits
        rw [a4, qb, hv]
        dsimp only
        rw [if_neg npos, eU6, nI_add, if_pos lim, k0, a5, qb]
      · exact ((rg.off o2 (fun a k x y => by unfold PT5 at y; omega)).off o3 (fun a k x y => by unfold PC at y; omega)).off o35 (fun a k x y => by omega)
      · exact ((r6.off o3' (fun a k x y => by unfold P5T at y; omega)).off o4 (fun a k x y => by unfold PT6 at y; omega)).off o5 (fun a k x y => by unfold PM at y; omega)
      · rw [o35 48 2 (by omega), o3 48 2 (by unfold PC; omega), qup_at]
      · rw [o5 60 12 (by unfold PM; omega)]; exact z4
    · obtain ⟨h4, a4, b4, z4, o4⟩ := X6_rdS hT (h := qup h1 48 2 0) hl htp hN (fun _ => 0) (by rw [o2 60 3 (by unfold PT5; omega)]; exact e3) (by rw [o2 60 12 (by unfold PT5; omega)]; exact e6) (fun k hk => by rw [o2 68 k (by unfold PT5; omega)]; exact t6 k hk)
      rw [hR] at a4
      have le12 : ¬ nI n ≤ nI (12 - c.2.2.2.2.2.1) := nI_ge (by omega) (by omega)
      have eU6 : h4 60 6 = nI c.2.2.2.2.2.1 := by rw [o4 60 6 (by unfold PT6; omega), o2 60 6 (by unfold PT5; omega)]; exact rm.2.1
      have lim : ¬ nI (c.2.2.2.2.2.1 + n) ≤ (12 : Int32) := nI_ge (a := 12) (by omega) (by omega)
      refine ⟨-3, qup h1 48 2 0, h4, ?_, ?_, hj.tx ⟨0, fun _ => 0, by omega, fun k hk => by omega, ?_, z4, fun k hk => by omega, fun k hk => by omega⟩ ((o2.weaken (fun a k x => by unfold PT5 at x; omega)).tr (o4.weaken (fun a k x => by unfold PT6 at x; omega)))⟩
      · unfold f_X5_suits
        rw [e4, a1, qb, hv]
        dsimp only
        rw [eU5, u12, if_neg le12]
      · unfold f_X6_suits
        rw [a4, qb, hv]
        dsimp only
        rw [if_neg npos, eU6, nI_add, if_neg lim]
      · rw [o4 48 2 (by unfold PT6; omega), qup_at]; rfl
