/-! ===== pure 23: texts read ===== -/
def skF (tp : Nat → Nat) : Nat → Nat → Nat
  | 0, p => p
  | k + 1, p => if tp p = 32 then skF tp k (p + 1) else p
def sk (tp : Nat → Nat) (len p : Nat) : Nat := skF tp (len - p) p
def sg (tp : Nat → Nat) (len p : Nat) : Nat := if sk tp len p < len then tp (sk tp len p) else 0
theorem skF_le (tp : Nat → Nat) : ∀ k p, p ≤ skF tp k p ∧ skF tp k p ≤ p + k := by
  intro k
  induction k with
  | zero => intro p; exact ⟨Nat.le_refl _, Nat.le_refl _⟩
  | succ k ih =>
    intro p
    have := ih (p + 1)
    simp only [skF]
    split <;> omega
theorem sk_le {tp : Nat → Nat} {len p : Nat} (h : p ≤ len) : p ≤ sk tp len p ∧ sk tp len p ≤ len := by
  have := skF_le tp (len - p) p
  unfold sk
  omega
theorem skF_at (tp : Nat → Nat) : ∀ k p, skF tp k p < p + k → tp (skF tp k p) ≠ 32 := by
  intro k
  induction k with
  | zero => intro p h; simp only [skF] at h; omega
  | succ k ih =>
    intro p h
    simp only [skF] at h ⊢
    by_cases e : tp p = 32
    · rw [if_pos e] at h ⊢; exact ih (p + 1) (by omega)
    · rw [if_neg e] at h ⊢; exact e
theorem sk_sk {tp : Nat → Nat} {len p : Nat} (h : p ≤ len) : sk tp len (sk tp len p) = sk tp len p := by
  obtain ⟨a, b⟩ := sk_le (tp := tp) h
  by_cases c : sk tp len p < len
  · have n : tp (sk tp len p) ≠ 32 := by
      have := skF_at tp (len - p) p
      unfold sk at c ⊢
      exact this (by omega)
    rw [show sk tp len (sk tp len p) = skF tp (len - sk tp len p) (sk tp len p) from rfl]
    obtain ⟨k, e⟩ : ∃ k, len - sk tp len p = k + 1 := ⟨len - sk tp len p - 1, by omega⟩
    rw [e]
    simp only [skF, if_neg n]
  · have e : sk tp len p = len := by omega
    rw [e]
    unfold sk
    rw [Nat.sub_self]
    rfl
theorem sg_sk {tp : Nat → Nat} {len p : Nat} (h : p ≤ len) : sg tp len (sk tp len p) = sg tp len p := by
  unfold sg
  rw [sk_sk h]
theorem sg_lt {tp : Nat → Nat} {len p : Nat} (h : sg tp len p ≠ 0) : sk tp len p < len := by
  unfold sg at h
  by_cases c : sk tp len p < len
  · exact c
  · rw [if_neg c] at h; exact absurd rfl h
def PT5 : Nat → Nat → Prop := fun a k => (a = 48 ∧ (k = 1 ∨ k = 2)) ∨ a = 50
def PT6 : Nat → Nat → Prop := fun a k => (a = 60 ∧ 12 ≤ k ∧ k ≤ 14) ∨ a = 69
def CTp (tp : Nat → Nat) (len : Nat) (h : qN) (p : Nat) : Prop := h 48 2 = nI len ∧ (∀ k, k < len → h 49 k = nI (tp k)) ∧ h 48 1 = nI p ∧ p ≤ len
def RTp (tp : Nat → Nat) (len : Nat) (h : qN) (p : Nat) : Prop := h 60 12 = nI len ∧ (∀ k, k < len → h 68 k = nI (tp k)) ∧ h 60 13 = nI p ∧ p ≤ len
section Txt
variable {N len : Nat} {tp : Nat → Nat} {h : qN} {p : Nat}
theorem CTp.at (hc : CTp tp len h p) {q : Nat} (hq : q ≤ len) : CTp tp len (qup h 48 1 (nI q)) q := by
  obtain ⟨a, b, c, d⟩ := hc
  exact ⟨a, b, by simp only [qup, if_true], hq⟩
theorem CTp.o50 (hc : CTp tp len h p) {k : Nat} {v : Int32} : CTp tp len (qup h 50 k v) p := by
  obtain ⟨a, b, c, d⟩ := hc
  exact ⟨a, b, c, d⟩
theorem RTp.at (hc : RTp tp len h p) {q : Nat} (hq : q ≤ len) : RTp tp len (qup h 60 13 (nI q)) q := by
  obtain ⟨a, b, c, d⟩ := hc
  exact ⟨a, b, by simp only [qup, if_true], hq⟩
theorem RTp.o69 (hc : RTp tp len h p) {k : Nat} {v : Int32} : RTp tp len (qup h 69 k v) p := by
  obtain ⟨a, b, c, d⟩ := hc
  exact ⟨a, b, c, d⟩
theorem RTp.e14 (hc : RTp tp len h p) {v : Int32} : RTp tp len (qup h 60 14 v) p := by
  obtain ⟨a, b, c, d⟩ := hc
  exact ⟨a, b, c, d⟩
theorem nextSign_L (hl : len ≤ 80) (ht : ∀ k, k < len → 32 ≤ tp k ∧ tp k ≤ 126) : ∀ (k p n : Nat) (h : qN), len = p + k → k < n → CTp tp len h p → ∃ h1, f_X3_nextSign_L0 N n h = some h1 ∧ CTp tp len h1 (skF tp k p) ∧ Off (fun a k => a = 48 ∧ k = 1) h h1 ∧ (∀ a, a ≠ 48 → h1 a = h a) := by
  intro k
  induction k with
  | zero =>
    intro p n h e hn hc
    obtain ⟨n, rfl⟩ : ∃ m, n = m + 1 := ⟨n - 1, by omega⟩
    rw [f_X3_nextSign_L0.eq_2, hc.1, hc.2.2.1, if_pos (nI_le (by omega) (by omega))]
    exact ⟨h, rfl, hc, Off.rf, fun a _ => rfl⟩
  | succ k ih =>
    intro p n h e hn hc
    obtain ⟨n, rfl⟩ : ∃ m, n = m + 1 := ⟨n - 1, by omega⟩
    have hcp := nchk2 (j := p) (n := 80) (by omega) (by omega)
    rw [f_X3_nextSign_L0.eq_2, hc.1, hc.2.2.1, if_neg (nI_ge (by omega) (by omega))]
    simp only [nI_clamp (show p < 2 ^ 31 by omega), if_neg hcp, hc.2.1 p (by omega), nI_1]
    have e32 : nI (tp p) = (32 : Int32) ↔ tp p = 32 := by
      rw [k32]
      exact nI_eq (by have := ht p (by omega); omega) (by omega)
    simp only [skF]
    by_cases c : tp p = 32
    · rw [if_pos (e32.mpr c), if_pos c]
      obtain ⟨h1, a1, b1, c1, d1⟩ := ih (p + 1) n _ (by omega) (by omega) (hc.at (q := p + 1) (by omega))
      exact ⟨h1, a1, b1, Off.tr (off_up (by omega)) c1, fun a ha => by rw [d1 a ha]; funext k; simp only [qup, if_neg ha]⟩
    · rw [if_neg (fun z => c (e32.mp z)), if_neg c]
      exact ⟨h, rfl, hc, Off.rf, fun a _ => rfl⟩
theorem X3_nextSign (hl : len ≤ 80) (ht : ∀ k, k < len → 32 ≤ tp k ∧ tp k ≤ 126) (hN : 80 < N) (hc : CTp tp len h p) :
    ∃ h1, f_X3_nextSign N h = some (if sg tp len p = 0 then -1 else nI (sg tp len p), h1) ∧ CTp tp len h1 (sk tp len p) ∧ Off (fun a k => a = 48 ∧ k = 1) h h1 ∧ h1 50 = h 50 := by
  have hp := hc.2.2.2
  obtain ⟨h1, a1, b1, c1, d1⟩ := nextSign_L (N := N) hl ht (len - p) p N h (by omega) (by omega) hc
  refine ⟨h1, ?_, b1, c1, d1 50 (by omega)⟩
  have b1 : CTp tp len h1 (sk tp len p) := b1
  unfold f_X3_nextSign
  rw [a1, qb]
  rw [b1.1, b1.2.2.1]
  have hle := (sk_le (tp := tp) hp).2
  by_cases c : sk tp len p < len
  · have hcp := nchk2 (j := sk tp len p) (n := 80) (by omega) (by omega)
    have hs : sg tp len p = tp (sk tp len p) := by unfold sg; rw [if_pos c]
    have := ht _ c
    rw [if_neg (nI_ge c (by omega)), hs, if_neg (show ¬ tp (sk tp len p) = 0 by omega)]
    simp only [nI_clamp (show sk tp len p < 2 ^ 31 by omega), if_neg hcp, b1.2.1 _ c]
  · have hs : sg tp len p = 0 := by unfold sg; rw [if_neg c]
    rw [if_pos (nI_le (by omega) (by omega)), if_pos hs]
theorem here_L (hl : len ≤ 80) (ht : ∀ k, k < len → 32 ≤ tp k ∧ tp k ≤ 126) : ∀ (k p n : Nat) (h : qN), len = p + k → k < n → RTp tp len h p → ∃ h1, f_X6_here_L0 N n h = some h1 ∧ RTp tp len h1 (skF tp k p) ∧ Off (fun a k => a = 60 ∧ k = 13) h h1 := by
  intro k
  induction k with
  | zero =>
    intro p n h e hn hc
    obtain ⟨n, rfl⟩ : ∃ m, n = m + 1 := ⟨n - 1, by omega⟩
    rw [f_X6_here_L0.eq_2, hc.1, hc.2.2.1, if_pos (nI_le (by omega) (by omega))]
    exact ⟨h, rfl, hc, Off.rf⟩
  | succ k ih =>
    intro p n h e hn hc
    obtain ⟨n, rfl⟩ : ∃ m, n = m + 1 := ⟨n - 1, by omega⟩
    have hcp := nchk2 (j := p) (n := 80) (by omega) (by omega)
    rw [f_X6_here_L0.eq_2, hc.1, hc.2.2.1, if_neg (nI_ge (by omega) (by omega))]
    simp only [nI_clamp (show p < 2 ^ 31 by omega), if_neg hcp, hc.2.1 p (by omega), nI_1]
    have e32 : nI (tp p) = (32 : Int32) ↔ tp p = 32 := by
      rw [k32]
      exact nI_eq (by have := ht p (by omega); omega) (by omega)
    simp only [skF]
    by_cases c : tp p = 32
    · rw [if_pos (e32.mpr c), if_pos c]
      obtain ⟨h1, a1, b1, c1⟩ := ih (p + 1) n _ (by omega) (by omega) (hc.at (q := p + 1) (by omega))
      exact ⟨h1, a1, b1, Off.tr (off_up (by omega)) c1⟩
    · rw [if_neg (fun z => c (e32.mp z)), if_neg c]
      exact ⟨h, rfl, hc, Off.rf⟩
theorem X6_here (hl : len ≤ 80) (ht : ∀ k, k < len → 32 ≤ tp k ∧ tp k ≤ 126) (hN : 80 < N) (hc : RTp tp len h p) :
    ∃ h1, f_X6_here N h = some (nI (sg tp len p), h1) ∧ RTp tp len h1 (sk tp len p) ∧ Off (fun a k => a = 60 ∧ k = 13) h h1 := by
  have hp := hc.2.2.2
  obtain ⟨h1, a1, b1, c1⟩ := here_L (N := N) hl ht (len - p) p N h (by omega) (by omega) hc
  refine ⟨h1, ?_, b1, c1⟩
  have b1 : RTp tp len h1 (sk tp len p) := b1
  unfold f_X6_here
  rw [a1, qb]
  rw [b1.1, b1.2.2.1]
  have hle := (sk_le (tp := tp) hp).2
  by_cases c : sk tp len p < len
  · have hcp := nchk2 (j := sk tp len p) (n := 80) (by omega) (by omega)
    have hs : sg tp len p = tp (sk tp len p) := by unfold sg; rw [if_pos c]
    rw [if_neg (nI_ge c (by omega)), hs]
    simp only [nI_clamp (show sk tp len p < 2 ^ 31 by omega), if_neg hcp, b1.2.1 _ c]
  · have hs : sg tp len p = 0 := by unfold sg; rw [if_neg c]
    rw [if_pos (nI_le (by omega) (by omega)), hs]
    rfl
theorem sg_le (ht : ∀ k, k < len → 32 ≤ tp k ∧ tp k ≤ 126) : sg tp len p ≤ 126 := by
  unfold sg
  split
  · rename_i c; exact (ht _ c).2
  · omega
/-! what a clause is -/
def digS (tp : Nat → Nat) (len : Nat) : Nat → Nat → Nat → (Nat → Nat) → Bool × Nat × (Nat → Nat)
  | 0, _, p, F => (true, p, F)
  | k + 1, b, p, F => if 48 ≤ sg tp len p ∧ sg tp len p ≤ 57 then digS tp len k (b + 1) (sk tp len p + 1) (fun x => if x = b then sg tp len p - 48 else F x) else (false, sk tp len p, F)
def thS (tp : Nat → Nat) (len : Nat) (b p : Nat) (F : Nat → Nat) : Bool × Nat × (Nat → Nat) :=
  if sg tp len p = 45 then digS tp len 6 (b + 1) (sk tp len p + 1) (fun x => if x = b then 6 else F x)
  else if 48 ≤ sg tp len p ∧ sg tp len p ≤ 53 then digS tp len 6 (b + 1) (sk tp len p + 1) (fun x => if x = b then sg tp len p - 48 else F x)
  else (false, sk tp len p, F)
def sdS (T z : Nat) : Option Nat := if 97 ≤ z ∧ z < 97 + T then some (z - 97) else if 48 ≤ z ∧ z ≤ 53 then some (10 + (z - 48)) else none
def suS (tp : Nat → Nat) (len T : Nat) (b p : Nat) (F : Nat → Nat) : Bool × Nat × (Nat → Nat) :=
  match sdS T (sg tp len p) with
  | none => (false, sk tp len p, F)
  | some x => match sdS T (sg tp len (sk tp len p + 1)) with
    | none => (false, sk tp len (sk tp len p + 1), F)
    | some y => if y = x then (false, sk tp len (sk tp len p + 1), F) else (true, sk tp len (sk tp len p + 1) + 1, fun z => if z = b + 1 then y else if z = b then x else F z)
def rdS (tp : Nat → Nat) (len : Nat) (cl : Nat → Nat → (Nat → Nat) → Bool × Nat × (Nat → Nat)) (w sep : Nat) : Nat → Nat → Nat → (Nat → Nat) → Bool × Nat × Nat × (Nat → Nat)
  | 0, l, p, F => (false, l, p, F)
  | k + 1, l, p, F =>
    if (cl (w * l) p F).1 = true then
      (if sg tp len (cl (w * l) p F).2.1 = 0 then (true, l + 1, sk tp len (cl (w * l) p F).2.1, (cl (w * l) p F).2.2)
       else if sg tp len (cl (w * l) p F).2.1 = sep ∧ k ≠ 0 then rdS tp len cl w sep k (l + 1) (sk tp len (cl (w * l) p F).2.1 + 1) (cl (w * l) p F).2.2
       else (false, l + 1, sk tp len (cl (w * l) p F).2.1, (cl (w * l) p F).2.2))
    else (false, l + 1, (cl (w * l) p F).2.1, (cl (w * l) p F).2.2)
/-! the class reads a thing -/
theorem X3_digs (hl : len ≤ 80) (ht : ∀ k, k < len → 32 ≤ tp k ∧ tp k ≤ 126) (hN : 80 < N) {b : Nat} (hb : b + 7 ≤ 56) : ∀ (k i n p : Nat) (F : Nat → Nat) (h : qN), 7 = i + k → k < n → CTp tp len h p → (∀ x, x < b + i → h 50 x = nI (F x)) →
    ∃ h1, f_X3_readThing_L61 N (nI b) n (nI i) h = some (if (digS tp len k (b + i) p F).1 = true then .inr h1 else .inl (0, h1)) ∧ CTp tp len h1 (digS tp len k (b + i) p F).2.1 ∧ ((digS tp len k (b + i) p F).1 = true → ∀ x, x < b + 7 → h1 50 x = nI ((digS tp len k (b + i) p F).2.2 x)) ∧ Off PT5 h h1 := by
  intro k
  induction k with
  | zero =>
    intro i n p F h e hn hc hF
    obtain ⟨n, rfl⟩ : ∃ m, n = m + 1 := ⟨n - 1, by omega⟩
    rw [f_X3_readThing_L61.eq_2, show i = 7 by omega, if_pos (by decide)]
    exact ⟨h, rfl, hc, fun _ x hx => hF x (by omega), Off.rf⟩
  | succ k ih =>
    intro i n p F h e hn hc hF
    obtain ⟨n, rfl⟩ : ∃ m, n = m + 1 := ⟨n - 1, by omega⟩
    obtain ⟨h1, a1, b1, c1, d1⟩ := X3_nextSign hl ht hN hc
    have c1' : Off PT5 h h1 := c1.weaken (fun a k x => by unfold PT5; omega)
    have s126 := sg_le (p := p) ht
    rw [f_X3_readThing_L61.eq_2, k7, if_neg (nI_ge (by omega) (by omega)), a1, qb]
    dsimp only
    have dN : ¬ (48 ≤ sg tp len p ∧ sg tp len p ≤ 57) → digS tp len (k + 1) (b + i) p F = (false, sk tp len p, F) := fun z => by simp only [digS]; rw [if_neg z]
    have dP : (48 ≤ sg tp len p ∧ sg tp len p ≤ 57) → digS tp len (k + 1) (b + i) p F = digS tp len k (b + i + 1) (sk tp len p + 1) (fun x => if x = b + i then sg tp len p - 48 else F x) := fun z => by simp only [digS]; rw [if_pos z]
    by_cases s0 : sg tp len p = 0
    · rw [if_pos s0, if_pos (by decide), dN (by omega)]
      exact ⟨h1, rfl, b1, fun z => absurd z (by simp), c1'⟩
    · rw [if_neg s0]
      by_cases d : 48 ≤ sg tp len p ∧ sg tp len p ≤ 57
      · have hlt := sg_lt s0
        have i1 : nI b + nI i = nI (b + i) := nI_add _ _
        have hcb := nchk2 (j := b + i) (n := 56) (by omega) (by omega)
        rw [k48, if_neg (nI_nlt (by omega) (by omega)), k57, if_pos (nI_le (by omega) (by omega)), dP d]
        simp only [i1, nI_clamp (show b + i < 2 ^ 31 by omega), if_neg hcb, pk_sub d.1, nI_1]
        have e48 : (qup h1 50 (b + i) (nI (sg tp len p - 48))) 48 1 = nI (sk tp len p) := b1.2.2.1
        rw [e48, nI_1]
        obtain ⟨h2, a2, b2, c2, d2⟩ := ih (i + 1) n (sk tp len p + 1) (fun x => if x = b + i then sg tp len p - 48 else F x) _ (by omega) (by omega) ((b1.o50 (k := b + i) (v := nI (sg tp len p - 48))).at (q := sk tp len p + 1) (by omega)) (fun x hx => by
          simp only [qup, if_true, show ¬ (50 : Nat) = 48 by omega, if_false]
          by_cases q : x = b + i
          · rw [if_pos q, if_pos q]
          · rw [if_neg q, if_neg q, d1]; exact hF x (by omega))
        exact ⟨h2, a2, b2, c2, c1'.tr (Off.tr (Off.up (off_up (by unfold PT5; omega)) (by unfold PT5; omega)) d2)⟩
      · rw [dN d]
        by_cases d1 : sg tp len p < 48
        · rw [k48, if_pos (nI_lt d1 (by omega))]
          exact ⟨h1, rfl, b1, fun z => absurd z (by simp), c1'⟩
        · rw [k48, if_neg (nI_nlt (by omega) (by omega)), k57, if_neg (nI_ge (show 57 < sg tp len p by omega) (by omega))]
          exact ⟨h1, rfl, b1, fun z => absurd z (by simp), c1'⟩
theorem X3_readThing (hl : len ≤ 80) (ht : ∀ k, k < len → 32 ≤ tp k ∧ tp k ≤ 126) (hN : 80 < N) {b : Nat} (hb : b + 7 ≤ 56) {F : Nat → Nat} (hc : CTp tp len h p) (hF : ∀ x, x < b → h 50 x = nI (F x)) :
    ∃ h1, f_X3_readThing N (nI b) h = some (nI (thS tp len b p F).1.toNat, h1) ∧ CTp tp len h1 (thS tp len b p F).2.1 ∧ ((thS tp len b p F).1 = true → ∀ x, x < b + 7 → h1 50 x = nI ((thS tp len b p F).2.2 x)) ∧ Off PT5 h h1 := by
  obtain ⟨h1, a1, b1, c1, d1⟩ := X3_nextSign hl ht hN hc
  have c1' : Off PT5 h h1 := c1.weaken (fun a k x => by unfold PT5; omega)
  have s126 := sg_le (p := p) ht
  have hcb := nchk2 (j := b) (n := 56) (by omega) (by omega)
  have go : sg tp len p ≠ 0 → ∀ v, v = 6 ∨ v = sg tp len p - 48 → ∃ h2, (qbind (f_X3_readThing_L61 N (nI b) N (1 : Int32) (qup (qup h1 50 b (nI v)) 48 1 (((qup h1 50 b (nI v)) 48 1) + (1 : Int32)))) fun
      | .inl (x456, h457) => some (x456, h457)
      | .inr h454 => some ((1 : Int32), h454)) = some (nI (digS tp len 6 (b + 1) (sk tp len p + 1) (fun x => if x = b then v else F x)).1.toNat, h2) ∧ CTp tp len h2 (digS tp len 6 (b + 1) (sk tp len p + 1) (fun x => if x = b then v else F x)).2.1 ∧ ((digS tp len 6 (b + 1) (sk tp len p + 1) (fun x => if x = b then v else F x)).1 = true → ∀ x, x < b + 7 → h2 50 x = nI ((digS tp len 6 (b + 1) (sk tp len p + 1) (fun x => if x = b then v else F x)).2.2 x)) ∧ Off PT5 h h2 := by
    intro s0 v hv
    have hlt := sg_lt s0
    have e48 : (qup h1 50 b (nI v)) 48 1 = nI (sk tp len p) := b1.2.2.1
    rw [e48, nI_1]
    obtain ⟨h2, a2, b2, c2, d2⟩ := X3_digs (N := N) hl ht hN hb 6 1 N (sk tp len p + 1) (fun x => if x = b then v else F x) _ (by omega) (by omega) ((b1.o50 (k := b) (v := nI v)).at (q := sk tp len p + 1) (by omega)) (fun x hx => by
      simp only [qup, if_true, show ¬ (50 : Nat) = 48 by omega, if_false]
      by_cases q : x = b
      · rw [if_pos q, if_pos q]
      · rw [if_neg q, if_neg q, d1]; exact hF x (by omega))
    refine ⟨h2, ?_, b2, c2, c1'.tr (Off.tr (Off.up (off_up (by unfold PT5; omega)) (by unfold PT5; omega)) d2)⟩
    rw [show (1 : Int32) = nI 1 from rfl, a2, qb]
    cases hd : (digS tp len 6 (b + 1) (sk tp len p + 1) (fun x => if x = b then v else F x)).1 <;> rfl
  unfold f_X3_readThing thS
  rw [a1, qb]
  dsimp only
  by_cases s0 : sg tp len p = 0
  · rw [if_pos s0, if_neg (by decide), if_pos (by decide), if_neg (show ¬ sg tp len p = 45 by omega), if_neg (show ¬ (48 ≤ sg tp len p ∧ sg tp len p ≤ 53) by omega)]
    exact ⟨h1, rfl, b1, fun z => absurd z (by simp), c1'⟩
  · rw [if_neg s0]
    by_cases d : sg tp len p = 45
    · rw [if_pos (by rw [d]; rfl), if_pos d, nI_clamp (show b < 2 ^ 31 by omega), if_neg hcb]
      exact go s0 6 (Or.inl rfl)
    · have e45 : ¬ nI (sg tp len p) = (45 : Int32) := by rw [k45, nI_eq (by omega) (by omega)]; exact d
      rw [if_neg e45, if_neg d]
      by_cases d2 : 48 ≤ sg tp len p ∧ sg tp len p ≤ 53
      · rw [k48, if_neg (nI_nlt (by omega) (by omega)), show (54 : Int32) = nI 54 from rfl, if_neg (nI_ge (by omega) (by omega)), if_pos d2, nI_clamp (show b < 2 ^ 31 by omega), if_neg hcb, pk_sub d2.1]
        exact go s0 _ (Or.inr rfl)
      · rw [if_neg d2]
        by_cases d1 : sg tp len p < 48
        · rw [k48, if_pos (nI_lt d1 (by omega))]
          exact ⟨h1, rfl, b1, fun z => absurd z (by simp), c1'⟩
        · rw [k48, if_neg (nI_nlt (by omega) (by omega)), show (54 : Int32) = nI 54 from rfl, if_pos (nI_le (show 54 ≤ sg tp len p by omega) (by omega))]
          exact ⟨h1, rfl, b1, fun z => absurd z (by simp), c1'⟩
/-! the class reads a suit -/
def sdV (o : Option Nat) : Int32 := match o with | none => -1 | some x => nI x
theorem X3_sideOf {T z : Nat} (hT : T ≤ 8) (hz : z ≤ 126) (h : qN) : f_X3_sideOf (if z = 0 then -1 else nI z) (nI T) h = some (sdV (sdS T z), h) := by
  unfold f_X3_sideOf sdS
  by_cases s0 : z = 0
  · rw [if_pos s0, if_pos (by decide), if_pos (by decide), if_neg (by omega), if_neg (by omega)]
    rfl
  · rw [if_neg s0]
    have i1 : (97 : Int32) + nI T = nI (97 + T) := by rw [k97, nI_add]
    have i2 : 48 ≤ z → (10 : Int32) + nI z - (48 : Int32) = nI (10 + (z - 48)) := by
      intro hz
      rw [k10, nI_add, k48, pk_sub (by omega)]
      congr 1
      omega
    rw [i1]
    by_cases c1 : z < 97
    · rw [k97, if_pos (nI_lt c1 (by omega)), if_neg (show ¬ (97 ≤ z ∧ z < 97 + T) by omega)]
      by_cases c2 : z < 48
      · rw [k48, if_pos (nI_lt c2 (by omega)), if_neg (by omega)]; rfl
      · rw [i2 (by omega), k48, if_neg (nI_nlt (by omega) (by omega)), show (54 : Int32) = nI 54 from rfl]
        by_cases c3 : 54 ≤ z
        · rw [if_pos (nI_le c3 (by omega)), if_neg (by omega)]; rfl
        · rw [if_neg (nI_ge (by omega) (by omega)), if_pos (by omega)]; rfl
    · rw [k97, if_neg (nI_nlt (by omega) (by omega))]
      by_cases c2 : 97 + T ≤ z
      · rw [if_pos (nI_le c2 (by omega)), k48, if_neg (nI_nlt (by omega) (by omega)), show (54 : Int32) = nI 54 from rfl, if_pos (nI_le (by omega) (by omega)), if_neg (by omega), if_neg (by omega)]
        rfl
      · rw [if_neg (nI_ge (by omega) (by omega)), if_pos (by omega), pk_sub (by omega)]
        rfl
theorem sdS_le {T z x : Nat} (hT : T ≤ 8) (h : sdS T z = some x) : x < 16 ∧ okS T x ∧ z ≠ 0 := by
  unfold sdS at h
  by_cases c : 97 ≤ z ∧ z < 97 + T
  · rw [if_pos c] at h
    have := Option.some.inj h
    unfold okS
    omega
  · rw [if_neg c] at h
    by_cases d : 48 ≤ z ∧ z ≤ 53
    · rw [if_pos d] at h
      have := Option.some.inj h
      unfold okS
      omega
    · rw [if_neg d] at h; exact absurd h (by simp)
theorem X3_readSuit {T : Nat} (hT : T ≤ 8) (hl : len ≤ 80) (ht : ∀ k, k < len → 32 ≤ tp k ∧ tp k ≤ 126) (hN : 80 < N) {b : Nat} (hb : b + 2 ≤ 56) {F : Nat → Nat} (hc : CTp tp len h p) (hF : ∀ x, x < b → h 50 x = nI (F x)) :
    ∃ h1, f_X3_readSuit N (nI b) (nI T) h = some (nI (suS tp len T b p F).1.toNat, h1) ∧ CTp tp len h1 (suS tp len T b p F).2.1 ∧ ((suS tp len T b p F).1 = true → ∀ x, x < b + 2 → h1 50 x = nI ((suS tp len T b p F).2.2 x)) ∧ Off PT5 h h1 := by
  obtain ⟨h1, a1, b1, c1, d1⟩ := X3_nextSign hl ht hN hc
  have c1' : Off PT5 h h1 := c1.weaken (fun a k x => by unfold PT5; omega)
  unfold f_X3_readSuit suS
  rw [a1, qb]
  dsimp only
  rw [X3_sideOf hT (sg_le ht), qb]
  dsimp only
  cases hs : sdS T (sg tp len p) with
  | none =>
    rw [show sdV none = -1 from rfl, if_neg (by decide)]
    exact ⟨h1, rfl, b1, fun z => absurd z (by simp), c1'⟩
  | some x =>
    obtain ⟨x16, xo, z0⟩ := sdS_le hT hs
    have hlt := sg_lt z0
    rw [show sdV (some x) = nI x from rfl, if_pos (nI_pos' (by omega)), b1.2.2.1, nI_1]
    obtain ⟨h2, a2, b2, c2, d2⟩ := X3_nextSign hl ht hN (b1.at (q := sk tp len p + 1) (by omega))
    rw [a2, qb]
    dsimp only
    rw [X3_sideOf hT (sg_le ht), qb]
    dsimp only
    have c2' : Off PT5 h h2 := c1'.tr (Off.tr (off_up (by unfold PT5; omega)) (c2.weaken (fun a k x => by unfold PT5; omega)))
    cases hs2 : sdS T (sg tp len (sk tp len p + 1)) with
    | none =>
      rw [show sdV none = -1 from rfl, if_pos (by decide)]
      exact ⟨h2, rfl, b2, fun z => absurd z (by simp), c2'⟩
    | some y =>
      obtain ⟨y16, yo, z2⟩ := sdS_le hT hs2
      have hlt2 := sg_lt z2
      have ey : (nI y = nI x) = (y = x) := propext (nI_eq (by omega) (by omega))
      rw [show sdV (some y) = nI y from rfl, if_neg (nI_pos (by omega))]
      by_cases e : y = x
      · rw [if_pos (by rw [ey]; exact e)]
        dsimp only
        rw [if_pos e]
        exact ⟨h2, rfl, b2, fun z => absurd z (by simp), c2'⟩
      · have hc1 := nchk2 (j := b) (n := 56) (by omega) (by omega)
        have hc2 := nchk2 (j := b + 1) (n := 56) (by omega) (by omega)
        rw [if_neg (by rw [ey]; exact e)]
        dsimp only
        rw [if_neg e, nI_clamp (show b < 2 ^ 31 by omega), if_neg hc1, nI_1, nI_clamp (show b + 1 < 2 ^ 31 by omega), if_neg hc2, b2.2.2.1, nI_1]
        refine ⟨_, rfl, ((b2.at (q := sk tp len (sk tp len p + 1) + 1) (by omega)).o50).o50, fun _ z hz => ?_, Off.tr c2' (Off.up (Off.up (off_up (by unfold PT5; omega)) (by unfold PT5; omega)) (by unfold PT5; omega))⟩
        simp only [qup, if_true, show ¬ (50 : Nat) = 48 by omega, if_false]
        by_cases q1 : z = b + 1
        · rw [if_pos q1, if_pos q1]
        · rw [if_neg q1, if_neg q1]
          by_cases q2 : z = b
          · rw [if_pos q2, if_pos q2]
          · rw [if_neg q2, if_neg q2, d2]
            show (qup h1 48 1 _) 50 z = _
            simp only [qup, show ¬ (50 : Nat) = 48 by omega, if_false]
            rw [d1]; exact hF z (by omega)
/-! the class reads rows of clauses -/
def rdV (r : Bool × Nat × Nat × (Nat → Nat)) : Int32 := if r.1 = true then nI r.2.1 else (-20 : Int32) - nI r.2.2.1
theorem X3_readThings_L (hl : len ≤ 80) (ht : ∀ k, k < len → 32 ≤ tp k ∧ tp k ≤ 126) (hN : 80 < N) : ∀ (k l n p : Nat) (F : Nat → Nat) (h : qN), 8 = l + k → k < n → 0 < k → CTp tp len h p → (∀ x, x < 7 * l → h 50 x = nI (F x)) →
    ∃ r h1, f_X3_readThings_L7 N n (nI l) h = some r ∧ (r = .inl (rdV (rdS tp len (thS tp len) 7 59 k l p F), h1) ∨ (r = .inr h1 ∧ (rdS tp len (thS tp len) 7 59 k l p F).1 = false)) ∧ CTp tp len h1 (rdS tp len (thS tp len) 7 59 k l p F).2.2.1 ∧ ((rdS tp len (thS tp len) 7 59 k l p F).1 = true → ∀ x, x < 7 * (rdS tp len (thS tp len) 7 59 k l p F).2.1 → h1 50 x = nI ((rdS tp len (thS tp len) 7 59 k l p F).2.2.2 x)) ∧ Off PT5 h h1 := by
  intro k
  induction k with
  | zero => intro l n p F h e hn h0; omega
  | succ k ih =>
    intro l n p F h e hn h0 hc hF
    obtain ⟨n, rfl⟩ : ∃ m, n = m + 1 := ⟨n - 1, by omega⟩
    obtain ⟨h1, a1, b1, c1, d1⟩ := X3_readThing (b := 7 * l) (F := F) hl ht hN (by omega) hc hF
    have i1 : nI l * (7 : Int32) = nI (7 * l) := by rw [k7, pk_mul, Nat.mul_comm]
    have lx : ¬ (8 : Int32) ≤ nI l := nI_ge (b := 8) (by omega) (by omega)
    rw [f_X3_readThings_L7.eq_2, if_neg lx, i1, a1, qb]
    dsimp only
    simp only [rdS]
    cases hok : ((thS tp len) (7 * l) p F).1 with
    | false =>
      rw [if_pos bF, if_neg (by simp)]
      exact ⟨_, h1, rfl, Or.inr ⟨rfl, rfl⟩, b1, fun z => absurd z (by simp), d1⟩
    | true =>
      rw [if_neg bT, if_pos rfl]
      have c1 := c1 hok
      have b1p := b1.2.2.2
      obtain ⟨h2, a2, b2, c2, d2⟩ := X3_nextSign hl ht hN b1
      have o2 : Off PT5 h h2 := d1.tr (c2.weaken (fun a k x => by unfold PT5; omega))
      have s126 := sg_le (p := ((thS tp len) (7 * l) p F).2.1) ht
      rw [a2, qb]
      dsimp only
      by_cases s0 : sg tp len ((thS tp len) (7 * l) p F).2.1 = 0
      · rw [if_pos s0, if_pos rfl, if_pos s0]
        refine ⟨_, h2, rfl, Or.inl ?_, b2, fun _ x hx => ?_, o2⟩
        · rw [nI_1]; rfl
        · rw [d2]; exact c1 x (by dsimp only at hx; rw [Nat.mul_add] at hx; omega)
      · rw [if_neg s0, if_neg s0]
        have m1 : ¬ nI (sg tp len ((thS tp len) (7 * l) p F).2.1) = (-1 : Int32) := by
          intro z
          have := nI_pos (n := sg tp len ((thS tp len) (7 * l) p F).2.1) (by omega)
          rw [z] at this
          exact this (by decide)
        have es : (nI (sg tp len ((thS tp len) (7 * l) p F).2.1) = (59 : Int32)) = (sg tp len ((thS tp len) (7 * l) p F).2.1 = 59) := propext (nI_eq (b := 59) (by omega) (by omega))
        have ft : f_X3_fault h2 = some ((-20 : Int32) - nI (sk tp len ((thS tp len) (7 * l) p F).2.1), h2) := by unfold f_X3_fault; rw [b2.2.2.1]
        rw [if_neg m1]
        by_cases cs : sg tp len ((thS tp len) (7 * l) p F).2.1 = 59
        · have hlt := sg_lt s0
          rw [if_pos (by rw [es]; exact cs), nI_1]
          by_cases k0' : k = 0
          · have e8 : nI (l + 1) = (8 : Int32) := by rw [show l + 1 = 8 by omega]; rfl
            rw [if_pos e8, if_neg (fun z => z.2 k0'), ft, qb]
            exact ⟨_, h2, rfl, Or.inl rfl, b2, fun z => absurd z (by simp), o2⟩
          · have e8 : ¬ nI (l + 1) = (8 : Int32) := by rw [show (8 : Int32) = nI 8 from rfl, nI_eq (by omega) (by omega)]; omega
            rw [if_neg e8, if_pos ⟨cs, k0'⟩, b2.2.2.1, nI_1]
            obtain ⟨r, h3, a3, b3, c3, d3, e3⟩ := ih (l + 1) n (sk tp len ((thS tp len) (7 * l) p F).2.1 + 1) ((thS tp len) (7 * l) p F).2.2 _ (by omega) (by omega) (by omega) (b2.at (q := sk tp len ((thS tp len) (7 * l) p F).2.1 + 1) (by omega)) (fun x hx => by
              show (qup h2 48 1 _) 50 x = _
              simp only [qup, show ¬ (50 : Nat) = 48 by omega, if_false]
              rw [d2]
              exact c1 x (by rw [Nat.mul_add] at hx; omega))
            exact ⟨r, h3, a3, b3, c3, d3, o2.tr (Off.tr (off_up (by unfold PT5; omega)) e3)⟩
        · rw [if_neg (by rw [es]; exact cs), if_neg (fun z => cs z.1), ft, qb]
          exact ⟨_, h2, rfl, Or.inl rfl, b2, fun z => absurd z (by simp), o2⟩
theorem X3_readThings (hl : len ≤ 80) (ht : ∀ k, k < len → 32 ≤ tp k ∧ tp k ≤ 126) (hN : 80 < N) (F : Nat → Nat) (h2 : h 48 2 = nI len) (h9 : ∀ k, k < len → h 49 k = nI (tp k)) :
    ∃ h1, f_X3_readThings N h = some (rdV (rdS tp len (thS tp len) 7 59 8 0 0 F), h1) ∧ ((rdS tp len (thS tp len) 7 59 8 0 0 F).1 = true → ∀ x, x < 7 * (rdS tp len (thS tp len) 7 59 8 0 0 F).2.1 → h1 50 x = nI ((rdS tp len (thS tp len) 7 59 8 0 0 F).2.2.2 x)) ∧ (rdS tp len (thS tp len) 7 59 8 0 0 F).2.2.1 ≤ len ∧ Off PT5 h h1 := by
  obtain ⟨r, h1, a, b, c, d, e⟩ := X3_readThings_L  hl ht hN 8 0 N 0 F (qup h 48 1 (nI 0)) (by omega) (by omega) (by omega) ⟨h2, h9, by simp only [qup, if_true], by omega⟩ (fun x hx => by omega)
  refine ⟨h1, ?_, d, c.2.2.2, Off.tr (off_up (by unfold PT5; omega)) e⟩
  unfold f_X3_readThings
  rw [k0, a, qb]
  rcases b with b | ⟨b, b0⟩
  · rw [b]
  · rw [b]
    show qbind (f_X3_fault h1) _ = _
    unfold f_X3_fault
    rw [c.2.2.1, qb]
    unfold rdV
    rw [b0, if_neg (by simp)]
theorem X3_readSuits_L {T : Nat} (hT : T ≤ 8) (hl : len ≤ 80) (ht : ∀ k, k < len → 32 ≤ tp k ∧ tp k ≤ 126) (hN : 80 < N) : ∀ (k l n p : Nat) (F : Nat → Nat) (h : qN), 12 = l + k → k < n → 0 < k → CTp tp len h p → (∀ x, x < 2 * l → h 50 x = nI (F x)) →
    ∃ r h1, f_X3_readSuits_L7 N (nI T) n (nI l) h = some r ∧ (r = .inl (rdV (rdS tp len (suS tp len T) 2 44 k l p F), h1) ∨ (r = .inr h1 ∧ (rdS tp len (suS tp len T) 2 44 k l p F).1 = false)) ∧ CTp tp len h1 (rdS tp len (suS tp len T) 2 44 k l p F).2.2.1 ∧ ((rdS tp len (suS tp len T) 2 44 k l p F).1 = true → ∀ x, x < 2 * (rdS tp len (suS tp len T) 2 44 k l p F).2.1 → h1 50 x = nI ((rdS tp len (suS tp len T) 2 44 k l p F).2.2.2 x)) ∧ Off PT5 h h1 := by
  intro k
  induction k with
  | zero => intro l n p F h e hn h0; omega
  | succ k ih =>
    intro l n p F h e hn h0 hc hF
    obtain ⟨n, rfl⟩ : ∃ m, n = m + 1 := ⟨n - 1, by omega⟩
    obtain ⟨h1, a1, b1, c1, d1⟩ := X3_readSuit (T := T) (b := 2 * l) (F := F) hT hl ht hN (by omega) hc hF
    have i1 : (2 : Int32) * nI l = nI (2 * l) := by rw [k2, pk_mul]
    have lx : ¬ (12 : Int32) ≤ nI l := nI_ge (b := 12) (by omega) (by omega)
    rw [f_X3_readSuits_L7.eq_2, if_neg lx, i1, a1, qb]
    dsimp only
    simp only [rdS]
    cases hok : ((suS tp len T) (2 * l) p F).1 with
    | false =>
      rw [if_pos bF, if_neg (by simp)]
      exact ⟨_, h1, rfl, Or.inr ⟨rfl, rfl⟩, b1, fun z => absurd z (by simp), d1⟩
    | true =>
      rw [if_neg bT, if_pos rfl]
      have c1 := c1 hok
      have b1p := b1.2.2.2
      obtain ⟨h2, a2, b2, c2, d2⟩ := X3_nextSign hl ht hN b1
      have o2 : Off PT5 h h2 := d1.tr (c2.weaken (fun a k x => by unfold PT5; omega))
      have s126 := sg_le (p := ((suS tp len T) (2 * l) p F).2.1) ht
      rw [a2, qb]
      dsimp only
      by_cases s0 : sg tp len ((suS tp len T) (2 * l) p F).2.1 = 0
      · rw [if_pos s0, if_pos rfl, if_pos s0]
        refine ⟨_, h2, rfl, Or.inl ?_, b2, fun _ x hx => ?_, o2⟩
        · rw [nI_1]; rfl
        · rw [d2]; exact c1 x (by dsimp only at hx; rw [Nat.mul_add] at hx; omega)
      · rw [if_neg s0, if_neg s0]
        have m1 : ¬ nI (sg tp len ((suS tp len T) (2 * l) p F).2.1) = (-1 : Int32) := by
          intro z
          have := nI_pos (n := sg tp len ((suS tp len T) (2 * l) p F).2.1) (by omega)
          rw [z] at this
          exact this (by decide)
        have es : (nI (sg tp len ((suS tp len T) (2 * l) p F).2.1) = (44 : Int32)) = (sg tp len ((suS tp len T) (2 * l) p F).2.1 = 44) := propext (nI_eq (b := 44) (by omega) (by omega))
        have ft : f_X3_fault h2 = some ((-20 : Int32) - nI (sk tp len ((suS tp len T) (2 * l) p F).2.1), h2) := by unfold f_X3_fault; rw [b2.2.2.1]
        rw [if_neg m1]
        by_cases cs : sg tp len ((suS tp len T) (2 * l) p F).2.1 = 44
        · have hlt := sg_lt s0
          rw [if_pos (by rw [es]; exact cs), nI_1]
          by_cases k0' : k = 0
          · have e8 : nI (l + 1) = (12 : Int32) := by rw [show l + 1 = 12 by omega]; rfl
            rw [if_pos e8, if_neg (fun z => z.2 k0'), ft, qb]
            exact ⟨_, h2, rfl, Or.inl rfl, b2, fun z => absurd z (by simp), o2⟩
          · have e8 : ¬ nI (l + 1) = (12 : Int32) := by rw [show (12 : Int32) = nI 12 from rfl, nI_eq (by omega) (by omega)]; omega
            rw [if_neg e8, if_pos ⟨cs, k0'⟩, b2.2.2.1, nI_1]
            obtain ⟨r, h3, a3, b3, c3, d3, e3⟩ := ih (l + 1) n (sk tp len ((suS tp len T) (2 * l) p F).2.1 + 1) ((suS tp len T) (2 * l) p F).2.2 _ (by omega) (by omega) (by omega) (b2.at (q := sk tp len ((suS tp len T) (2 * l) p F).2.1 + 1) (by omega)) (fun x hx => by
              show (qup h2 48 1 _) 50 x = _
              simp only [qup, show ¬ (50 : Nat) = 48 by omega, if_false]
              rw [d2]
              exact c1 x (by rw [Nat.mul_add] at hx; omega))
            exact ⟨r, h3, a3, b3, c3, d3, o2.tr (Off.tr (off_up (by unfold PT5; omega)) e3)⟩
        · rw [if_neg (by rw [es]; exact cs), if_neg (fun z => cs z.1), ft, qb]
          exact ⟨_, h2, rfl, Or.inl rfl, b2, fun z => absurd z (by simp), o2⟩
theorem X3_readSuits {T : Nat} (hT : T ≤ 8) (hl : len ≤ 80) (ht : ∀ k, k < len → 32 ≤ tp k ∧ tp k ≤ 126) (hN : 80 < N) (F : Nat → Nat) (h2 : h 48 2 = nI len) (h9 : ∀ k, k < len → h 49 k = nI (tp k)) :
    ∃ h1, f_X3_readSuits N (nI T) h = some (rdV (rdS tp len (suS tp len T) 2 44 12 0 0 F), h1) ∧ ((rdS tp len (suS tp len T) 2 44 12 0 0 F).1 = true → ∀ x, x < 2 * (rdS tp len (suS tp len T) 2 44 12 0 0 F).2.1 → h1 50 x = nI ((rdS tp len (suS tp len T) 2 44 12 0 0 F).2.2.2 x)) ∧ (rdS tp len (suS tp len T) 2 44 12 0 0 F).2.2.1 ≤ len ∧ Off PT5 h h1 := by
  obtain ⟨r, h1, a, b, c, d, e⟩ := X3_readSuits_L (T := T) hT hl ht hN 12 0 N 0 F (qup h 48 1 (nI 0)) (by omega) (by omega) (by omega) ⟨h2, h9, by simp only [qup, if_true], by omega⟩ (fun x hx => by omega)
  refine ⟨h1, ?_, d, c.2.2.2, Off.tr (off_up (by unfold PT5; omega)) e⟩
  unfold f_X3_readSuits
  rw [k0, a, qb]
  rcases b with b | ⟨b, b0⟩
  · rw [b]
  · rw [b]
    show qbind (f_X3_fault h1) _ = _
    unfold f_X3_fault
    rw [c.2.2.1, qb]
    unfold rdV
    rw [b0, if_neg (by simp)]
end Txt
