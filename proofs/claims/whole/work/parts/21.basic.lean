/-! ===== pure 1: numbers, bits, the abstract village ===== -/
def bt (x : Int32) (i : Nat) : Bool := x.toBitVec.getLsbD i
theorem b_ext {x y : Int32} (h : ∀ i, i < 32 → bt x i = bt y i) : x = y := Int32.toBitVec_inj.mp (BitVec.eq_of_getLsbD_eq (fun i hi => h i hi))
theorem b_or (x y : Int32) (i : Nat) : bt (x ||| y) i = (bt x i || bt y i) := by unfold bt; rw [Int32.toBitVec_or, BitVec.getLsbD_or]
theorem b_and (x y : Int32) (i : Nat) : bt (x &&& y) i = (bt x i && bt y i) := by unfold bt; rw [Int32.toBitVec_and, BitVec.getLsbD_and]
theorem b_xor (x y : Int32) (i : Nat) : bt (x ^^^ y) i = (bt x i ^^ bt y i) := by unfold bt; rw [Int32.toBitVec_xor, BitVec.getLsbD_xor]
theorem b_m1 : ∀ i, i < 32 → bt (-1) i = true := by decide +kernel
theorem b_0 (i : Nat) : bt 0 i = false := BitVec.getLsbD_zero
theorem b_1 : ∀ i, i < 32 → bt 1 i = decide (i = 0) := by decide +kernel
theorem s_l : ∀ n, n < 32 → ((nI n &&& 31).toBitVec.smod 32).toNat = n := by decide +kernel
theorem b_shl (n : Nat) (hn : n < 32) (x : Int32) {i : Nat} (hi : i < 32) : bt (x <<< (nI n &&& 31)) i = (decide (n ≤ i) && bt x (i - n)) := by
  unfold bt
  rw [Int32.toBitVec_shiftLeft]
  show (x.toBitVec <<< ((nI n &&& 31).toBitVec.smod 32).toNat).getLsbD i = _
  rw [s_l n hn, BitVec.getLsbD_shiftLeft]
  rcases Nat.lt_or_ge i n with h | h
  · simp [h, Nat.not_le.mpr h]
  · simp [hi, h, Nat.not_lt.mpr h]
theorem b_sshr (n : Nat) (hn : n < 32) (x : Int32) {i : Nat} (hi : i < 32) : bt (x >>> (nI n &&& 31)) i = if n + i < 32 then bt x (n + i) else bt x 31 := by
  unfold bt
  rw [Int32.toBitVec_shiftRight]
  show (x.toBitVec.sshiftRight ((nI n &&& 31).toBitVec.smod 32).toNat).getLsbD i = _
  rw [s_l n hn, BitVec.getLsbD_sshiftRight, BitVec.msb_eq_getLsbD_last]
  simp [hi]
/-- one bit of a word -/
theorem b_test (n : Nat) (hn : n < 32) (x : Int32) : ((x >>> (nI n &&& 31)) &&& 1) = 1 ↔ bt x n = true := by
  constructor
  · intro h
    have h2 : bt ((x >>> (nI n &&& 31)) &&& 1) 0 = bt 1 0 := by rw [h]
    rw [b_and, b_sshr n hn x (by omega), b_1 0 (by omega), if_pos (by omega)] at h2
    simpa using h2
  · intro h
    apply b_ext
    intro i hi
    rw [b_and, b_sshr n hn x hi, b_1 i hi]
    by_cases h0 : i = 0
    · subst h0
      simp [hn, h]
    · simp [h0]
theorem b_one (n : Nat) (hn : n < 32) {i : Nat} (hi : i < 32) : bt ((1 : Int32) <<< (nI n &&& 31)) i = decide (i = n) := by
  rw [b_shl n hn 1 hi, b_1 (i - n) (by omega)]
  by_cases h : i = n
  · subst h; simp
  · by_cases h2 : n ≤ i
    · have : ¬ i - n = 0 := by omega
      simp [h, h2, this]
    · simp [h, h2]
/-- a word of the first twelve bits -/
def OVW (w : Int32) (ov : Nat → Bool) : Prop := ∀ i, i < 32 → bt w i = (decide (i < 12) && ov i)
theorem OVW.test {w : Int32} {ov : Nat → Bool} (h : OVW w ov) {s : Nat} (hs : s < 12) : ((w >>> (nI s &&& 31)) &&& 1) = 1 ↔ ov s = true := by
  rw [b_test s (by omega), h s (by omega)]
  simp [hs]
theorem OVW.uniq {w w' : Int32} {ov : Nat → Bool} (h : OVW w ov) (h' : OVW w' ov) : w = w' := b_ext fun i hi => (h i hi).trans (h' i hi).symm
theorem OVW.set {w : Int32} {ov : Nat → Bool} (h : OVW w ov) {s : Nat} (hs : s < 12) : OVW (w ||| ((1 : Int32) <<< (nI s &&& 31))) (fun i => ov i || decide (i = s)) := by
  intro i hi
  rw [b_or, h i hi, b_one s (by omega) hi]
  by_cases h12 : i < 12
  · simp [h12]
  · have : ¬ i = s := by omega
    simp [h12, this]
theorem OVW.or0 {w : Int32} {ov : Nat → Bool} (h : OVW w ov) : OVW (w ||| 0) ov := by
  intro i hi
  rw [b_or, h i hi, b_0]
  simp
theorem OVW.congr {w : Int32} {ov ov' : Nat → Bool} (h : OVW w ov) (he : ∀ i, i < 12 → ov i = ov' i) : OVW w ov' := by
  intro i hi
  rw [h i hi]
  by_cases h12 : i < 12
  · rw [he i h12]
  · simp [h12]
theorem OVW.clr {w : Int32} {ov : Nat → Bool} (h : OVW w ov) {s : Nat} (hs : s < 12) (h0 : ov s = false) : OVW (w &&& (((1 : Int32) <<< (nI s &&& 31)) ^^^ (-1))) ov := by
  intro i hi
  rw [b_and, b_xor, h i hi, b_one s (by omega) hi, b_m1 i hi]
  by_cases h12 : i = s
  · subst h12; simp [h0]
  · simp [h12]
theorem OVW.zero : OVW 0 (fun _ => false) := by
  intro i hi
  rw [b_0]
  simp
theorem k0 : (0 : Int32) = nI 0 := rfl
theorem k1 : (1 : Int32) = nI 1 := rfl
theorem k2 : (2 : Int32) = nI 2 := rfl
theorem k3 : (3 : Int32) = nI 3 := rfl
theorem k4 : (4 : Int32) = nI 4 := rfl
theorem k5 : (5 : Int32) = nI 5 := rfl
theorem k6 : (6 : Int32) = nI 6 := rfl
theorem k7 : (7 : Int32) = nI 7 := rfl
theorem k8 : (8 : Int32) = nI 8 := rfl
theorem k9 : (9 : Int32) = nI 9 := rfl
theorem k10 : (10 : Int32) = nI 10 := rfl
theorem k11 : (11 : Int32) = nI 11 := rfl
theorem k12 : (12 : Int32) = nI 12 := rfl
theorem k13 : (13 : Int32) = nI 13 := rfl
theorem k14 : (14 : Int32) = nI 14 := rfl
theorem k15 : (15 : Int32) = nI 15 := rfl
theorem k16 : (16 : Int32) = nI 16 := rfl
theorem k17 : (17 : Int32) = nI 17 := rfl
theorem k18 : (18 : Int32) = nI 18 := rfl
theorem k19 : (19 : Int32) = nI 19 := rfl
theorem k20 : (20 : Int32) = nI 20 := rfl
theorem k24 : (24 : Int32) = nI 24 := rfl
theorem k31 : (31 : Int32) = nI 31 := rfl
theorem k32 : (32 : Int32) = nI 32 := rfl
theorem k44 : (44 : Int32) = nI 44 := rfl
theorem k45 : (45 : Int32) = nI 45 := rfl
theorem k48 : (48 : Int32) = nI 48 := rfl
theorem k53 : (53 : Int32) = nI 53 := rfl
theorem k57 : (57 : Int32) = nI 57 := rfl
theorem k59 : (59 : Int32) = nI 59 := rfl
theorem k60 : (60 : Int32) = nI 60 := rfl
theorem k63 : (63 : Int32) = nI 63 := rfl
theorem k97 : (97 : Int32) = nI 97 := rfl
theorem k98 : (98 : Int32) = nI 98 := rfl
theorem k104 : (104 : Int32) = nI 104 := rfl
theorem k126 : (126 : Int32) = nI 126 := rfl
theorem k127 : (127 : Int32) = nI 127 := rfl
theorem k99 : (99 : Int32) = nI 99 := rfl
theorem k100 : (100 : Int32) = nI 100 := rfl
theorem k999 : (999 : Int32) = nI 999 := rfl
theorem k9999 : (9999 : Int32) = nI 9999 := rfl
theorem nIb_eq (b : Bool) : nI b.toNat = nI 1 ↔ b = true := by cases b <;> decide
/-- who stands on a side -/
def stN (hd : Nat → Nat) (x : Nat) : Nat := if x < 10 then hd x else x - 10
/-- whether a suit ends: two sides in one hand (the parish apart), or by law 1 -/
def endN (hd fs sc : Nat → Nat) (w1 : Bool) (s : Nat) : Bool :=
  if stN hd (fs s) = 6 ∨ stN hd (sc s) = 6 then w1 else decide (stN hd (fs s) = stN hd (sc s))
def okS (T x : Nat) : Prop := x < T ∨ (10 ≤ x ∧ x < 16)
/-- the numbers of a court at some places -/
def RG (aT kT aU kU aO kO aH aF aS aL : Nat) (hd fs sc : Nat → Nat) (ov : Nat → Bool) (T U : Nat) (w0 w1 : Bool) (h : qN) : Prop :=
  h aT kT = nI T ∧ h aU kU = nI U ∧ OVW (h aO kO) ov ∧ (∀ k, k < 8 → h aH k = nI (hd k)) ∧ (∀ k, k < 12 → h aF k = nI (fs k)) ∧ (∀ k, k < 12 → h aS k = nI (sc k)) ∧ h aL 0 = nI w0.toNat ∧ h aL 1 = nI w1.toNat
abbrev RC (o : Nat) := RG o 4 o 5 o 6 (o + 2) (o + 3) (o + 4) (o + 1)
abbrev RM := RG 60 3 60 6 60 9 64 66 67 63
def WF (hd fs sc : Nat → Nat) (ov : Nat → Bool) (T U : Nat) : Prop :=
  T ≤ 8 ∧ U ≤ 12 ∧ (∀ k, k < T → hd k ≤ 6) ∧ (∀ s, s < U → okS T (fs s) ∧ okS T (sc s)) ∧ (∀ s, ov s = true → s < U)
theorem WF.st {hd fs sc : Nat → Nat} {ov : Nat → Bool} {T U : Nat} (h : WF hd fs sc ov T U) {x : Nat} (hx : okS T x) : stN hd x ≤ 6 ∧ x < 16 := by
  unfold stN
  rcases hx with hx | hx
  · have := h.1
    rw [if_pos (by omega)]
    exact ⟨h.2.2.1 x hx, by omega⟩
  · rw [if_neg (by omega)]
    omega
/-- what stays, off some places -/
def Off (P : Nat → Nat → Prop) (h h1 : qN) : Prop := ∀ a k, ¬ P a k → h1 a k = h a k
theorem Off.rf {P : Nat → Nat → Prop} {h : qN} : Off P h h := fun _ _ _ => rfl
theorem Off.tr {P : Nat → Nat → Prop} {h h1 h2 : qN} (a : Off P h h1) (b : Off P h1 h2) : Off P h h2 := fun x k hx => (b x k hx).trans (a x k hx)
theorem Off.up {P : Nat → Nat → Prop} {h h1 : qN} {a k : Nat} {v : Int32} (hh : Off P h h1) (hp : P a k) : Off P h (qup h1 a k v) := by
  intro x j hx
  unfold qup
  by_cases e : x = a
  · subst e
    by_cases e2 : j = k
    · subst e2; exact absurd hp hx
    · rw [if_pos rfl, if_neg e2]; exact hh x j hx
  · rw [if_neg e]; exact hh x j hx
theorem Off.weaken {P P' : Nat → Nat → Prop} {h h1 : qN} (hh : Off P h h1) (hp : ∀ a k, P a k → P' a k) : Off P' h h1 := fun a k hx => hh a k (fun z => hx (hp a k z))
def PC (o : Nat) : Nat → Nat → Prop := fun a _ => o ≤ a ∧ a < o + 5
def PM : Nat → Nat → Prop := fun a k => (a = 60 ∧ (k = 3 ∨ k = 6 ∨ k = 9)) ∨ a = 63 ∨ a = 64 ∨ a = 66 ∨ a = 67
theorem RC.off {o : Nat} {hd fs sc : Nat → Nat} {ov : Nat → Bool} {T U : Nat} {w0 w1 : Bool} {h h1 : qN} {P : Nat → Nat → Prop} (hr : RC o hd fs sc ov T U w0 w1 h) (hh : Off P h h1) (hp : ∀ a k, o ≤ a → a < o + 5 → ¬ P a k) : RC o hd fs sc ov T U w0 w1 h1 := by
  obtain ⟨e1, e2, e3, e4, e5, e6, e7, e8⟩ := hr
  refine ⟨?_, ?_, ?_, fun k hk => ?_, fun k hk => ?_, fun k hk => ?_, ?_, ?_⟩
  · rw [hh _ _ (hp _ _ (by omega) (by omega))]; exact e1
  · rw [hh _ _ (hp _ _ (by omega) (by omega))]; exact e2
  · rw [hh _ _ (hp _ _ (by omega) (by omega))]; exact e3
  · rw [hh _ _ (hp _ _ (by omega) (by omega))]; exact e4 k hk
  · rw [hh _ _ (hp _ _ (by omega) (by omega))]; exact e5 k hk
  · rw [hh _ _ (hp _ _ (by omega) (by omega))]; exact e6 k hk
  · rw [hh _ _ (hp _ _ (by omega) (by omega))]; exact e7
  · rw [hh _ _ (hp _ _ (by omega) (by omega))]; exact e8
theorem RM.off {hd fs sc : Nat → Nat} {ov : Nat → Bool} {T U : Nat} {w0 w1 : Bool} {h h1 : qN} {P : Nat → Nat → Prop} (hr : RM hd fs sc ov T U w0 w1 h) (hh : Off P h h1) (hp : ∀ a k, PM a k → ¬ P a k) : RM hd fs sc ov T U w0 w1 h1 := by
  obtain ⟨e1, e2, e3, e4, e5, e6, e7, e8⟩ := hr
  refine ⟨?_, ?_, ?_, fun k hk => ?_, fun k hk => ?_, fun k hk => ?_, ?_, ?_⟩
  · rw [hh _ _ (hp _ _ (by simp [PM]))]; exact e1
  · rw [hh _ _ (hp _ _ (by simp [PM]))]; exact e2
  · rw [hh _ _ (hp _ _ (by simp [PM]))]; exact e3
  · rw [hh _ _ (hp _ _ (by simp [PM]))]; exact e4 k hk
  · rw [hh _ _ (hp _ _ (by simp [PM]))]; exact e5 k hk
  · rw [hh _ _ (hp _ _ (by simp [PM]))]; exact e6 k hk
  · rw [hh _ _ (hp _ _ (by simp [PM]))]; exact e7
  · rw [hh _ _ (hp _ _ (by simp [PM]))]; exact e8
/-! single writes: class (at o) and reference -/
section Writes
variable {o : Nat} {hd fs sc : Nat → Nat} {ov : Nat → Bool} {T U : Nat} {w0 w1 : Bool} {h : qN}
theorem RC_T {T' : Nat} (hr : RC o hd fs sc ov T U w0 w1 h) : RC o hd fs sc ov T' U w0 w1 (qup h o 4 (nI T')) := by
  obtain ⟨e1, e2, e3, e4, e5, e6, e7, e8⟩ := hr
  refine ⟨?_, ?_, ?_, fun i hi => ?_, fun i hi => ?_, fun i hi => ?_, ?_, ?_⟩ <;> simp [qup]
  · exact e2
  · exact e3
  · exact e4 i hi
  · exact e5 i hi
  · exact e6 i hi
  · exact e7
  · exact e8
theorem RC_U {U' : Nat} (hr : RC o hd fs sc ov T U w0 w1 h) : RC o hd fs sc ov T U' w0 w1 (qup h o 5 (nI U')) := by
  obtain ⟨e1, e2, e3, e4, e5, e6, e7, e8⟩ := hr
  refine ⟨?_, ?_, ?_, fun i hi => ?_, fun i hi => ?_, fun i hi => ?_, ?_, ?_⟩ <;> simp [qup]
  · exact e1
  · exact e3
  · exact e4 i hi
  · exact e5 i hi
  · exact e6 i hi
  · exact e7
  · exact e8
theorem RC_ov {ov' : Nat → Bool} {w : Int32} (hw : OVW w ov') (hr : RC o hd fs sc ov T U w0 w1 h) : RC o hd fs sc ov' T U w0 w1 (qup h o 6 (w)) := by
  obtain ⟨e1, e2, e3, e4, e5, e6, e7, e8⟩ := hr
  refine ⟨?_, ?_, ?_, fun i hi => ?_, fun i hi => ?_, fun i hi => ?_, ?_, ?_⟩ <;> simp [qup]
  · exact e1
  · exact e2
  · exact hw
  · exact e4 i hi
  · exact e5 i hi
  · exact e6 i hi
  · exact e7
  · exact e8
theorem RC_hd {j x : Nat} (hr : RC o hd fs sc ov T U w0 w1 h) : RC o (fun k => if k = j then x else hd k) fs sc ov T U w0 w1 (qup h (o + 2) j (nI x)) := by
  obtain ⟨e1, e2, e3, e4, e5, e6, e7, e8⟩ := hr
  refine ⟨?_, ?_, ?_, fun i hi => ?_, fun i hi => ?_, fun i hi => ?_, ?_, ?_⟩ <;> simp [qup]
  · exact e1
  · exact e2
  · exact e3
  · by_cases e : i = j
    · simp [e]
    · simp [e, e4 i hi]
  · exact e5 i hi
  · exact e6 i hi
  · exact e7
  · exact e8
theorem RC_fs {j x : Nat} (hr : RC o hd fs sc ov T U w0 w1 h) : RC o hd (fun k => if k = j then x else fs k) sc ov T U w0 w1 (qup h (o + 3) j (nI x)) := by
  obtain ⟨e1, e2, e3, e4, e5, e6, e7, e8⟩ := hr
  refine ⟨?_, ?_, ?_, fun i hi => ?_, fun i hi => ?_, fun i hi => ?_, ?_, ?_⟩ <;> simp [qup]
  · exact e1
  · exact e2
  · exact e3
  · exact e4 i hi
  · by_cases e : i = j
    · simp [e]
    · simp [e, e5 i hi]
  · exact e6 i hi
  · exact e7
  · exact e8
theorem RC_sc {j x : Nat} (hr : RC o hd fs sc ov T U w0 w1 h) : RC o hd fs (fun k => if k = j then x else sc k) ov T U w0 w1 (qup h (o + 4) j (nI x)) := by
  obtain ⟨e1, e2, e3, e4, e5, e6, e7, e8⟩ := hr
  refine ⟨?_, ?_, ?_, fun i hi => ?_, fun i hi => ?_, fun i hi => ?_, ?_, ?_⟩ <;> simp [qup]
  · exact e1
  · exact e2
  · exact e3
  · exact e4 i hi
  · exact e5 i hi
  · by_cases e : i = j
    · simp [e]
    · simp [e, e6 i hi]
  · exact e7
  · exact e8
theorem RC_w0 {b : Bool} (hr : RC o hd fs sc ov T U w0 w1 h) : RC o hd fs sc ov T U b w1 (qup h (o + 1) 0 (nI b.toNat)) := by
  obtain ⟨e1, e2, e3, e4, e5, e6, e7, e8⟩ := hr
  refine ⟨?_, ?_, ?_, fun i hi => ?_, fun i hi => ?_, fun i hi => ?_, ?_, ?_⟩ <;> simp [qup]
  · exact e1
  · exact e2
  · exact e3
  · exact e4 i hi
  · exact e5 i hi
  · exact e6 i hi
  · exact e8
theorem RC_w1 {b : Bool} (hr : RC o hd fs sc ov T U w0 w1 h) : RC o hd fs sc ov T U w0 b (qup h (o + 1) 1 (nI b.toNat)) := by
  obtain ⟨e1, e2, e3, e4, e5, e6, e7, e8⟩ := hr
  refine ⟨?_, ?_, ?_, fun i hi => ?_, fun i hi => ?_, fun i hi => ?_, ?_, ?_⟩ <;> simp [qup]
  · exact e1
  · exact e2
  · exact e3
  · exact e4 i hi
  · exact e5 i hi
  · exact e6 i hi
  · exact e7
theorem RM_T {T' : Nat} (hr : RM hd fs sc ov T U w0 w1 h) : RM hd fs sc ov T' U w0 w1 (qup h 60 3 (nI T')) := by
  obtain ⟨e1, e2, e3, e4, e5, e6, e7, e8⟩ := hr
  refine ⟨?_, ?_, ?_, fun i hi => ?_, fun i hi => ?_, fun i hi => ?_, ?_, ?_⟩ <;> simp [qup]
  · exact e2
  · exact e3
  · exact e4 i hi
  · exact e5 i hi
  · exact e6 i hi
  · exact e7
  · exact e8
theorem RM_U {U' : Nat} (hr : RM hd fs sc ov T U w0 w1 h) : RM hd fs sc ov T U' w0 w1 (qup h 60 6 (nI U')) := by
  obtain ⟨e1, e2, e3, e4, e5, e6, e7, e8⟩ := hr
  refine ⟨?_, ?_, ?_, fun i hi => ?_, fun i hi => ?_, fun i hi => ?_, ?_, ?_⟩ <;> simp [qup]
  · exact e1
  · exact e3
  · exact e4 i hi
  · exact e5 i hi
  · exact e6 i hi
  · exact e7
  · exact e8
theorem RM_ov {ov' : Nat → Bool} {w : Int32} (hw : OVW w ov') (hr : RM hd fs sc ov T U w0 w1 h) : RM hd fs sc ov' T U w0 w1 (qup h 60 9 (w)) := by
  obtain ⟨e1, e2, e3, e4, e5, e6, e7, e8⟩ := hr
  refine ⟨?_, ?_, ?_, fun i hi => ?_, fun i hi => ?_, fun i hi => ?_, ?_, ?_⟩ <;> simp [qup]
  · exact e1
  · exact e2
  · exact hw
  · exact e4 i hi
  · exact e5 i hi
  · exact e6 i hi
  · exact e7
  · exact e8
theorem RM_hd {j x : Nat} (hr : RM hd fs sc ov T U w0 w1 h) : RM (fun k => if k = j then x else hd k) fs sc ov T U w0 w1 (qup h 64 j (nI x)) := by
  obtain ⟨e1, e2, e3, e4, e5, e6, e7, e8⟩ := hr
  refine ⟨?_, ?_, ?_, fun i hi => ?_, fun i hi => ?_, fun i hi => ?_, ?_, ?_⟩ <;> simp [qup]
  · exact e1
  · exact e2
  · exact e3
  · by_cases e : i = j
    · simp [e]
    · simp [e, e4 i hi]
  · exact e5 i hi
  · exact e6 i hi
  · exact e7
  · exact e8
theorem RM_fs {j x : Nat} (hr : RM hd fs sc ov T U w0 w1 h) : RM hd (fun k => if k = j then x else fs k) sc ov T U w0 w1 (qup h 66 j (nI x)) := by
  obtain ⟨e1, e2, e3, e4, e5, e6, e7, e8⟩ := hr
  refine ⟨?_, ?_, ?_, fun i hi => ?_, fun i hi => ?_, fun i hi => ?_, ?_, ?_⟩ <;> simp [qup]
  · exact e1
  · exact e2
  · exact e3
  · exact e4 i hi
  · by_cases e : i = j
    · simp [e]
    · simp [e, e5 i hi]
  · exact e6 i hi
  · exact e7
  · exact e8
theorem RM_sc {j x : Nat} (hr : RM hd fs sc ov T U w0 w1 h) : RM hd fs (fun k => if k = j then x else sc k) ov T U w0 w1 (qup h 67 j (nI x)) := by
  obtain ⟨e1, e2, e3, e4, e5, e6, e7, e8⟩ := hr
  refine ⟨?_, ?_, ?_, fun i hi => ?_, fun i hi => ?_, fun i hi => ?_, ?_, ?_⟩ <;> simp [qup]
  · exact e1
  · exact e2
  · exact e3
  · exact e4 i hi
  · exact e5 i hi
  · by_cases e : i = j
    · simp [e]
    · simp [e, e6 i hi]
  · exact e7
  · exact e8
theorem RM_w0 {b : Bool} (hr : RM hd fs sc ov T U w0 w1 h) : RM hd fs sc ov T U b w1 (qup h 63 0 (nI b.toNat)) := by
  obtain ⟨e1, e2, e3, e4, e5, e6, e7, e8⟩ := hr
  refine ⟨?_, ?_, ?_, fun i hi => ?_, fun i hi => ?_, fun i hi => ?_, ?_, ?_⟩ <;> simp [qup]
  · exact e1
  · exact e2
  · exact e3
  · exact e4 i hi
  · exact e5 i hi
  · exact e6 i hi
  · exact e8
theorem RM_w1 {b : Bool} (hr : RM hd fs sc ov T U w0 w1 h) : RM hd fs sc ov T U w0 b (qup h 63 1 (nI b.toNat)) := by
  obtain ⟨e1, e2, e3, e4, e5, e6, e7, e8⟩ := hr
  refine ⟨?_, ?_, ?_, fun i hi => ?_, fun i hi => ?_, fun i hi => ?_, ?_, ?_⟩ <;> simp [qup]
  · exact e1
  · exact e2
  · exact e3
  · exact e4 i hi
  · exact e5 i hi
  · exact e6 i hi
  · exact e7
end Writes
