/-! ===== pure 31: best, the reference ===== -/
def smC (c : Ct) (g : Gt) (ys n v : Nat) : Nat := cstC (eC c n v) g * ys + n
def leB (c : Ct) (g : Gt) (ys n v m w : Nat) : Prop := smC c g ys n v < smC c g ys m w ∨ (smC c g ys n v = smC c g ys m w ∧ (n < m ∨ (n = m ∧ v ≤ w)))
def BI (c : Ct) (g : Gt) (ys : Nat) (V : Nat → Nat → Prop) (n v : Nat) : Prop := V n v ∧ ∀ m w, V m w → leB c g ys n v m w
theorem BI.uniq {c : Ct} {g : Gt} {ys : Nat} {V W : Nat → Nat → Prop} {n v m w : Nat} (h : BI c g ys V n v) (h' : BI c g ys W m w) (h1 : W n v) (h2 : V m w) : n = m ∧ v = w := by
  have a := h.2 m w h2
  have b := h'.2 n v h1
  unfold leB at a b
  omega
theorem BI.congr {c : Ct} {g : Gt} {ys : Nat} {V W : Nat → Nat → Prop} {n v : Nat} (h : BI c g ys V n v) (e : ∀ m w, V m w ↔ W m w) : BI c g ys W n v := ⟨(e n v).mp h.1, fun m w hw => h.2 m w ((e m w).mpr hw)⟩
theorem smC_le {c : Ct} {g : Gt} (wc : WCt c) (wg : WGt g) {ys n v : Nat} (hy : ys ≤ 9) (hn : n ≤ 2) (hv : v < (6 * c.2.2.2.2.1) ^ n) : smC c g ys n v ≤ 21400 := by
  have h1 := cstC_le (eC_W n v c wc hv) wg
  have h2 : cstC (eC c n v) g * ys ≤ 2376 * 9 := Nat.mul_le_mul h1 hy
  unfold smC
  omega
def VR (c : Ct) (n j m w : Nat) : Prop := w < (6 * c.2.2.2.2.1) ^ m ∧ vF c m w ∧ (m < n ∨ (m = n ∧ w < j))
section Best
variable {N : Nat}
theorem RG6.pd {g : Gt} {h h1 : qN} (hr : RG6 g h) (hh : Off PD h h1) : RG6 g h1 := hr.off hh (fun a k x y => by unfold PD PM at y; omega)
def PB : Nat → Nat → Prop := fun a k => PF a k ∨ (a = 60 ∧ k = 22)
theorem RG6.pb {g : Gt} {h h1 : qN} (hr : RG6 g h) (hh : Off PB h h1) : RG6 g h1 := hr.off hh (fun a k x y => by unfold PB PF PM at y; omega)
theorem X6_best_L36 {c : Ct} {g : Gt} {n ys : Nat} (wc : WCt c) (wg : WGt g) (hN : 12 < N) (hn : n ≤ 2) (hy : ys ≤ 9) : ∀ (k j f n0 v0 : Nat) (h : qN), (6 * c.2.2.2.2.1) ^ n = j + k → k < f → RMt c h → RG6 g h → RK c h → BI c g ys (VR c n j) n0 v0 → h 60 22 = nI n0 → (∀ i, i < n0 → h 74 i = nI (enc (dgN (6 * c.2.2.2.2.1) n0 v0 i))) →
    ∃ n1 v1 h1, f_X6_bestOf_L36 N (nI ys) (nI ((6 * c.2.2.2.2.1) ^ n)) (nI n) f (nI (smC c g ys n0 v0)) (nI j) h = some (nI (smC c g ys n1 v1), h1) ∧ RMt c h1 ∧ RG6 g h1 ∧ RK c h1 ∧ Off PB h h1 ∧ BI c g ys (VR c n ((6 * c.2.2.2.2.1) ^ n)) n1 v1 ∧ h1 60 22 = nI n1 ∧ (∀ i, i < n1 → h1 74 i = nI (enc (dgN (6 * c.2.2.2.2.1) n1 v1 i))) := by
  have hT : c.2.2.2.2.1 ≤ 8 := wc.1.1
  have hb := Dn_le (T := c.2.2.2.2.1) (n := n) hT (by omega)
  intro k
  induction k with
  | zero =>
    intro j f n0 v0 h e hf hr hg hk hB e22 hc
    obtain ⟨f, rfl⟩ : ∃ m, f = m + 1 := ⟨f - 1, by omega⟩
    have ej : j = (6 * c.2.2.2.2.1) ^ n := by omega
    rw [f_X6_bestOf_L36.eq_2, if_pos (nI_le (by omega) (by omega))]
    exact ⟨n0, v0, h, rfl, hr, hg, hk, Off.rf, by rw [← ej]; exact hB, e22, hc⟩
  | succ k ih =>
    intro j f n0 v0 h e hf hr hg hk hB e22 hc
    obtain ⟨f, rfl⟩ : ∃ m, f = m + 1 := ⟨f - 1, by omega⟩
    have hjD : j < (6 * c.2.2.2.2.1) ^ n := by omega
    have hn0 : n0 ≤ 2 := by have := hB.1.2.2; omega
    have s0 := smC_le (v := v0) wc wg hy hn0 hB.1.1
    have sj := smC_le (v := j) wc wg hy hn hjD
    obtain ⟨b, h1, c', a1, b1, g1, x1, y1, z1, o1⟩ := X6_done wc hN (by omega) hr hjD
    have hg1 := hg.pd o1
    rw [f_X6_bestOf_L36.eq_2, if_neg (nI_ge (by omega) (by omega)), a1, qb]
    dsimp only
    cases b with
    | false =>
      have nv : ¬ vF c n j := fun z => absurd (x1.mpr z) (by simp)
      obtain ⟨h2, a2, b2, o2⟩ := X6_back hN (hk.pd o1) b1 g1
      have oo : Off PB h h2 := (o1.weaken (fun a k x => Or.inl (PD_F a k x))).tr (o2.weaken (fun a k x => Or.inl (Or.inl x)))
      rw [if_pos bF, qb]
      dsimp only
      rw [if_pos rfl, qb]
      dsimp only
      rw [a2, qb, nI_1]
      obtain ⟨n1, v1, h3, a3, b3, c3, d3, o3, x3, y3, z3⟩ := ih (j + 1) f n0 v0 h2 (by omega) (by omega) b2 (hg1.pm o2) ((hk.pd o1).pm o2) (hB.congr (fun m w => by
          unfold VR
          constructor
          · rintro ⟨q1, q2, q3⟩; exact ⟨q1, q2, by omega⟩
          · rintro ⟨q1, q2, q3⟩
            refine ⟨q1, q2, ?_⟩
            rcases q3 with q3 | ⟨q3, q4⟩
            · exact Or.inl q3
            · refine Or.inr ⟨q3, ?_⟩
              have : w ≠ j := fun z => nv (by rw [← z, ← q3]; exact q2)
              omega)) (by rw [o2 60 22 (by unfold PM; omega), o1 60 22 (by unfold PD PM; omega)]; exact e22) (fun i hi => by rw [o2 74 i (by unfold PM; omega), o1 74 i (by unfold PD PM; omega)]; exact hc i hi)
      exact ⟨n1, v1, h3, a3, b3, c3, d3, oo.tr o3, x3, y3, z3⟩
    | true =>
      have hc' := y1 rfl
      subst hc'
      have vj : vF c n j := x1.mp rfl
      have wcE := eC_W n j c wc hjD
      have cw : nI (cstC (eC c n j) g) * nI ys + nI n = nI (smC c g ys n j) := by rw [pk_mul, nI_add]; rfl
      have le : (nI (smC c g ys n0 v0) ≤ nI (smC c g ys n j)) = (smC c g ys n0 v0 ≤ smC c g ys n j) := propext (nI_leI (by omega) (by omega))
      have grow : ∀ m w, VR c n (j + 1) m w → (m = n ∧ w = j) ∨ VR c n j m w := by
        rintro m w ⟨q1, q2, q3⟩
        by_cases q : m = n ∧ w = j
        · exact Or.inl q
        · exact Or.inr ⟨q1, q2, by omega⟩
      rw [if_neg bT, X6_costAll wcE hN b1 hg1, qb]
      dsimp only
      rw [cw]
      by_cases q : smC c g ys n0 v0 ≤ smC c g ys n j
      · obtain ⟨h2, a2, b2, o2⟩ := X6_back hN (hk.pd o1) b1 g1
        have oo : Off PB h h2 := (o1.weaken (fun a k x => Or.inl (PD_F a k x))).tr (o2.weaken (fun a k x => Or.inl (Or.inl x)))
        rw [if_pos (by rw [le]; exact q), qb]
        dsimp only
        rw [if_pos rfl, qb]
        dsimp only
        rw [a2, qb, nI_1]
        obtain ⟨n1, v1, h3, a3, b3, c3, d3, o3, x3, y3, z3⟩ := ih (j + 1) f n0 v0 h2 (by omega) (by omega) b2 (hg1.pm o2) ((hk.pd o1).pm o2) ⟨⟨hB.1.1, hB.1.2.1, by have := hB.1.2.2; omega⟩, fun m w hmw => by
            rcases grow m w hmw with ⟨rfl, rfl⟩ | z
            · have := hB.1.2.2
              unfold leB
              omega
            · exact hB.2 m w z⟩ (by rw [o2 60 22 (by unfold PM; omega), o1 60 22 (by unfold PD PM; omega)]; exact e22) (fun i hi => by rw [o2 74 i (by unfold PM; omega), o1 74 i (by unfold PD PM; omega)]; exact hc i hi)
        exact ⟨n1, v1, h3, a3, b3, c3, d3, oo.tr o3, x3, y3, z3⟩
      · obtain ⟨h2, a2, b2, o2⟩ := X6_notes (N := N) (F := dgN (6 * c.2.2.2.2.1) n j) (by omega) (fun i hi => by
            have hD : 0 < 6 * c.2.2.2.2.1 := by
              rcases Nat.eq_zero_or_pos (6 * c.2.2.2.2.1) with hz | hz
              · rw [hz, Nat.zero_pow (by omega)] at hjD; omega
              · exact hz
            have := dgN_lt (D := 6 * c.2.2.2.2.1) (n := n) (v := j) (k := i) hD
            omega) n 0 N (qup h1 60 22 (nI n)) (by omega) (by omega) z1 (fun i hi => by omega)
        have ob : Off (fun a k => (a = 60 ∧ k = 22) ∨ a = 74) h1 h2 := Off.tr (off_up (by omega)) (o2.weaken (fun a k x => by omega))
        have rE : RMt (eC c n j) h2 := RM.off b1 ob (fun a k x y => by unfold PM at x; omega)
        have rK : RK c h2 := (hk.pd o1).off ob (fun a k x y => by unfold PK at x; omega)
        have rG : RG6 g h2 := hg1.off ob (fun a k x y => by omega)
        obtain ⟨h3, a3, b3, o3⟩ := X6_back hN rK rE g1
        have oo : Off PB h h3 := (o1.weaken (fun a k x => Or.inl (PD_F a k x))).tr ((ob.weaken (fun a k x => by rcases x with x | x; exact Or.inr x; exact Or.inl (Or.inr (Or.inr x)))).tr (o3.weaken (fun a k x => Or.inl (Or.inl x))))
        have nt : f_X6_notes N (nI n) (qup h1 60 22 (nI n)) = some h2 := by unfold f_X6_notes; rw [k0, a2, qb]
        rw [if_neg (by rw [le]; exact q), qb]
        dsimp only
        rw [if_neg (by decide), X6_costAll wcE hN b1 hg1, qb]
        dsimp only
        rw [nt, qb, qb]
        dsimp only
        rw [a3, qb, nI_1, cw]
        obtain ⟨n1, v1, h4, a4, b4, c4, d4, o4, x4, y4, z4⟩ := ih (j + 1) f n j h3 (by omega) (by omega) b3 (rG.pm o3) (rK.pm o3) ⟨⟨hjD, vj, by omega⟩, fun m w hmw => by
            rcases grow m w hmw with ⟨rfl, rfl⟩ | z
            · unfold leB; omega
            · have := hB.2 m w z
              unfold leB at this ⊢
              omega⟩ (by rw [o3 60 22 (by unfold PM; omega), o2 60 22 (by omega), qup_at]) (fun i hi => by rw [o3 74 i (by unfold PM; omega)]; exact b2 i hi)
        exact ⟨n1, v1, h4, a4, b4, c4, d4, oo.tr o4, x4, y4, z4⟩
theorem X6_best_L27 {c : Ct} {g : Gt} {ys : Nat} (wc : WCt c) (wg : WGt g) (hN : 110600 < N) (hy : ys ≤ 9) : ∀ (k n f n0 v0 : Nat) (h : qN), 3 = n + k → k < f → RMt c h → RG6 g h → RK c h → BI c g ys (VR c n 0) n0 v0 → h 60 22 = nI n0 → (∀ i, i < n0 → h 74 i = nI (enc (dgN (6 * c.2.2.2.2.1) n0 v0 i))) →
    ∃ n1 v1 h1, f_X6_bestOf_L27 N (nI ys) f (nI (smC c g ys n0 v0)) (nI ((6 * c.2.2.2.2.1) ^ n)) (nI n) h = some (nI (smC c g ys n1 v1), h1) ∧ RMt c h1 ∧ RG6 g h1 ∧ Off PB h h1 ∧ BI c g ys (VR c 3 0) n1 v1 ∧ h1 60 22 = nI n1 ∧ (∀ i, i < n1 → h1 74 i = nI (enc (dgN (6 * c.2.2.2.2.1) n1 v1 i))) := by
  have hT : c.2.2.2.2.1 ≤ 8 := wc.1.1
  intro k
  induction k with
  | zero =>
    intro n f n0 v0 h e hf hr hg hk hB e22 hc
    obtain ⟨f, rfl⟩ : ∃ m, f = m + 1 := ⟨f - 1, by omega⟩
    have e3 : n = 3 := by omega
    subst e3
    rw [f_X6_bestOf_L27.eq_2, if_pos (by decide)]
    exact ⟨n0, v0, h, rfl, hr, hg, Off.rf, hB, e22, hc⟩
  | succ k ih =>
    intro n f n0 v0 h e hf hr hg hk hB e22 hc
    obtain ⟨f, rfl⟩ : ∃ m, f = m + 1 := ⟨f - 1, by omega⟩
    have hb := Dn_le (T := c.2.2.2.2.1) (n := n) hT (by omega)
    obtain ⟨n1, v1, h1, a1, b1, c1, d1, o1, x1, y1, z1⟩ := X6_best_L36 (N := N) (n := n) wc wg (by omega) (by omega) hy ((6 * c.2.2.2.2.1) ^ n) 0 N n0 v0 h (by omega) (by omega) hr hg hk hB e22 hc
    rw [f_X6_bestOf_L27.eq_2, show (3 : Int32) = nI 3 from rfl, if_neg (nI_ge (by omega) (by omega)), k0, a1, qb]
    dsimp only
    rw [show h1 60 3 = nI c.2.2.2.2.1 from b1.1, show (6 : Int32) = nI 6 from rfl, pk_mul, pk_mul, ← Nat.pow_succ, nI_1]
    obtain ⟨n2, v2, h2, a2, b2, c2, o2, x2, y2, z2⟩ := ih (n + 1) f n1 v1 h1 (by omega) (by omega) b1 c1 d1 (x1.congr (fun m w => by
      unfold VR
      constructor
      · rintro ⟨q1, q2, q3⟩; exact ⟨q1, q2, by omega⟩
      · rintro ⟨q1, q2, q3⟩
        refine ⟨q1, q2, ?_⟩
        rcases q3 with q3 | ⟨q3, q4⟩
        · by_cases e : m = n
          · subst e; exact Or.inr ⟨rfl, q1⟩
          · exact Or.inl (by omega)
        · omega)) y1 z1
    exact ⟨n2, v2, h2, a2, b2, c2, o1.tr o2, x2, y2, z2⟩
def PKB : Nat → Nat → Prop := fun a k => PK a k ∨ PB a k
theorem PKB_6 : ∀ a k, PKB a k → P6 a k := fun a k x => by unfold PKB PB PF PK PM at x; unfold P6; omega
theorem X6_bestOf_ok {c : Ct} {g : Gt} {ys : Nat} {h : qN} (wc : WCt c) (wg : WGt g) (hN : 110600 < N) (hy : ys ≤ 9) (hr : RMt c h) (hg : RG6 g h) :
    ∃ n v h1, f_X6_bestOf N (nI ys) h = some (nI (smC c g ys n v), h1) ∧ BI c g ys (VR c 3 0) n v ∧ RMt c h1 ∧ RG6 g h1 ∧ Off PKB h h1 ∧ h1 60 22 = nI n ∧ (∀ i, i < n → h1 74 i = nI (enc (dgN (6 * c.2.2.2.2.1) n v i))) := by
  have o0 : Off (fun a k => a = 60 ∧ k = 22) h (qup h 60 22 0) := off_up (by omega)
  have r0 : RMt c (qup h 60 22 0) := RM.off hr o0 (fun a k x y => by unfold PM at x; omega)
  have g0 : RG6 g (qup h 60 22 0) := hg.off o0 (fun a k x y => by omega)
  obtain ⟨h1, a1, b1, c1⟩ := X6_keeps (N := N) (by omega) r0
  have r1 : RMt c h1 := RM.pk r0 c1
  obtain ⟨n, v, h2, a2, b2, c2, o2, x2, y2, z2⟩ := X6_best_L27 (N := N) wc wg hN hy 2 1 N 0 0 h1 (by omega) (by omega) r1 (g0.pk c1) b1 ⟨⟨by simp, trivial, by omega⟩, fun m w hmw => by
      have : m = 0 := by have := hmw.2.2; omega
      subst this
      have : w = 0 := by have := hmw.1; rw [Nat.pow_zero] at this; omega
      subst this
      unfold leB
      omega⟩ (by rw [c1 60 22 (by unfold PK; omega), qup_at]; rfl) (fun i hi => by omega)
  have cw : nI (cstC c g) * nI ys = nI (smC c g ys 0 0) := by rw [pk_mul]; rfl
  refine ⟨n, v, h2, ?_, x2, b2, c2, (o0.weaken (fun a k x => by unfold PKB PB; omega)).tr ((c1.weaken (fun a k x => Or.inl x)).tr (o2.weaken (fun a k x => Or.inr x))), y2, z2⟩
  unfold f_X6_bestOf
  rw [X6_costAll wc (by omega) hr hg, qb]
  dsimp only
  rw [a1, qb, show (qup h 60 22 0) 60 3 = nI c.2.2.2.2.1 from hr.1, cw, show (6 : Int32) * nI c.2.2.2.2.1 = nI ((6 * c.2.2.2.2.1) ^ 1) by rw [Nat.pow_one, ← pk_mul]; rfl]
  rw [show f_X6_bestOf_L27 N (nI ys) N (nI (smC c g ys 0 0)) (nI ((6 * c.2.2.2.2.1) ^ 1)) (1 : Int32) h1 = some (nI (smC c g ys n v), h2) from a2, qb]
end Best
