/-! ===== pure 21: copy, deal ===== -/
theorem call_copy {N : Nat} (hN : 24 < N) (a b x y z : Int32) {h : qN} (hj : J h) : OKC (f_X5_copy a b x y z) (f_X6_copy N a b x y z) h := by
  by_cases c : 0 ≤ a.toInt ∧ a.toInt < 4
  · by_cases cb : 0 ≤ x.toInt ∧ x.toInt < 4
    · obtain ⟨p, hp, rfl, hp2⟩ := ofRange c
      obtain ⟨q, hq, rfl, hq2⟩ := ofRange cb
      have hp4 : p < 4 := by omega
      have hq4 : q < 4 := by omega
      have cp : (nI p).toNatClampNeg = p := nI_clamp (by omega)
      have hcp := nchk2 (j := p) (n := 4) hp4 (by omega)
      have cq : (nI q).toNatClampNeg = q := nI_clamp (by omega)
      have hcq := nchk2 (j := q) (n := 4) hq4 (by omega)
      obtain ⟨bb, l, n, hl, hn, s1, s2, s3, s4, s5, s6⟩ := hj.2.2.2.at hp4
      obtain ⟨bc, l', n', hl', hn', r1, r2, r3, r4, r5, r6⟩ := hj.2.2.2.at hq4
      cases bb with
      | true =>
        refine ⟨-11, h, h, ?_, ?_, hj⟩
        · unfold f_X5_copy
          simp only [X5_isSheet, qb, if_pos c, if_pos cb, one0, if_false, cp, cq, if_neg hcp, if_neg hcq, s1, if_neg bT]
        · unfold f_X6_copy
          simp only [X6_isSheet, qb, if_pos c, if_pos cb, one0, if_false, cp, cq, if_neg hcp, if_neg hcq, s4, if_true]
          rw [if_pos (by decide)]
      | false =>
        have s4' : h 76 p = nI l := s4
        have lp : ¬ nI l < 0 := nI_pos (by omega)
        cases bc with
        | true =>
          refine ⟨-11, h, h, ?_, ?_, hj⟩
          · unfold f_X5_copy
            simp only [X5_isSheet, qb, if_pos c, if_pos cb, one0, if_false, cp, cq, if_neg hcp, if_neg hcq, s1, if_pos bF, r1, if_neg bT]
          · unfold f_X6_copy
            simp only [X6_isSheet, qb, if_pos c, if_pos cb, one0, if_false, cp, cq, if_neg hcp, if_neg hcq, s4', if_neg lp, r4, if_true]
            rw [if_neg (by decide)]
        | false =>
          have r4' : h 76 q = nI l' := r4
          have lq : (0 : Int32) ≤ nI l' := nI_pos' (by omega)
          have el : (nI l = nI l') = (l = l') := propext (nI_eq (by omega) (by omega))
          by_cases ll : l = l'
          · have g1 := X2_holds s3 hn b z
            have g2 := X2_holds r3 hn' y z
            by_cases z0 : 0 ≤ z.toInt
            · have zn : ¬ z < 0 := by rw [i_lt]; have : (0 : Int32).toInt = 0 := rfl; omega
              have f1 := X6_finds (b := nI l) hp4 s4' s5 hl hn b z z0
              have f2 := X6_finds (b := nI l') hq4 r4' r5 hl' hn' y z z0
              rw [if_pos rfl] at f1 f2
              by_cases c1 : 0 ≤ b.toInt ∧ b.toInt + z.toInt ≤ n
              · have c1' : 0 ≤ b.toInt ∧ 0 ≤ z.toInt ∧ b.toInt + z.toInt ≤ n := by omega
                rw [if_pos c1] at f1
                rw [if_pos c1'] at g1
                by_cases c2 : 0 ≤ y.toInt ∧ y.toInt + z.toInt ≤ n'
                · have c2' : 0 ≤ y.toInt ∧ 0 ≤ z.toInt ∧ y.toInt + z.toInt ≤ n' := by omega
                  rw [if_pos c2] at f2
                  rw [if_pos c2'] at g2
                  obtain ⟨m, hm, rfl, hm2⟩ := ofRange (a := z) (n := 25) (by omega)
                  obtain ⟨i, hi, rfl, hi2⟩ := ofRange (a := b) (n := 25) (by omega)
                  obtain ⟨j, hjj, rfl, hj2⟩ := ofRange (a := y) (n := 25) (by omega)
                  rw [nI_toInt hm2, nI_toInt hi2] at c1
                  rw [nI_toInt hm2, nI_toInt hj2] at c2
                  have cc : ¬ nI i < 0 ∧ ¬ nI j < 0 ∧ ¬ nI m < 0 ∧ i + m ≤ 24 ∧ j + m ≤ 24 := ⟨nI_pos hi2, nI_pos hj2, nI_pos hm2, by omega, by omega⟩
                  -- the class's end
                  let h1 : qN := qrow h (52 + 2 * q + 1) (va_cpy (h (52 + 2 * p + 1)) (h (52 + 2 * q + 1)) i j m)
                  have o1 : Off (fun a _ => a = 52 + 2 * q + 1) h h1 := by
                    intro a k ha
                    show qrow h _ _ a k = _
                    unfold qrow
                    rw [if_neg ha]
                  have s4'' : h1 76 p = nI l := by rw [o1 _ _ (by omega)]; exact s4'
                  have s5'' : h1 77 p = nI n := by rw [o1 _ _ (by omega)]; exact s5
                  have r4'' : h1 76 q = nI l' := by rw [o1 _ _ (by omega)]; exact r4'
                  have r5'' : h1 77 q = nI n' := by rw [o1 _ _ (by omega)]; exact r5
                  have f1' := X6_finds (b := nI l) hp4 s4'' s5'' hl hn (nI i) (nI m) z0
                  have f2' := X6_finds (b := nI l') hq4 r4'' r5'' hl' hn' (nI j) (nI m) z0
                  rw [if_pos rfl, nI_toInt hm2, nI_toInt hi2, if_pos c1] at f1'
                  rw [if_pos rfl, nI_toInt hm2, nI_toInt hj2, if_pos c2] at f2'
                  obtain ⟨h2, a2, b2, d2⟩ := loopCopy (F := f_X6_copy_L101 N (nI p) (nI i) (nI q) (nI j) (nI m)) (U := m) (d := 79) (s := 78) (dj := 0) (sj := 24 * p + i) (by omega) (fun n h => by
                      rw [f_X6_copy_L101.eq_2, if_pos (nI_le (Nat.le_refl _) (by omega))])
                    (fun n k h hk => by
                      have i1 : (24 : Int32) * nI p + nI i + nI k = nI (24 * p + i + k) := by rw [k24, pk_mul, nI_add, nI_add]
                      have c1 := nchk2 (j := 24 * p + i + k) (n := 96) (by omega) (by omega)
                      have c2 := nchk2 (j := k) (n := 24) (by omega) (by omega)
                      rw [f_X6_copy_L101.eq_2, if_neg (nI_ge hk (by omega))]
                      simp only [i1, nI_clamp (show 24 * p + i + k < 2 ^ 31 by omega), nI_clamp (show k < 2 ^ 31 by omega), if_neg c1, if_neg c2, nI_1, Nat.zero_add]) N h1 (by omega)
                  obtain ⟨h3, a3, b3, d3⟩ := loopCopy (F := f_X6_copy_L138 N (nI q) (nI j) (nI m)) (U := m) (d := 78) (s := 79) (dj := 24 * q + j) (sj := 0) (by omega) (fun n h => by
                      rw [f_X6_copy_L138.eq_2, if_pos (nI_le (Nat.le_refl _) (by omega))])
                    (fun n k h hk => by
                      have i1 : (24 : Int32) * nI q + nI j + nI k = nI (24 * q + j + k) := by rw [k24, pk_mul, nI_add, nI_add]
                      have c1 := nchk2 (j := 24 * q + j + k) (n := 96) (by omega) (by omega)
                      have c2 := nchk2 (j := k) (n := 24) (by omega) (by omega)
                      rw [f_X6_copy_L138.eq_2, if_neg (nI_ge hk (by omega))]
                      simp only [i1, nI_clamp (show 24 * q + j + k < 2 ^ 31 by omega), nI_clamp (show k < 2 ^ 31 by omega), if_neg c1, if_neg c2, nI_1, Nat.zero_add]) N h2 (by omega)
                  have oA : Off (fun a k => a = 52 + 2 * q + 1 ∨ (a = 78 ∧ 24 * q ≤ k ∧ k < 24 * q + 24) ∨ a = 79) h h3 := (o1.weaken (by omega)).tr ((d2.weaken (by omega)).tr (d3.weaken (by omega)))
                  refine ⟨nI m, h1, h3, ?_, ?_, ?_⟩
                  · unfold f_X5_copy
                    simp only [X5_isSheet, qb, if_pos c, if_pos cb, one0, if_false, cp, cq, if_neg hcp, if_neg hcq, s1, r1, if_pos bF, s2, r2, el, if_pos ll, g1, g2, nI_clamp hi2, nI_clamp hj2, nI_clamp hm2]
                    rw [if_pos cc]
                  · unfold f_X6_copy
                    simp only [X6_isSheet, qb, if_pos c, if_pos cb, one0, if_false, cp, cq, if_neg hcp, if_neg hcq, s4'', r4'', if_neg lp, if_pos lq, el, if_pos ll, if_neg zn, f1', f2']
                    rw [if_neg (by decide), if_pos (by decide), k0, a2, qb, a3, qb]
                  · refine hj.sh (hj.2.2.2.mk (p := q) hq4 (b := false) (l := l') (n := n') hl' hn' ⟨?_, ?_, ?_, ?_, ?_, fun k hk => ?_⟩ (oA.weaken (by omega))) (oA.weaken (fun a k x => by unfold PS; omega))
                    · rw [oA _ _ (by omega)]; exact r1
                    · rw [oA _ _ (by omega)]; exact r2
                    · rw [oA _ _ (by omega)]; exact r3
                    · rw [oA _ _ (by omega)]; exact r4
                    · rw [oA _ _ (by omega)]; exact r5
                    · rw [d3 (52 + 2 * q + 1) k (by omega), d2 (52 + 2 * q + 1) k (by omega)]
                      show qrow h _ _ (52 + 2 * q + 1) k = _
                      unfold qrow
                      rw [if_pos rfl]
                      by_cases ck : j ≤ k ∧ k < j + m
                      · rw [pk_cpy_in ck.1 ck.2]
                        have e1 := b3 (k - j) (by omega)
                        rw [show 24 * q + j + (k - j) = 24 * q + k by omega, Nat.zero_add] at e1
                        have e2 := b2 (k - j) (by omega)
                        rw [Nat.zero_add] at e2
                        rw [e1, e2, o1 _ _ (by omega), s6 (i + (k - j)) (by omega)]
                        congr 1
                        omega
                      · rw [pk_cpy_out (by omega), d3 _ _ (by omega), d2 _ _ (by omega), o1 _ _ (by omega)]
                        exact r6 k hk
                · have c2' : ¬ (0 ≤ y.toInt ∧ 0 ≤ z.toInt ∧ y.toInt + z.toInt ≤ n') := by omega
                  rw [if_neg c2] at f2
                  rw [if_neg c2'] at g2
                  refine ⟨-13, h, h, ?_, ?_, hj⟩
                  · unfold f_X5_copy
                    simp only [X5_isSheet, qb, if_pos c, if_pos cb, one0, zero0, if_false, if_true, cp, cq, if_neg hcp, if_neg hcq, s1, r1, if_pos bF, s2, r2, el, if_pos ll, g1, g2]
                  · unfold f_X6_copy
                    simp only [X6_isSheet, qb, if_pos c, if_pos cb, one0, if_false, cp, cq, if_neg hcp, if_neg hcq, s4', r4', if_neg lp, if_pos lq, el, if_pos ll, if_neg zn, f1, f2]
                    rw [if_neg (by decide), if_neg (by decide)]
              · have c1' : ¬ (0 ≤ b.toInt ∧ 0 ≤ z.toInt ∧ b.toInt + z.toInt ≤ n) := by omega
                rw [if_neg c1] at f1
                rw [if_neg c1'] at g1
                refine ⟨-13, h, h, ?_, ?_, hj⟩
                · unfold f_X5_copy
                  simp only [X5_isSheet, qb, if_pos c, if_pos cb, one0, zero0, if_false, if_true, cp, cq, if_neg hcp, if_neg hcq, s1, r1, if_pos bF, s2, r2, el, if_pos ll, g1]
                · unfold f_X6_copy
                  simp only [X6_isSheet, qb, if_pos c, if_pos cb, one0, if_false, cp, cq, if_neg hcp, if_neg hcq, s4', r4', if_neg lp, if_pos lq, el, if_pos ll, if_neg zn, f1]
                  rw [if_pos (by decide)]
            · have zn : z < 0 := by rw [i_lt]; have : (0 : Int32).toInt = 0 := rfl; omega
              rw [if_neg (by omega)] at g1
              refine ⟨-13, h, h, ?_, ?_, hj⟩
              · unfold f_X5_copy
                simp only [X5_isSheet, qb, if_pos c, if_pos cb, one0, zero0, if_false, if_true, cp, cq, if_neg hcp, if_neg hcq, s1, r1, if_pos bF, s2, r2, el, if_pos ll, g1]
              · unfold f_X6_copy
                simp only [X6_isSheet, qb, if_pos c, if_pos cb, one0, if_false, cp, cq, if_neg hcp, if_neg hcq, s4', r4', if_neg lp, if_pos lq, el, if_pos ll, if_pos zn]
          · refine ⟨-12, h, h, ?_, ?_, hj⟩
            · unfold f_X5_copy
              simp only [X5_isSheet, qb, if_pos c, if_pos cb, one0, if_false, cp, cq, if_neg hcp, if_neg hcq, s1, r1, if_pos bF, s2, r2, el, if_neg ll]
            · unfold f_X6_copy
              simp only [X6_isSheet, qb, if_pos c, if_pos cb, one0, if_false, cp, cq, if_neg hcp, if_neg hcq, s4', r4', if_neg lp, if_pos lq, el, if_neg ll]
    · refine ⟨-1, h, h, ?_, ?_, hj⟩
      · unfold f_X5_copy
        simp only [X5_isSheet, qb, if_pos c, if_neg cb, one0, zero0, if_true, if_false]
      · unfold f_X6_copy
        simp only [X6_isSheet, qb, if_pos c, if_neg cb, one0, zero0, if_true, if_false]
  · refine ⟨-1, h, h, ?_, ?_, hj⟩
    · unfold f_X5_copy
      simp only [X5_isSheet, qb, if_neg c, zero0, if_true]
    · unfold f_X6_copy
      simp only [X6_isSheet, qb, if_neg c, zero0, if_true]
/-! deal -/
def saC (c : Ct) (g : Gt) (a b x : Int32) : Int32 × Ct × Gt :=
  if (0 ≤ a.toInt ∧ a.toInt < (c.2.2.2.2.1 : Int)) ∧ (0 ≤ b.toInt ∧ b.toInt < 6) ∧ (0 ≤ x.toInt ∧ x.toInt ≤ 999) then
    (if c.1 a.toInt.toNat ≠ b.toInt.toNat ∧ x.toInt.toNat ≤ g.1 b.toInt.toNat then (nI (cmC c a.toInt.toNat b.toInt.toNat), (sdC c g a.toInt.toNat b.toInt.toNat x.toInt.toNat)) else (-2, c, g))
  else (-1, c, g)
theorem saC_ok {c : Ct} {g : Gt} (wc : WCt c) (wg : WGt g) (a b x : Int32) : WCt (saC c g a b x).2.1 ∧ WGt (saC c g a b x).2.2 := by
  unfold saC
  split
  · rename_i h
    split
    · exact ⟨wc.mv (by omega) (by omega), wg.sd (by omega)⟩
    · exact ⟨wc, wg⟩
  · exact ⟨wc, wg⟩
theorem X5_sale_sp {N : Nat} {c : Ct} {g : Gt} {h : qN} (wc : WCt c) (wg : WGt g) (hN : 12 < N) (rc : RCt 2 c h) (rg : RG1 1 g h) (a b x : Int32) :
    ∃ h1, f_X5_sale N a b x h = some ((saC c g a b x).1, h1) ∧ RCt 2 (saC c g a b x).2.1 h1 ∧ RG1 1 (saC c g a b x).2.2 h1 ∧ Off P5 h h1 := by
  have hT : c.2.2.2.2.1 ≤ 8 := wc.1.1
  have t5 := X5_isThing (h := h) rc.1 hT a
  unfold saC
  by_cases c1 : 0 ≤ a.toInt ∧ a.toInt < (c.2.2.2.2.1 : Int)
  · by_cases cb : 0 ≤ b.toInt ∧ b.toInt < 6
    · by_cases cx : 0 ≤ x.toInt ∧ x.toInt ≤ 999
      · rw [if_pos ⟨c1, cb, cx⟩]
        obtain ⟨t, ht, rfl, ht2⟩ := ofRange c1
        obtain ⟨y, hy, rfl, hy2⟩ := ofRange cb
        obtain ⟨q, hq, rfl, hq2⟩ := ofRangeLe cx
        have ht3 : t < c.2.2.2.2.1 := by omega
        have h6 : c.1 t ≤ 6 := wc.1.2.2.1 t ht3
        have py : g.1 y ≤ 9999 := wg.1 y (by omega)
        have e1 : (nI t).toInt.toNat = t := by rw [nI_toInt ht2]; omega
        have e2 : (nI y).toInt.toNat = y := by rw [nI_toInt hy2]; omega
        have e3 : (nI q).toInt.toNat = q := by rw [nI_toInt hq2]; omega
        rw [e1, e2, e3]
        have ct : (nI t).toNatClampNeg = t := nI_clamp (by omega)
        have cy : (nI y).toNatClampNeg = y := nI_clamp (by omega)
        have hct := nchk2 (j := t) (n := 8) (by omega) (by omega)
        have hcy := nchk2 (j := y) (n := 6) (by omega) (by omega)
        have e4 : h 4 t = nI (c.1 t) := rc.2.2.2.1 t (by omega)
        have e7 : h 7 y = nI (g.1 y) := rg.1 y (by omega)
        have ey : (nI (c.1 t) = nI y) = (c.1 t = y) := propext (nI_eq (by omega) (by omega))
        have el : (nI q ≤ nI (g.1 y)) = (q ≤ g.1 y) := propext (nI_leI (by omega) (by omega))
        unfold f_X5_sale
        simp only [t5, X5_isPerson, X6_isPerson, X5_isWithin, X6_in, a64, qb, one0, zero0, if_true, if_false, L0, L1, L2, L4, L5, L6, L9, L10, L15, L16, L60, L99, L999, I0, I1, I6, I9, I16, I60, I99, I999, if_pos c1, if_pos cb, if_pos cx, ct, cy, if_neg hct, if_neg hcy, e4, e7, ey, el]
        by_cases n1 : c.1 t = y
        · rw [if_pos n1, if_neg (fun z => z.1 n1)]
          exact ⟨h, rfl, rc, rg, Off.rf⟩
        · rw [if_neg n1]
          by_cases n2 : q ≤ g.1 y
          · rw [if_pos n2, if_pos ⟨n1, n2⟩]
            obtain ⟨hd, fs, sc, ov, T, U, w0, w1⟩ := c
            obtain ⟨pu, co, wo, so⟩ := g
            obtain ⟨h1, a1, b1, c1, d1⟩ := X4_sell_ok (t := t) (y := y) (q := q) wc wg ht3 (by omega) n1 n2 hN rc rg
            rw [a1, qb]
            exact ⟨h1, rfl, b1, c1, d1⟩
          · rw [if_neg n2, if_neg (fun z => n2 z.2)]
            exact ⟨h, rfl, rc, rg, Off.rf⟩
      · rw [if_neg (fun z => cx z.2.2)]
        unfold f_X5_sale
        simp only [t5, X5_isPerson, X6_isPerson, X5_isWithin, X6_in, a64, qb, one0, zero0, if_true, if_false, L0, L1, L2, L4, L5, L6, L9, L10, L15, L16, L60, L99, L999, I0, I1, I6, I9, I16, I60, I99, I999, if_pos c1, if_pos cb, if_neg cx]
        exact ⟨h, rfl, rc, rg, Off.rf⟩
    · rw [if_neg (fun z => cb z.2.1)]
      unfold f_X5_sale
      simp only [t5, X5_isPerson, X6_isPerson, X5_isWithin, X6_in, a64, qb, one0, zero0, if_true, if_false, L0, L1, L2, L4, L5, L6, L9, L10, L15, L16, L60, L99, L999, I0, I1, I6, I9, I16, I60, I99, I999, if_pos c1, if_neg cb]
      exact ⟨h, rfl, rc, rg, Off.rf⟩
  · rw [if_neg (fun z => c1 z.1)]
    unfold f_X5_sale
    simp only [t5, X5_isPerson, X6_isPerson, X5_isWithin, X6_in, a64, qb, one0, zero0, if_true, if_false, L0, L1, L2, L4, L5, L6, L9, L10, L15, L16, L60, L99, L999, I0, I1, I6, I9, I16, I60, I99, I999, if_neg c1]
    exact ⟨h, rfl, rc, rg, Off.rf⟩
theorem X6_sale_sp {N : Nat} {c : Ct} {g : Gt} {h : qN} (wc : WCt c) (wg : WGt g) (hN : 12 < N) (rm : RMt c h) (r6 : RG6 g h) (a b x : Int32) :
    ∃ h1, f_X6_sale N a b x h = some ((saC c g a b x).1, h1) ∧ RMt (saC c g a b x).2.1 h1 ∧ RG6 (saC c g a b x).2.2 h1 ∧ Off P6 h h1 := by
  have hT : c.2.2.2.2.1 ≤ 8 := wc.1.1
  have t6 := X6_isThing (h := h) rm.1 hT a
  unfold saC
  by_cases c1 : 0 ≤ a.toInt ∧ a.toInt < (c.2.2.2.2.1 : Int)
  · by_cases cb : 0 ≤ b.toInt ∧ b.toInt < 6
    · by_cases cx : 0 ≤ x.toInt ∧ x.toInt ≤ 999
      · rw [if_pos ⟨c1, cb, cx⟩]
        obtain ⟨t, ht, rfl, ht2⟩ := ofRange c1
        obtain ⟨y, hy, rfl, hy2⟩ := ofRange cb
        obtain ⟨q, hq, rfl, hq2⟩ := ofRangeLe cx
        have ht3 : t < c.2.2.2.2.1 := by omega
        have h6 : c.1 t ≤ 6 := wc.1.2.2.1 t ht3
        have py : g.1 y ≤ 9999 := wg.1 y (by omega)
        have e1 : (nI t).toInt.toNat = t := by rw [nI_toInt ht2]; omega
        have e2 : (nI y).toInt.toNat = y := by rw [nI_toInt hy2]; omega
        have e3 : (nI q).toInt.toNat = q := by rw [nI_toInt hq2]; omega
        rw [e1, e2, e3]
        by_cases n1 : c.1 t ≠ y ∧ q ≤ g.1 y
        · rw [if_pos n1]
          obtain ⟨hd, fs, sc, ov, T, U, w0, w1⟩ := c
          obtain ⟨pu, co, wo, so⟩ := g
          obtain ⟨h1, a1, b1, c1, d1⟩ := X6_sale_ok (t := t) (y := y) (q := q) wc wg ht3 (by omega) n1.1 n1.2 (by omega) hN rm r6
          rw [a1]
          exact ⟨h1, rfl, b1, c1, d1⟩
        · rw [if_neg n1]
          have ct : (nI t).toNatClampNeg = t := nI_clamp (by omega)
          have cy : (nI y).toNatClampNeg = y := nI_clamp (by omega)
          have hct := nchk2 (j := t) (n := 8) (by omega) (by omega)
          have hcy := nchk2 (j := y) (n := 6) (by omega) (by omega)
          have f4 : h 64 t = nI (c.1 t) := rm.2.2.2.1 t (by omega)
          have f7 : h 61 y = nI (g.1 y) := r6.1 y (by omega)
          have ey : (nI (c.1 t) = nI y) = (c.1 t = y) := propext (nI_eq (by omega) (by omega))
          have el : (nI q ≤ nI (g.1 y)) = (q ≤ g.1 y) := propext (nI_leI (by omega) (by omega))
          unfold f_X6_sale
          simp only [t6, X5_isPerson, X6_isPerson, X5_isWithin, X6_in, a64, qb, one0, zero0, if_true, if_false, L0, L1, L2, L4, L5, L6, L9, L10, L15, L16, L60, L99, L999, I0, I1, I6, I9, I16, I60, I99, I999, if_pos c1, if_pos cb, if_pos cx, ct, cy, if_neg hct, if_neg hcy, f4, f7, ey, el]
          by_cases n2 : c.1 t = y
          · rw [if_pos n2]
            exact ⟨h, rfl, rm, r6, Off.rf⟩
          · rw [if_neg n2, if_neg (fun z => n1 ⟨n2, z⟩)]
            exact ⟨h, rfl, rm, r6, Off.rf⟩
      · rw [if_neg (fun z => cx z.2.2)]
        unfold f_X6_sale
        simp only [t6, X5_isPerson, X6_isPerson, X5_isWithin, X6_in, a64, qb, one0, zero0, if_true, if_false, L0, L1, L2, L4, L5, L6, L9, L10, L15, L16, L60, L99, L999, I0, I1, I6, I9, I16, I60, I99, I999, if_pos c1, if_pos cb, if_neg cx]
        exact ⟨h, rfl, rm, r6, Off.rf⟩
    · rw [if_neg (fun z => cb z.2.1)]
      unfold f_X6_sale
      simp only [t6, X5_isPerson, X6_isPerson, X5_isWithin, X6_in, a64, qb, one0, zero0, if_true, if_false, L0, L1, L2, L4, L5, L6, L9, L10, L15, L16, L60, L99, L999, I0, I1, I6, I9, I16, I60, I99, I999, if_pos c1, if_neg cb]
      exact ⟨h, rfl, rm, r6, Off.rf⟩
  · rw [if_neg (fun z => c1 z.1)]
    unfold f_X6_sale
    simp only [t6, X5_isPerson, X6_isPerson, X5_isWithin, X6_in, a64, qb, one0, zero0, if_true, if_false, L0, L1, L2, L4, L5, L6, L9, L10, L15, L16, L60, L99, L999, I0, I1, I6, I9, I16, I60, I99, I999, if_neg c1]
    exact ⟨h, rfl, rm, r6, Off.rf⟩
/-- the rows of a sheet's sales -/
def dlC (it : Nat → Int32) (b : Nat) : Nat → Nat → Ct → Gt → Nat × Ct × Gt
  | 0, j, c, g => (j, c, g)
  | k + 1, j, c, g => if (saC c g (it (b + 3 * j)) (it (b + 3 * j + 1)) (it (b + 3 * j + 2))).1 < 0 then (j, (saC c g (it (b + 3 * j)) (it (b + 3 * j + 1)) (it (b + 3 * j + 2))).2)
    else dlC it b k (j + 1) (saC c g (it (b + 3 * j)) (it (b + 3 * j + 1)) (it (b + 3 * j + 2))).2.1 (saC c g (it (b + 3 * j)) (it (b + 3 * j + 1)) (it (b + 3 * j + 2))).2.2
theorem dlC_ok {it : Nat → Int32} {b : Nat} : ∀ (k j : Nat) (c : Ct) (g : Gt), WCt c → WGt g → WCt (dlC it b k j c g).2.1 ∧ WGt (dlC it b k j c g).2.2 := by
  intro k
  induction k with
  | zero => intro j c g wc wg; exact ⟨wc, wg⟩
  | succ k ih =>
    intro j c g wc wg
    simp only [dlC]
    obtain ⟨w1, w2⟩ := saC_ok wc wg (it (b + 3 * j)) (it (b + 3 * j + 1)) (it (b + 3 * j + 2))
    split
    · exact ⟨w1, w2⟩
    · exact ih (j + 1) _ _ w1 w2
theorem X5_deal_L {N p b n m l : Nat} {it : Nat → Int32} {l4 : Int32} (hN : 12 < N) (hp : p < 4) (hb : b + 3 * m ≤ n) (hn : n ≤ 24) : ∀ (k j f : Nat) (c : Ct) (g : Gt) (h : qN), m = j + k → k < f → WCt c → WGt g → RCt 2 c h → RG1 1 g h → (∀ k, k < 24 → h (52 + 2 * p + 1) k = it k) → h (52 + 2 * p) 3 = nI n →
    ∃ h1, f_X5_deal_L72 N (nI b) (nI m) (52 + 2 * p) f (nI j) h = some (nI (dlC it b k j c g).1, h1) ∧ RCt 2 (dlC it b k j c g).2.1 h1 ∧ RG1 1 (dlC it b k j c g).2.2 h1 ∧ Off P5 h h1 := by
  intro k
  induction k with
  | zero =>
    intro j f c g h hj hn wc wg rc rg hi h3
    obtain ⟨f, rfl⟩ : ∃ m, f = m + 1 := ⟨f - 1, by omega⟩
    rw [f_X5_deal_L72.eq_2, if_pos (nI_le (by omega) (by omega))]
    exact ⟨h, rfl, rc, rg, Off.rf⟩
  | succ k ih =>
    intro j f c g h hj hf wc wg rc rg hi h3
    obtain ⟨f, rfl⟩ : ∃ m, f = m + 1 := ⟨f - 1, by omega⟩
    have i1 : nI b + (3 : Int32) * nI j = nI (b + 3 * j) := by rw [k3, pk_mul, nI_add]
    have i2 : nI (b + 3 * j) + (1 : Int32) = nI (b + 3 * j + 1) := nI_1 _
    have i3 : nI (b + 3 * j) + (2 : Int32) = nI (b + 3 * j + 2) := by rw [k2, nI_add]
    have c1 := nchk2 (j := b + 3 * j) (n := 24) (by omega) (by omega)
    have c2 := nchk2 (j := b + 3 * j + 1) (n := 24) (by omega) (by omega)
    have c3 := nchk2 (j := b + 3 * j + 2) (n := 24) (by omega) (by omega)
    have hh := X2_holds h3 hn (nI (b + 3 * j)) 3
    rw [nI_toInt (by omega), show (3 : Int32).toInt = 3 from rfl, if_pos (by omega)] at hh
    obtain ⟨h1, a1, b1, c1', d1⟩ := X5_sale_sp wc wg hN rc rg (it (b + 3 * j)) (it (b + 3 * j + 1)) (it (b + 3 * j + 2))
    have one : f_X5_dealOne N (52 + 2 * p) (nI (b + 3 * j)) h = some ((if (saC c g (it (b + 3 * j)) (it (b + 3 * j + 1)) (it (b + 3 * j + 2))).1 < 0 then (0 : Int32) else 1), h1) := by
      unfold f_X5_dealOne
      simp only [hh, qb, one0, if_false, i2, i3, nI_clamp (show b + 3 * j < 2 ^ 31 by omega), nI_clamp (show b + 3 * j + 1 < 2 ^ 31 by omega), nI_clamp (show b + 3 * j + 2 < 2 ^ 31 by omega), if_neg c1, if_neg c2, if_neg c3, hi (b + 3 * j) (by omega), hi (b + 3 * j + 1) (by omega), hi (b + 3 * j + 2) (by omega), a1]
      split <;> rfl
    rw [f_X5_deal_L72.eq_2, if_neg (nI_ge (by omega) (by omega)), i1, one, qb]
    dsimp only
    simp only [dlC]
    by_cases neg : (saC c g (it (b + 3 * j)) (it (b + 3 * j + 1)) (it (b + 3 * j + 2))).1 < 0
    · rw [if_pos neg, if_pos neg, if_pos rfl]
      exact ⟨h1, rfl, b1, c1', d1⟩
    · rw [if_neg neg, if_neg neg, if_neg (by decide), nI_1]
      obtain ⟨w1, w2⟩ := saC_ok wc wg (it (b + 3 * j)) (it (b + 3 * j + 1)) (it (b + 3 * j + 2))
      obtain ⟨h2, a2, b2, c2', d2⟩ := ih (j + 1) f _ _ h1 (by omega) (by omega) w1 w2 b1 c1' (fun k hk => by rw [d1 _ _ (by unfold P5; omega)]; exact hi k hk) (by rw [d1 _ _ (by unfold P5; omega)]; exact h3)
      exact ⟨h2, a2, b2, c2', d1.tr d2⟩
theorem X6_deal_L {N p b n m : Nat} {it : Nat → Int32} (hN : 12 < N) (hp : p < 4) (hb : b + 3 * m ≤ n) (hn : n ≤ 24) : ∀ (k j f : Nat) (c : Ct) (g : Gt) (h : qN), m = j + k → k < f → WCt c → WGt g → RMt c h → RG6 g h → (∀ k, k < 24 → h 78 (24 * p + k) = it k) →
    ∃ h1, f_X6_deal_L61 N (nI m) (nI (24 * p + b)) f (nI j) h = some (nI (dlC it b k j c g).1, h1) ∧ RMt (dlC it b k j c g).2.1 h1 ∧ RG6 (dlC it b k j c g).2.2 h1 ∧ Off P6 h h1 := by
  intro k
  induction k with
  | zero =>
    intro j f c g h hj hn wc wg rc rg hi
    obtain ⟨f, rfl⟩ : ∃ m, f = m + 1 := ⟨f - 1, by omega⟩
    rw [f_X6_deal_L61.eq_2, if_pos (nI_le (by omega) (by omega))]
    exact ⟨h, rfl, rc, rg, Off.rf⟩
  | succ k ih =>
    intro j f c g h hj hf wc wg rc rg hi
    obtain ⟨f, rfl⟩ : ∃ m, f = m + 1 := ⟨f - 1, by omega⟩
    have i1 : nI (24 * p + b) + (3 : Int32) * nI j = nI (24 * p + (b + 3 * j)) := by rw [k3, pk_mul, nI_add, Nat.add_assoc]
    have i2 : nI (24 * p + (b + 3 * j)) + (1 : Int32) = nI (24 * p + (b + 3 * j + 1)) := nI_1 _
    have i3 : nI (24 * p + (b + 3 * j)) + (2 : Int32) = nI (24 * p + (b + 3 * j + 2)) := by rw [k2, nI_add]; rfl
    have c1 := nchk2 (j := 24 * p + (b + 3 * j)) (n := 96) (by omega) (by omega)
    have c2 := nchk2 (j := 24 * p + (b + 3 * j + 1)) (n := 96) (by omega) (by omega)
    have c3 := nchk2 (j := 24 * p + (b + 3 * j + 2)) (n := 96) (by omega) (by omega)
    obtain ⟨h1, a1, b1, c1', d1⟩ := X6_sale_sp wc wg hN rc rg (it (b + 3 * j)) (it (b + 3 * j + 1)) (it (b + 3 * j + 2))
    rw [f_X6_deal_L61.eq_2, if_neg (nI_ge (by omega) (by omega))]
    simp only [i1, i2, i3, nI_clamp (show 24 * p + (b + 3 * j) < 2 ^ 31 by omega), nI_clamp (show 24 * p + (b + 3 * j + 1) < 2 ^ 31 by omega), nI_clamp (show 24 * p + (b + 3 * j + 2) < 2 ^ 31 by omega), if_neg c1, if_neg c2, if_neg c3, hi (b + 3 * j) (by omega), hi (b + 3 * j + 1) (by omega), hi (b + 3 * j + 2) (by omega), a1, qb, nI_1]
    simp only [dlC]
    by_cases neg : (saC c g (it (b + 3 * j)) (it (b + 3 * j + 1)) (it (b + 3 * j + 2))).1 < 0
    · rw [if_pos neg, if_pos neg]
      exact ⟨h1, rfl, b1, c1', d1⟩
    · rw [if_neg neg, if_neg neg]
      obtain ⟨w1, w2⟩ := saC_ok wc wg (it (b + 3 * j)) (it (b + 3 * j + 1)) (it (b + 3 * j + 2))
      obtain ⟨h2, a2, b2, c2', d2⟩ := ih (j + 1) f _ _ h1 (by omega) (by omega) w1 w2 b1 c1' (fun k hk => by rw [d1 _ _ (by unfold P6; omega)]; exact hi k hk)
      exact ⟨h2, a2, b2, c2', d1.tr d2⟩
theorem call_deal {N : Nat} (hN : 12 < N) (a b x z : Int32) {h : qN} (hj : J h) : OKC (f_X5_deal N a b x z) (f_X6_deal N a b x z) h := by
  by_cases c : 0 ≤ a.toInt ∧ a.toInt < 4
  · by_cases cb : 0 ≤ b.toInt ∧ b.toInt < 3
    · by_cases cz : 1 ≤ z.toInt ∧ z.toInt ≤ 8
      · have z1 : ¬ z < 1 := by rw [i_lt, I1]; omega
        have z8 : z ≤ (8 : Int32) := by rw [i_le]; have : (8 : Int32).toInt = 8 := rfl; omega
        have cz6 : (1 : Int64).toInt ≤ z.toInt ∧ z.toInt ≤ (8 : Int64).toInt := cz
        obtain ⟨m, hm, rfl, hm2⟩ := ofRangeLe (a := z) (n := 8) (by omega)
        obtain ⟨p, hp, rfl, hp2⟩ := ofRange c
        have hp4 : p < 4 := by omega
        have cp : (nI p).toNatClampNeg = p := nI_clamp (by omega)
        have hc := nchk2 (j := p) (n := 4) hp4 (by omega)
        have m3 : (3 : Int32) * nI m = nI (3 * m) := by rw [k3, pk_mul]
        have m3i : (nI (3 * m)).toInt = 3 * (m : Int) := by rw [nI_toInt (by omega)]; omega
        obtain ⟨bb, l, n, hl, hn, s1, s2, s3, s4, s5, s6⟩ := hj.2.2.2.at hp4
        cases bb with
        | true =>
          refine ⟨-11, h, h, ?_, ?_, hj⟩
          · unfold f_X5_deal
            simp only [X5_isSheet, X5_isLane, qb, if_pos c, if_pos cb, one0, if_false, if_neg z1, if_pos z8, cp, if_neg hc, X2_refuses s1 s2, if_true]
            rw [if_neg (by decide)]
          · unfold f_X6_deal
            simp only [X6_isSheet, X6_isLane, X6_in, a64, qb, if_pos c, if_pos cb, if_pos cz6, one0, if_false, X6_finds11 hp4 s4]
            rw [if_neg (by decide)]
        | false =>
          have s4' : h 76 p = nI l := s4
          have f6 := X6_finds (b := b) hp4 s4' s5 hl hn x (nI (3 * m)) (by rw [m3i]; omega)
          rw [m3i] at f6
          by_cases el : nI l = b
          · by_cases cx : 0 ≤ x.toInt ∧ x.toInt + 3 * (m : Int) ≤ n
            · have cx3 : 0 ≤ x.toInt ∧ 0 ≤ 3 * (m : Int) ∧ x.toInt + 3 * (m : Int) ≤ n := by omega
              rw [if_pos el, if_pos cx] at f6
              obtain ⟨q, hq, rfl, hq2⟩ := ofRange (a := x) (n := 25) (by omega)
              rw [nI_toInt hq2] at cx
              subst el
              obtain ⟨c', g, wc, wg, rc, rg, rm, r6⟩ := hj.1
              obtain ⟨h1, a1, b1, c1, d1⟩ := X5_deal_L (l := l) (l4 := 0) (b := q) (m := m) (it := h (52 + 2 * p + 1)) hN hp4 (by omega) hn m 0 N c' g h (by omega) (by omega) wc wg rc rg (fun k hk => rfl) s3
              obtain ⟨h2, a2, b2, c2, d2⟩ := X6_deal_L (b := q) (n := n) (m := m) (it := h (52 + 2 * p + 1)) hN hp4 (by omega) hn m 0 N c' g h1 (by omega) (by omega) wc wg (RM.p5 rm d1) (r6.p5 d1) (fun k hk => by rw [d1 _ _ (by unfold P5; omega)]; exact (s6 k hk).symm)
              obtain ⟨w1, w2⟩ := dlC_ok (it := h (52 + 2 * p + 1)) (b := q) m 0 c' g wc wg
              have f6' := X6_finds (h := h1) (b := nI l) hp4 (by rw [d1 _ _ (by unfold P5; omega)]; exact s4') (by rw [d1 _ _ (by unfold P5; omega)]; exact s5) hl hn (nI q) (nI (3 * m)) (by rw [m3i]; omega)
              rw [m3i, nI_toInt hq2, if_pos rfl, if_pos cx] at f6'
              refine ⟨nI (dlC (h (52 + 2 * p + 1)) q m 0 c' g).1, h1, h2, ?_, ?_, hj.bld w1 w2 b1 c1 b2 c2 d1 d2⟩
              · unfold f_X5_deal
                simp only [X5_isSheet, X5_isLane, qb, if_pos c, if_pos cb, one0, if_false, if_neg z1, if_pos z8, cp, if_neg hc, X2_refuses s1 s2, Bool.false_eq_true, if_true, m3, X2_holds s3 hn, m3i, if_pos cx3]
                rw [k0, a1, qb]
              · unfold f_X6_deal
                simp only [X6_isSheet, X6_isLane, X6_in, a64, qb, if_pos c, if_pos cb, if_pos cz6, one0, if_false, m3, f6', if_pos (show (0 : Int32) ≤ 0 by decide)]
                rw [show (24 : Int32) * nI p + nI q = nI (24 * p + q) by rw [k24, pk_mul, nI_add], k0, a2, qb]
            · have cx3 : ¬ (0 ≤ x.toInt ∧ 0 ≤ 3 * (m : Int) ∧ x.toInt + 3 * (m : Int) ≤ n) := by omega
              rw [if_pos el, if_neg cx] at f6
              refine ⟨-13, h, h, ?_, ?_, hj⟩
              · unfold f_X5_deal
                simp only [X5_isSheet, X5_isLane, qb, if_pos c, if_pos cb, one0, zero0, if_false, if_neg z1, if_pos z8, cp, if_neg hc, X2_refuses s1 s2, Bool.false_eq_true, if_pos el, if_true, m3, X2_holds s3 hn, m3i, if_neg cx3]
              · unfold f_X6_deal
                simp only [X6_isSheet, X6_isLane, X6_in, a64, qb, if_pos c, if_pos cb, if_pos cz6, one0, if_false, m3, f6]
                rw [if_neg (by decide)]
          · rw [if_neg el] at f6
            refine ⟨-12, h, h, ?_, ?_, hj⟩
            · unfold f_X5_deal
              simp only [X5_isSheet, X5_isLane, qb, if_pos c, if_pos cb, one0, if_false, if_neg z1, if_pos z8, cp, if_neg hc, X2_refuses s1 s2, Bool.false_eq_true, if_neg el]
              rw [if_neg (by decide)]
            · unfold f_X6_deal
              simp only [X6_isSheet, X6_isLane, X6_in, a64, qb, if_pos c, if_pos cb, if_pos cz6, one0, if_false, m3, f6]
              rw [if_neg (by decide)]
      · have cz6 : ¬ ((1 : Int64).toInt ≤ z.toInt ∧ z.toInt ≤ (8 : Int64).toInt) := cz
        refine ⟨-1, h, h, ?_, ?_, hj⟩
        · unfold f_X5_deal
          simp only [X5_isSheet, X5_isLane, qb, if_pos c, if_pos cb, one0, if_false, i_lt, i_le, I1, show (8 : Int32).toInt = 8 from rfl]
          by_cases s : z.toInt < 1
          · rw [if_pos s]
          · rw [if_neg s, if_neg (by omega)]
        · unfold f_X6_deal
          simp only [X6_isSheet, X6_isLane, X6_in, a64, qb, if_pos c, if_pos cb, if_neg cz6, one0, zero0, if_false, if_true]
    · refine ⟨-1, h, h, ?_, ?_, hj⟩
      · unfold f_X5_deal
        simp only [X5_isSheet, X5_isLane, qb, if_pos c, if_neg cb, one0, zero0, if_true, if_false]
      · unfold f_X6_deal
        simp only [X6_isSheet, X6_isLane, qb, if_pos c, if_neg cb, one0, zero0, if_true, if_false]
  · refine ⟨-1, h, h, ?_, ?_, hj⟩
    · unfold f_X5_deal
      simp only [X5_isSheet, qb, if_neg c, zero0, if_true]
    · unfold f_X6_deal
      simp only [X6_isSheet, qb, if_neg c, zero0, if_true]
