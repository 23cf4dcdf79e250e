def f_X4_split_L13 (N : Nat) (r0 : Nat) (l1 : Int32) (l3 : Int32) : Nat → Int32 → qN → Option (qN)
  | 0, _, _ => none
  | n + 1, l4, h =>
    if (6 : Int32) ≤ l4 then
      some h
    else
      if ((l1 * (6 : Int32)) + l4) < 0 ∨ 48 ≤ ((l1 * (6 : Int32)) + l4).toNatClampNeg then none else
      if ((l3 * (6 : Int32)) + l4) < 0 ∨ 48 ≤ ((l3 * (6 : Int32)) + l4).toNatClampNeg then none else
      if ((l1 * (6 : Int32)) + l4) < 0 ∨ 48 ≤ ((l1 * (6 : Int32)) + l4).toNatClampNeg then none else
      f_X4_split_L13 N r0 l1 l3 n (l4 + (1 : Int32)) (qup (qup h (r0 + 8) ((l3 * (6 : Int32)) + l4).toNatClampNeg ((h (r0 + 8) ((l1 * (6 : Int32)) + l4).toNatClampNeg) / (2 : Int32))) (r0 + 8) ((l1 * (6 : Int32)) + l4).toNatClampNeg ((h (r0 + 8) ((l1 * (6 : Int32)) + l4).toNatClampNeg) - ((h (r0 + 8) ((l1 * (6 : Int32)) + l4).toNatClampNeg) / (2 : Int32))))
set_option maxRecDepth 100000 in
theorem t_X4_split_L13 {d N : Nat} (hd : 3 ≤ d) : ∀ (n : Nat) (r0 : Nat) (l1 : Int32) (l3 : Int32) (hr0 : isV r0) (l4 : Int32) (h : qN) (h2 : qN), f_X4_split_L13 N r0 l1 l3 n l4 h = some h2 → ∀ (v : Option Value) (h1 : qN), RR d cd_X4_split (0, 0) 77 [qU, qU, qU, .int l3, qU, qU, qU] [] h2 v h1 → RR d cd_X4_split (0, 0) 13 [.ref r0, .int l1, qU, .int l3, .int l4, qU, qU] [] h v h1 := by
  intro n
  induction n with
  | zero =>
    intro r0 l1 l3 hr0 l4 h h2 hf v h1 hE
    exact absurd hf (by simp [f_X4_split_L13])
  | succ n ih =>
    intro r0 l1 l3 hr0 l4 h h2 hf v h1 hE
    unfold f_X4_split_L13 at hf
    refine R_ldI rfl rfl ?_
    refine R_I rfl ?_
    rcases qite hf with ⟨c568, hf⟩ | ⟨c568, hf⟩
    · refine R_CmGe_t rfl c568 ?_
      refine R_drop [false, false, true, true, false, true, true] (ls' := [qU, qU, qU, .int l3, qU, qU, qU]) rfl ?_
      obtain rfl := Option.some.inj hf
      exact hE
    · refine R_CmGe_f rfl c568 ?_
      refine R_ldA rfl rfl ?_
      refine R_get rfl hr0.1 rfl rfl ?_
      refine R_ldI rfl rfl ?_
      refine R_I rfl ?_
      refine R_bin rfl ?_
      refine R_ldI rfl rfl ?_
      refine R_bin rfl ?_
      obtain ⟨c569, hf⟩ := qchk hf
      refine R_ald rfl hr0.2.2.2.2 c569 ?_
      refine R_stI (ls' := [.ref r0, .int l1, qU, .int l3, .int l4, .int (h (r0 + 8) ((l1 * (6 : Int32)) + l4).toNatClampNeg), qU]) rfl rfl rfl rfl ?_
      refine R_ldI rfl rfl ?_
      refine R_I rfl ?_
      refine R_div rfl (by decide) ?_
      refine R_stI (ls' := [.ref r0, .int l1, qU, .int l3, .int l4, .int (h (r0 + 8) ((l1 * (6 : Int32)) + l4).toNatClampNeg), .int ((h (r0 + 8) ((l1 * (6 : Int32)) + l4).toNatClampNeg) / (2 : Int32))]) rfl rfl rfl rfl ?_
      refine R_ldA rfl rfl ?_
      refine R_get rfl hr0.1 rfl rfl ?_
      refine R_ldI rfl rfl ?_
      refine R_I rfl ?_
      refine R_bin rfl ?_
      refine R_ldI rfl rfl ?_
      refine R_bin rfl ?_
      refine R_ldI rfl rfl ?_
      obtain ⟨c570, hf⟩ := qchk hf
      refine R_ast rfl hr0.2.2.2.2 c570 ?_
      refine R_ldA rfl rfl ?_
      refine R_get rfl hr0.1 rfl rfl ?_
      refine R_ldI rfl rfl ?_
      refine R_I rfl ?_
      refine R_bin rfl ?_
      refine R_ldI rfl rfl ?_
      refine R_bin rfl ?_
      refine R_ldI rfl rfl ?_
      refine R_ldI rfl rfl ?_
      refine R_bin rfl ?_
      obtain ⟨c571, hf⟩ := qchk hf
      refine R_ast rfl hr0.2.2.2.2 c571 ?_
      refine R_inc (ls' := [.ref r0, .int l1, qU, .int l3, .int (l4 + (1 : Int32)), .int (h (r0 + 8) ((l1 * (6 : Int32)) + l4).toNatClampNeg), .int ((h (r0 + 8) ((l1 * (6 : Int32)) + l4).toNatClampNeg) / (2 : Int32))]) rfl rfl rfl rfl ?_
      refine R_goto rfl ?_
      refine R_drop [true, true, true, true, true, false, false] (ls' := [.ref r0, .int l1, qU, .int l3, .int (l4 + (1 : Int32)), qU, qU]) rfl ?_
      exact ih r0 l1 l3 hr0 (l4 + (1 : Int32)) (qup (qup h (r0 + 8) ((l3 * (6 : Int32)) + l4).toNatClampNeg ((h (r0 + 8) ((l1 * (6 : Int32)) + l4).toNatClampNeg) / (2 : Int32))) (r0 + 8) ((l1 * (6 : Int32)) + l4).toNatClampNeg ((h (r0 + 8) ((l1 * (6 : Int32)) + l4).toNatClampNeg) - ((h (r0 + 8) ((l1 * (6 : Int32)) + l4).toNatClampNeg) / (2 : Int32)))) _ hf _ _ hE
def f_X4_split (N : Nat) (w : Nat) (a1 : Int32) (a2 : Int32) (h : qN) : Option (Int32 × qN) :=
  qbind (f_X0_split N (w + 1) a1 a2 h) fun (x566, h565) =>
  qbind (f_X4_split_L13 N w a1 x566 N (0 : Int32) h565) fun h573 =>
  some (x566, h573)
set_option maxRecDepth 100000 in
theorem t_X4_split {d N : Nat} (hd : 4 ≤ d) (w : Nat) (a1 : Int32) (a2 : Int32) (hw : isV w) (h : qN) {v0 : Int32} {h1 : qN} (hf : f_X4_split N w a1 a2 h = some (v0, h1)) : EE d 52 [.ref w, .int a1, .int a2] h (some (.int v0)) h1 := by
  obtain ⟨d, rfl⟩ : ∃ d0, d = d0 + 1 := ⟨d - 1, by omega⟩
  unfold f_X4_split at hf
  refine E_intro qm_52 qc_52 (Nat.le_of_ble_eq_true rfl) rfl rfl ?_
  show RR d cd_X4_split (0, 0) 0 [.ref w, .int a1, .int a2, qU, qU, qU, qU] [] h (some (.int v0)) h1
  refine R_ldA rfl rfl ?_
  refine R_get rfl hw.1 rfl rfl ?_
  refine R_ldI rfl rfl ?_
  refine R_ldI rfl rfl ?_
  obtain ⟨⟨x566, h565⟩, e567, hf⟩ := qbind_some hf
  dsimp only at hf
  refine R_callVi (as := [.ref (w + 1), .int a1, .int a2]) (rest := []) rfl rfl hw.2.1.1 rfl rfl rfl rfl (t_X0_split (N := N) (by omega) (w + 1) a1 a2 hw.2.1 h e567) ?_
  refine R_stI (ls' := [.ref w, .int a1, .int a2, .int x566, qU, qU, qU]) rfl rfl rfl rfl ?_
  refine R_I rfl ?_
  refine R_stI (ls' := [.ref w, .int a1, .int a2, .int x566, .int (0 : Int32), qU, qU]) rfl rfl rfl rfl ?_
  refine R_drop [true, true, false, true, true, true, true] (ls' := [.ref w, .int a1, qU, .int x566, .int (0 : Int32), qU, qU]) rfl ?_
  obtain ⟨h573, e574, hf⟩ := qbind_some hf
  refine t_X4_split_L13 (N := N) (by omega) _ w a1 x566 hw (0 : Int32) h565 h573 e574 _ _ ?_
  refine R_ldI rfl rfl ?_
  obtain ⟨rfl, rfl⟩ := qinj2 hf
  exact R_retI rfl
def f_X4_valueTo_L17 (N : Nat) (r0 : Nat) (l1 : Int32) (r2 : Nat) : Nat → Int32 → Int32 → qN → Option (Int32 × qN)
  | 0, _, _, _ => none
  | n + 1, l3, l4, h =>
    if (h r2 4) ≤ l4 then
      some (l3, h)
    else
      if l4 < 0 ∨ 8 ≤ l4.toNatClampNeg then none else
      qbind (
          if (h (r2 + 2) l4.toNatClampNeg) = l1 then
            if ((l4 * (6 : Int32)) + l1) < 0 ∨ 48 ≤ ((l4 * (6 : Int32)) + l1).toNatClampNeg then none else
            some (l3 + (h (r0 + 8) ((l4 * (6 : Int32)) + l1).toNatClampNeg))
          else
            some l3 : Option (Int32)) fun x585 =>
      f_X4_valueTo_L17 N r0 l1 r2 n x585 (l4 + (1 : Int32)) h
set_option maxRecDepth 100000 in
theorem t_X4_valueTo_L17 {d N : Nat} (hd : 2 ≤ d) : ∀ (n : Nat) (r0 : Nat) (l1 : Int32) (r2 : Nat) (hr0 : isV r0) (hr2 : isC r2) (l3 : Int32) (l4 : Int32) (h : qN) (y3 : Int32) (h2 : qN), f_X4_valueTo_L17 N r0 l1 r2 n l3 l4 h = some (y3, h2) → ∀ (v : Option Value) (h1 : qN), RR d cd_X4_valueTo (0, 0) 58 [qU, qU, qU, .int y3, qU] [] h2 v h1 → RR d cd_X4_valueTo (0, 0) 17 [.ref r0, .int l1, .ref r2, .int l3, .int l4] [] h v h1 := by
  intro n
  induction n with
  | zero =>
    intro r0 l1 r2 hr0 hr2 l3 l4 h y3 h2 hf v h1 hE
    exact absurd hf (by simp [f_X4_valueTo_L17])
  | succ n ih =>
    intro r0 l1 r2 hr0 hr2 l3 l4 h y3 h2 hf v h1 hE
    unfold f_X4_valueTo_L17 at hf
    refine R_ldI rfl rfl ?_
    refine R_ldA rfl rfl ?_
    refine R_get rfl hr2.1 rfl rfl ?_
    rcases qite hf with ⟨c581, hf⟩ | ⟨c581, hf⟩
    · refine R_CmGe_t rfl c581 ?_
      refine R_drop [false, false, false, true, false] (ls' := [qU, qU, qU, .int l3, qU]) rfl ?_
      obtain ⟨rfl, rfl⟩ := qinj2 hf
      exact hE
    · refine R_CmGe_f rfl c581 ?_
      refine R_ldA rfl rfl ?_
      refine R_get rfl hr2.1 rfl rfl ?_
      refine R_ldI rfl rfl ?_
      obtain ⟨c582, hf⟩ := qchk hf
      refine R_ald rfl hr2.2.2.1 c582 ?_
      refine R_ldI rfl rfl ?_
      obtain ⟨x585, e586, hf⟩ := qbind_some hf
      have key : RR d cd_X4_valueTo (0, 0) 52 [.ref r0, .int l1, .ref r2, .int x585, .int l4] [] h v h1 := by
        clear e586
        refine R_inc (ls' := [.ref r0, .int l1, .ref r2, .int x585, .int (l4 + (1 : Int32))]) rfl rfl rfl rfl ?_
        refine R_goto rfl ?_
        exact ih r0 l1 r2 hr0 hr2 x585 (l4 + (1 : Int32)) h _ _ hf _ _ hE
      clear hf
      have hf := e586
      clear e586
      rcases qite hf with ⟨c583, hf⟩ | ⟨c583, hf⟩
      · refine R_CmNe_f rfl c583 ?_
        refine R_ldI rfl rfl ?_
        refine R_ldA rfl rfl ?_
        refine R_get rfl hr0.1 rfl rfl ?_
        refine R_ldI rfl rfl ?_
        refine R_I rfl ?_
        refine R_bin rfl ?_
        refine R_ldI rfl rfl ?_
        refine R_bin rfl ?_
        obtain ⟨c584, hf⟩ := qchk hf
        refine R_ald rfl hr0.2.2.2.2 c584 ?_
        refine R_bin rfl ?_
        refine R_stI (ls' := [.ref r0, .int l1, .ref r2, .int (l3 + (h (r0 + 8) ((l4 * (6 : Int32)) + l1).toNatClampNeg)), .int l4]) rfl rfl rfl rfl ?_
        obtain rfl := Option.some.inj hf
        exact key
      · refine R_CmNe_t rfl c583 ?_
        obtain rfl := Option.some.inj hf
        exact key
def f_X4_valueTo (N : Nat) (w : Nat) (a1 : Int32) (r2 : Nat) (h : qN) : Option (Int32 × qN) :=
  if a1 < 0 ∨ 6 ≤ a1.toNatClampNeg then none else
  qbind (f_X0_countStood N r2 a1 h) fun (x579, h578) =>
  qbind (f_X4_valueTo_L17 N w a1 r2 N ((-(h (w + 7) a1.toNatClampNeg)) * x579) (0 : Int32) h578) fun (x588, h589) =>
  some (x588, h589)
set_option maxRecDepth 100000 in
theorem t_X4_valueTo {d N : Nat} (hd : 3 ≤ d) (w : Nat) (a1 : Int32) (r2 : Nat) (hw : isV w) (hr2 : isC r2) (h : qN) {v0 : Int32} {h1 : qN} (hf : f_X4_valueTo N w a1 r2 h = some (v0, h1)) : EE d 53 [.ref w, .int a1, .ref r2] h (some (.int v0)) h1 := by
  obtain ⟨d, rfl⟩ : ∃ d0, d = d0 + 1 := ⟨d - 1, by omega⟩
  unfold f_X4_valueTo at hf
  refine E_intro qm_53 qc_53 (Nat.le_of_ble_eq_true rfl) rfl rfl ?_
  show RR d cd_X4_valueTo (0, 0) 0 [.ref w, .int a1, .ref r2, qU, qU] [] h (some (.int v0)) h1
  refine R_ldA rfl rfl ?_
  refine R_get rfl hw.1 rfl rfl ?_
  refine R_ldI rfl rfl ?_
  obtain ⟨c577, hf⟩ := qchk hf
  refine R_ald rfl hw.2.2.2.1 c577 ?_
  refine R_un rfl ?_
  refine R_ldA rfl rfl ?_
  refine R_ldI rfl rfl ?_
  obtain ⟨⟨x579, h578⟩, e580, hf⟩ := qbind_some hf
  dsimp only at hf
  refine R_callVi (as := [.ref r2, .int a1]) (rest := [.int (-(h (w + 7) a1.toNatClampNeg))]) rfl rfl hr2.1 rfl rfl rfl rfl (t_X0_countStood (N := N) (by omega) r2 a1 hr2 h e580) ?_
  refine R_bin rfl ?_
  refine R_stI (ls' := [.ref w, .int a1, .ref r2, .int ((-(h (w + 7) a1.toNatClampNeg)) * x579), qU]) rfl rfl rfl rfl ?_
  refine R_I rfl ?_
  refine R_stI (ls' := [.ref w, .int a1, .ref r2, .int ((-(h (w + 7) a1.toNatClampNeg)) * x579), .int (0 : Int32)]) rfl rfl rfl rfl ?_
  obtain ⟨⟨x588, h589⟩, e590, hf⟩ := qbind_some hf
  dsimp only at hf
  refine t_X4_valueTo_L17 (N := N) (by omega) _ w a1 r2 hw hr2 ((-(h (w + 7) a1.toNatClampNeg)) * x579) (0 : Int32) h578 x588 h589 e590 _ _ ?_
  refine R_ldI rfl rfl ?_
  obtain ⟨rfl, rfl⟩ := qinj2 hf
  exact R_retI rfl
def f_X5_isPerson (a0 : Int32) (h : qN) : Option (Int32 × qN) :=
  if a0 < 0 then
    some ((0 : Int32), h)
  else
    if (6 : Int32) ≤ a0 then
      some ((0 : Int32), h)
    else
      some ((1 : Int32), h)
set_option maxRecDepth 100000 in
theorem t_X5_isPerson {d : Nat} (hd : 1 ≤ d) (a0 : Int32)  (h : qN) {v0 : Int32} {h1 : qN} (hf : f_X5_isPerson a0 h = some (v0, h1)) : EE d 92 [.int a0] h (some (.int v0)) h1 := by
  obtain ⟨d, rfl⟩ : ∃ d0, d = d0 + 1 := ⟨d - 1, by omega⟩
  unfold f_X5_isPerson at hf
  refine E_intro qm_92 qc_92 (Nat.le_of_ble_eq_true rfl) rfl rfl ?_
  show RR d cd_X5_isPerson (0, 0) 0 [.int a0] [] h (some (.int v0)) h1
  refine R_ldI rfl rfl ?_
  rcases qite hf with ⟨c593, hf⟩ | ⟨c593, hf⟩
  · refine R_IfLt_t rfl c593 ?_
    refine R_I rfl ?_
    obtain ⟨rfl, rfl⟩ := qinj2 hf
    exact R_retZ rfl (by decide)
  · refine R_IfLt_f rfl c593 ?_
    refine R_ldI rfl rfl ?_
    refine R_I rfl ?_
    rcases qite hf with ⟨c594, hf⟩ | ⟨c594, hf⟩
    · refine R_CmGe_t rfl c594 ?_
      refine R_I rfl ?_
      obtain ⟨rfl, rfl⟩ := qinj2 hf
      exact R_retZ rfl (by decide)
    · refine R_CmGe_f rfl c594 ?_
      refine R_I rfl ?_
      refine R_goto rfl ?_
      obtain ⟨rfl, rfl⟩ := qinj2 hf
      exact R_retZ rfl (by decide)
def f_X5_isWithin (a0 : Int32) (a1 : Int32) (h : qN) : Option (Int32 × qN) :=
  if a0 < 0 then
    some ((0 : Int32), h)
  else
    if a1 < a0 then
      some ((0 : Int32), h)
    else
      some ((1 : Int32), h)
set_option maxRecDepth 100000 in
theorem t_X5_isWithin {d : Nat} (hd : 1 ≤ d) (a0 : Int32) (a1 : Int32)  (h : qN) {v0 : Int32} {h1 : qN} (hf : f_X5_isWithin a0 a1 h = some (v0, h1)) : EE d 91 [.int a0, .int a1] h (some (.int v0)) h1 := by
  obtain ⟨d, rfl⟩ : ∃ d0, d = d0 + 1 := ⟨d - 1, by omega⟩
  unfold f_X5_isWithin at hf
  refine E_intro qm_91 qc_91 (Nat.le_of_ble_eq_true rfl) rfl rfl ?_
  show RR d cd_X5_isWithin (0, 0) 0 [.int a0, .int a1] [] h (some (.int v0)) h1
  refine R_ldI rfl rfl ?_
  rcases qite hf with ⟨c595, hf⟩ | ⟨c595, hf⟩
  · refine R_IfLt_t rfl c595 ?_
    refine R_I rfl ?_
    obtain ⟨rfl, rfl⟩ := qinj2 hf
    exact R_retZ rfl (by decide)
  · refine R_IfLt_f rfl c595 ?_
    refine R_ldI rfl rfl ?_
    refine R_ldI rfl rfl ?_
    rcases qite hf with ⟨c596, hf⟩ | ⟨c596, hf⟩
    · refine R_CmGt_t rfl c596 ?_
      refine R_I rfl ?_
      obtain ⟨rfl, rfl⟩ := qinj2 hf
      exact R_retZ rfl (by decide)
    · refine R_CmGt_f rfl c596 ?_
      refine R_I rfl ?_
      refine R_goto rfl ?_
      obtain ⟨rfl, rfl⟩ := qinj2 hf
      exact R_retZ rfl (by decide)
def f_X5_put (r0 : Nat) (n0 : Nat) (a1 : Int32) (a2 : Int32) (h : qN) : Option (Int32 × qN) :=
  if a1 < 0 then
    some ((-1 : Int32), h)
  else
    if a1 < (Int32.ofNat n0) then
      if a1 < 0 ∨ n0 ≤ a1.toNatClampNeg then none else
      if a1 < 0 ∨ n0 ≤ a1.toNatClampNeg then none else
      some ((h r0 a1.toNatClampNeg), (qup h r0 a1.toNatClampNeg a2))
    else
      some ((-1 : Int32), h)
set_option maxRecDepth 100000 in
theorem t_X5_put {d : Nat} (hd : 1 ≤ d) (r0 : Nat) (n0 : Nat) (a1 : Int32) (a2 : Int32) (hr0 : isA r0 n0) (h : qN) {v0 : Int32} {h1 : qN} (hf : f_X5_put r0 n0 a1 a2 h = some (v0, h1)) : EE d 97 [.ref r0, .int a1, .int a2] h (some (.int v0)) h1 := by
  obtain ⟨d, rfl⟩ : ∃ d0, d = d0 + 1 := ⟨d - 1, by omega⟩
  unfold f_X5_put at hf
  refine E_intro qm_97 qc_97 (Nat.le_of_ble_eq_true rfl) rfl rfl ?_
  show RR d cd_X5_put (0, 0) 0 [.ref r0, .int a1, .int a2, qU] [] h (some (.int v0)) h1
  refine R_ldI rfl rfl ?_
  rcases qite hf with ⟨c597, hf⟩ | ⟨c597, hf⟩
  · refine R_IfLt_t rfl c597 ?_
    refine R_I rfl ?_
    obtain ⟨rfl, rfl⟩ := qinj2 hf
    exact R_retI rfl
  · refine R_IfLt_f rfl c597 ?_
    refine R_ldI rfl rfl ?_
    refine R_ldA rfl rfl ?_
    refine R_len rfl hr0 rfl ?_
    rcases qite hf with ⟨c598, hf⟩ | ⟨c598, hf⟩
    · refine R_CmLt_t rfl c598 ?_
      refine R_ldA rfl rfl ?_
      refine R_ldI rfl rfl ?_
      obtain ⟨c599, hf⟩ := qchk hf
      refine R_ald rfl hr0 c599 ?_
      refine R_stI (ls' := [.ref r0, .int a1, .int a2, .int (h r0 a1.toNatClampNeg)]) rfl rfl rfl rfl ?_
      refine R_ldA rfl rfl ?_
      refine R_ldI rfl rfl ?_
      refine R_ldI rfl rfl ?_
      obtain ⟨c600, hf⟩ := qchk hf
      refine R_ast rfl hr0 c600 ?_
      refine R_ldI rfl rfl ?_
      obtain ⟨rfl, rfl⟩ := qinj2 hf
      exact R_retI rfl
    · refine R_CmLt_f rfl c598 ?_
      refine R_I rfl ?_
      obtain ⟨rfl, rfl⟩ := qinj2 hf
      exact R_retI rfl
def f_X5_person (a1 : Int32) (a2 : Int32) (a3 : Int32) (h : qN) : Option (Int32 × qN) :=
  qbind (f_X5_isPerson a1 h) fun (x602, h601) =>
  if x602 = 0 then
    some ((-1 : Int32), h601)
  else
    if a2 = 0 then
      qbind (f_X5_isWithin a3 (999 : Int32) h601) fun (x607, h606) =>
      if x607 = 0 then
        if a2 = (1 : Int32) then
          qbind (f_X5_isWithin a3 (99 : Int32) h606) fun (x612, h611) =>
          if x612 = 0 then
            some ((-1 : Int32), h611)
          else
            qbind (f_X5_put 8 6 a1 a3 h611) fun (x616, h615) =>
            some (x616, h615)
        else
          some ((-1 : Int32), h606)
      else
        qbind (f_X5_put 7 6 a1 a3 h606) fun (x619, h618) =>
        some (x619, h618)
    else
      if a2 = (1 : Int32) then
        qbind (f_X5_isWithin a3 (99 : Int32) h601) fun (x623, h622) =>
        if x623 = 0 then
          some ((-1 : Int32), h622)
        else
          qbind (f_X5_put 8 6 a1 a3 h622) fun (x627, h626) =>
          some (x627, h626)
      else
        some ((-1 : Int32), h601)
set_option maxRecDepth 100000 in
theorem t_X5_person {d : Nat} (hd : 2 ≤ d) (a1 : Int32) (a2 : Int32) (a3 : Int32)  (h : qN) {v0 : Int32} {h1 : qN} (hf : f_X5_person a1 a2 a3 h = some (v0, h1)) : EE d 55 [.ref 0, .int a1, .int a2, .int a3] h (some (.int v0)) h1 := by
  obtain ⟨d, rfl⟩ : ∃ d0, d = d0 + 1 := ⟨d - 1, by omega⟩
  unfold f_X5_person at hf
  refine E_intro qm_55 qc_55 (Nat.le_of_ble_eq_true rfl) rfl rfl ?_
  show RR d cd_X5_person (0, 0) 0 [.ref 0, .int a1, .int a2, .int a3] [] h (some (.int v0)) h1
  refine R_ldI rfl rfl ?_
  obtain ⟨⟨x602, h601⟩, e603, hf⟩ := qbind_some hf
  dsimp only at hf
  refine R_callSi (as := [.int a1]) (rest := []) rfl rfl rfl rfl rfl rfl (t_X5_isPerson (by omega) a1 h e603) ?_
  rcases qite hf with ⟨c604, hf⟩ | ⟨c604, hf⟩
  · refine R_IfNe_f rfl c604 ?_
    refine R_I rfl ?_
    obtain ⟨rfl, rfl⟩ := qinj2 hf
    exact R_retI rfl
  · refine R_IfNe_t rfl c604 ?_
    refine R_ldI rfl rfl ?_
    rcases qite hf with ⟨c605, hf⟩ | ⟨c605, hf⟩
    · refine R_IfNe_f rfl c605 ?_
      refine R_ldI rfl rfl ?_
      refine R_I rfl ?_
      obtain ⟨⟨x607, h606⟩, e608, hf⟩ := qbind_some hf
      dsimp only at hf
      refine R_callSi (as := [.int a3, .int (999 : Int32)]) (rest := []) rfl rfl rfl rfl rfl rfl (t_X5_isWithin (by omega) a3 (999 : Int32) h601 e608) ?_
      rcases qite hf with ⟨c609, hf⟩ | ⟨c609, hf⟩
      · refine R_IfEq_t rfl c609 ?_
        refine R_ldI rfl rfl ?_
        refine R_I rfl ?_
        rcases qite hf with ⟨c610, hf⟩ | ⟨c610, hf⟩
        · refine R_CmNe_f rfl c610 ?_
          refine R_ldI rfl rfl ?_
          refine R_I rfl ?_
          obtain ⟨⟨x612, h611⟩, e613, hf⟩ := qbind_some hf
          dsimp only at hf
          refine R_callSi (as := [.int a3, .int (99 : Int32)]) (rest := []) rfl rfl rfl rfl rfl rfl (t_X5_isWithin (by omega) a3 (99 : Int32) h606 e613) ?_
          rcases qite hf with ⟨c614, hf⟩ | ⟨c614, hf⟩
          · refine R_IfEq_t rfl c614 ?_
            refine R_I rfl ?_
            obtain ⟨rfl, rfl⟩ := qinj2 hf
            exact R_retI rfl
          · refine R_IfEq_f rfl c614 ?_
            refine R_ldA rfl rfl ?_
            refine R_get rfl sh_0 rfl rfl ?_
            refine R_get rfl sh_1 rfl rfl ?_
            refine R_ldI rfl rfl ?_
            refine R_ldI rfl rfl ?_
            obtain ⟨⟨x616, h615⟩, e617, hf⟩ := qbind_some hf
            dsimp only at hf
            refine R_callSi (as := [.ref 8, .int a1, .int a3]) (rest := []) rfl rfl rfl rfl rfl rfl (t_X5_put (by omega) 8 6 a1 a3 sh_8 h611 e617) ?_
            obtain ⟨rfl, rfl⟩ := qinj2 hf
            exact R_retI rfl
        · refine R_CmNe_t rfl c610 ?_
          refine R_I rfl ?_
          obtain ⟨rfl, rfl⟩ := qinj2 hf
          exact R_retI rfl
      · refine R_IfEq_f rfl c609 ?_
        refine R_ldA rfl rfl ?_
        refine R_get rfl sh_0 rfl rfl ?_
        refine R_get rfl sh_1 rfl rfl ?_
        refine R_ldI rfl rfl ?_
        refine R_ldI rfl rfl ?_
        obtain ⟨⟨x619, h618⟩, e620, hf⟩ := qbind_some hf
        dsimp only at hf
        refine R_callSi (as := [.ref 7, .int a1, .int a3]) (rest := []) rfl rfl rfl rfl rfl rfl (t_X5_put (by omega) 7 6 a1 a3 sh_7 h606 e620) ?_
        obtain ⟨rfl, rfl⟩ := qinj2 hf
        exact R_retI rfl
    · refine R_IfNe_t rfl c605 ?_
      refine R_ldI rfl rfl ?_
      refine R_I rfl ?_
      rcases qite hf with ⟨c621, hf⟩ | ⟨c621, hf⟩
      · refine R_CmNe_f rfl c621 ?_
        refine R_ldI rfl rfl ?_
        refine R_I rfl ?_
        obtain ⟨⟨x623, h622⟩, e624, hf⟩ := qbind_some hf
        dsimp only at hf
        refine R_callSi (as := [.int a3, .int (99 : Int32)]) (rest := []) rfl rfl rfl rfl rfl rfl (t_X5_isWithin (by omega) a3 (99 : Int32) h601 e624) ?_
        rcases qite hf with ⟨c625, hf⟩ | ⟨c625, hf⟩
        · refine R_IfEq_t rfl c625 ?_
          refine R_I rfl ?_
          obtain ⟨rfl, rfl⟩ := qinj2 hf
          exact R_retI rfl
        · refine R_IfEq_f rfl c625 ?_
          refine R_ldA rfl rfl ?_
          refine R_get rfl sh_0 rfl rfl ?_
          refine R_get rfl sh_1 rfl rfl ?_
          refine R_ldI rfl rfl ?_
          refine R_ldI rfl rfl ?_
          obtain ⟨⟨x627, h626⟩, e628, hf⟩ := qbind_some hf
          dsimp only at hf
          refine R_callSi (as := [.ref 8, .int a1, .int a3]) (rest := []) rfl rfl rfl rfl rfl rfl (t_X5_put (by omega) 8 6 a1 a3 sh_8 h622 e628) ?_
          obtain ⟨rfl, rfl⟩ := qinj2 hf
          exact R_retI rfl
      · refine R_CmNe_t rfl c621 ?_
        refine R_I rfl ?_
        obtain ⟨rfl, rfl⟩ := qinj2 hf
        exact R_retI rfl
def f_X5_rule (N : Nat) (a1 : Int32) (a2 : Int32) (h : qN) : Option (Int32 × qN) :=
  qbind (f_X5_isWithin a1 (1 : Int32) h) fun (x630, h629) =>
  if x630 = 0 then
    some ((-1 : Int32), h629)
  else
    qbind (f_X5_isWithin a2 (1 : Int32) h629) fun (x634, h633) =>
    if x634 = 0 then
      some ((-1 : Int32), h633)
    else
      qbind (f_X5_put 3 2 a1 a2 h633) fun (x638, h637) =>
      qbind (f_X0_settle N 2 h637) fun (x641, h640) =>
      some (x638, h640)
set_option maxRecDepth 100000 in
theorem t_X5_rule {d N : Nat} (hd : 3 ≤ d) (a1 : Int32) (a2 : Int32)  (h : qN) {v0 : Int32} {h1 : qN} (hf : f_X5_rule N a1 a2 h = some (v0, h1)) : EE d 56 [.ref 0, .int a1, .int a2] h (some (.int v0)) h1 := by
  obtain ⟨d, rfl⟩ : ∃ d0, d = d0 + 1 := ⟨d - 1, by omega⟩
  unfold f_X5_rule at hf
  refine E_intro qm_56 qc_56 (Nat.le_of_ble_eq_true rfl) rfl rfl ?_
  show RR d cd_X5_rule (0, 0) 0 [.ref 0, .int a1, .int a2, qU] [] h (some (.int v0)) h1
  refine R_ldI rfl rfl ?_
  refine R_I rfl ?_
  obtain ⟨⟨x630, h629⟩, e631, hf⟩ := qbind_some hf
  dsimp only at hf
  refine R_callSi (as := [.int a1, .int (1 : Int32)]) (rest := []) rfl rfl rfl rfl rfl rfl (t_X5_isWithin (by omega) a1 (1 : Int32) h e631) ?_
  rcases qite hf with ⟨c632, hf⟩ | ⟨c632, hf⟩
  · refine R_IfEq_t rfl c632 ?_
    refine R_I rfl ?_
    obtain ⟨rfl, rfl⟩ := qinj2 hf
    exact R_retI rfl
  · refine R_IfEq_f rfl c632 ?_
    refine R_ldI rfl rfl ?_
    refine R_I rfl ?_
    obtain ⟨⟨x634, h633⟩, e635, hf⟩ := qbind_some hf
    dsimp only at hf
    refine R_callSi (as := [.int a2, .int (1 : Int32)]) (rest := []) rfl rfl rfl rfl rfl rfl (t_X5_isWithin (by omega) a2 (1 : Int32) h629 e635) ?_
    rcases qite hf with ⟨c636, hf⟩ | ⟨c636, hf⟩
    · refine R_IfNe_f rfl c636 ?_
      refine R_I rfl ?_
      obtain ⟨rfl, rfl⟩ := qinj2 hf
      exact R_retI rfl
    · refine R_IfNe_t rfl c636 ?_
      refine R_ldA rfl rfl ?_
      refine R_get rfl sh_0 rfl rfl ?_
      refine R_get rfl sh_1 rfl rfl ?_
      refine R_get rfl sh_2 rfl rfl ?_
      refine R_ldI rfl rfl ?_
      refine R_ldI rfl rfl ?_
      obtain ⟨⟨x638, h637⟩, e639, hf⟩ := qbind_some hf
      dsimp only at hf
      refine R_callSi (as := [.ref 3, .int a1, .int a2]) (rest := []) rfl rfl rfl rfl rfl rfl (t_X5_put (by omega) 3 2 a1 a2 sh_3 h633 e639) ?_
      refine R_stI (ls' := [.ref 0, .int a1, .int a2, .int x638]) rfl rfl rfl rfl ?_
      refine R_ldA rfl rfl ?_
      refine R_get rfl sh_0 rfl rfl ?_
      refine R_get rfl sh_1 rfl rfl ?_
      obtain ⟨⟨x641, h640⟩, e642, hf⟩ := qbind_some hf
      dsimp only at hf
      refine R_callVi (as := [.ref 2]) (rest := []) rfl rfl sh_2 rfl rfl rfl rfl (t_X0_settle (N := N) (by omega) 2 isC_2 h637 e642) ?_
      refine R_pop rfl rfl ?_
      refine R_ldI rfl rfl ?_
      obtain ⟨rfl, rfl⟩ := qinj2 hf
      exact R_retI rfl
def f_X5_thing (N : Nat) (a1 : Int32) (h : qN) : Option (Int32 × qN) :=
  qbind (f_X5_isWithin a1 (6 : Int32) h) fun (x644, h643) =>
  if x644 = 0 then
    some ((-1 : Int32), h643)
  else
    if (h643 2 4) < (8 : Int32) then
      qbind (f_X4_addThing N 1 a1 h643) fun (x649, h648) =>
      some (x649, h648)
    else
      some ((-3 : Int32), h643)
set_option maxRecDepth 100000 in
theorem t_X5_thing {d N : Nat} (hd : 3 ≤ d) (a1 : Int32)  (h : qN) {v0 : Int32} {h1 : qN} (hf : f_X5_thing N a1 h = some (v0, h1)) : EE d 57 [.ref 0, .int a1] h (some (.int v0)) h1 := by
  obtain ⟨d, rfl⟩ : ∃ d0, d = d0 + 1 := ⟨d - 1, by omega⟩
  unfold f_X5_thing at hf
  refine E_intro qm_57 qc_57 (Nat.le_of_ble_eq_true rfl) rfl rfl ?_
  show RR d cd_X5_thing (0, 0) 0 [.ref 0, .int a1] [] h (some (.int v0)) h1
  refine R_ldI rfl rfl ?_
  refine R_I rfl ?_
  obtain ⟨⟨x644, h643⟩, e645, hf⟩ := qbind_some hf
  dsimp only at hf
  refine R_callSi (as := [.int a1, .int (6 : Int32)]) (rest := []) rfl rfl rfl rfl rfl rfl (t_X5_isWithin (by omega) a1 (6 : Int32) h e645) ?_
  rcases qite hf with ⟨c646, hf⟩ | ⟨c646, hf⟩
  · refine R_IfNe_f rfl c646 ?_
    refine R_I rfl ?_
    obtain ⟨rfl, rfl⟩ := qinj2 hf
    exact R_retI rfl
  · refine R_IfNe_t rfl c646 ?_
    refine R_ldA rfl rfl ?_
    refine R_get rfl sh_0 rfl rfl ?_
    refine R_get rfl sh_1 rfl rfl ?_
    refine R_get rfl sh_2 rfl rfl ?_
    refine R_I rfl ?_
    rcases qite hf with ⟨c647, hf⟩ | ⟨c647, hf⟩
    · refine R_CmLt_t rfl c647 ?_
      refine R_ldA rfl rfl ?_
      refine R_get rfl sh_0 rfl rfl ?_
      refine R_ldI rfl rfl ?_
      obtain ⟨⟨x649, h648⟩, e650, hf⟩ := qbind_some hf
      dsimp only at hf
      refine R_callVi (as := [.ref 1, .int a1]) (rest := []) rfl rfl sh_1 rfl rfl rfl rfl (t_X4_addThing (N := N) (by omega) 1 a1 isV_1 h643 e650) ?_
      obtain ⟨rfl, rfl⟩ := qinj2 hf
      exact R_retI rfl
    · refine R_CmLt_f rfl c647 ?_
      refine R_I rfl ?_
      obtain ⟨rfl, rfl⟩ := qinj2 hf
      exact R_retI rfl
def f_X5_isThing (a1 : Int32) (h : qN) : Option (Int32 × qN) :=
  if a1 < 0 then
    some ((0 : Int32), h)
  else
    if (h 2 4) ≤ a1 then
      some ((0 : Int32), h)
    else
      some ((1 : Int32), h)
set_option maxRecDepth 100000 in
theorem t_X5_isThing {d : Nat} (hd : 1 ≤ d) (a1 : Int32)  (h : qN) {v0 : Int32} {h1 : qN} (hf : f_X5_isThing a1 h = some (v0, h1)) : EE d 95 [.ref 0, .int a1] h (some (.int v0)) h1 := by
  obtain ⟨d, rfl⟩ : ∃ d0, d = d0 + 1 := ⟨d - 1, by omega⟩
  unfold f_X5_isThing at hf
  refine E_intro qm_95 qc_95 (Nat.le_of_ble_eq_true rfl) rfl rfl ?_
  show RR d cd_X5_isThing (0, 0) 0 [.ref 0, .int a1] [] h (some (.int v0)) h1
  refine R_ldI rfl rfl ?_
  rcases qite hf with ⟨c651, hf⟩ | ⟨c651, hf⟩
  · refine R_IfLt_t rfl c651 ?_
    refine R_I rfl ?_
    obtain ⟨rfl, rfl⟩ := qinj2 hf
    exact R_retZ rfl (by decide)
  · refine R_IfLt_f rfl c651 ?_
    refine R_ldI rfl rfl ?_
    refine R_ldA rfl rfl ?_
    refine R_get rfl sh_0 rfl rfl ?_
    refine R_get rfl sh_1 rfl rfl ?_
    refine R_get rfl sh_2 rfl rfl ?_
    rcases qite hf with ⟨c652, hf⟩ | ⟨c652, hf⟩
    · refine R_CmGe_t rfl c652 ?_
      refine R_I rfl ?_
      obtain ⟨rfl, rfl⟩ := qinj2 hf
      exact R_retZ rfl (by decide)
    · refine R_CmGe_f rfl c652 ?_
      refine R_I rfl ?_
      refine R_goto rfl ?_
      obtain ⟨rfl, rfl⟩ := qinj2 hf
      exact R_retZ rfl (by decide)
def f_X5_worth (a1 : Int32) (a2 : Int32) (a3 : Int32) (h : qN) : Option (Int32 × qN) :=
  qbind (f_X5_isThing a1 h) fun (x654, h653) =>
  if x654 = 0 then
    some ((-1 : Int32), h653)
  else
    qbind (f_X5_isPerson a2 h653) fun (x658, h657) =>
    if x658 = 0 then
      some ((-1 : Int32), h657)
    else
      qbind (f_X5_isWithin a3 (99 : Int32) h657) fun (x662, h661) =>
      if x662 = 0 then
        some ((-1 : Int32), h661)
      else
        qbind (f_X5_put 9 48 ((a1 * (6 : Int32)) + a2) a3 h661) fun (x666, h665) =>
        some (x666, h665)
set_option maxRecDepth 100000 in
theorem t_X5_worth {d : Nat} (hd : 2 ≤ d) (a1 : Int32) (a2 : Int32) (a3 : Int32)  (h : qN) {v0 : Int32} {h1 : qN} (hf : f_X5_worth a1 a2 a3 h = some (v0, h1)) : EE d 58 [.ref 0, .int a1, .int a2, .int a3] h (some (.int v0)) h1 := by
  obtain ⟨d, rfl⟩ : ∃ d0, d = d0 + 1 := ⟨d - 1, by omega⟩
  unfold f_X5_worth at hf
  refine E_intro qm_58 qc_58 (Nat.le_of_ble_eq_true rfl) rfl rfl ?_
  show RR d cd_X5_worth (0, 0) 0 [.ref 0, .int a1, .int a2, .int a3] [] h (some (.int v0)) h1
  refine R_ldA rfl rfl ?_
  refine R_ldI rfl rfl ?_
  obtain ⟨⟨x654, h653⟩, e655, hf⟩ := qbind_some hf
  dsimp only at hf
  refine R_callVi (as := [.ref 0, .int a1]) (rest := []) rfl rfl sh_0 rfl rfl rfl rfl (t_X5_isThing (by omega) a1 h e655) ?_
  rcases qite hf with ⟨c656, hf⟩ | ⟨c656, hf⟩
  · refine R_IfEq_t rfl c656 ?_
    refine R_I rfl ?_
    obtain ⟨rfl, rfl⟩ := qinj2 hf
    exact R_retI rfl
  · refine R_IfEq_f rfl c656 ?_
    refine R_ldI rfl rfl ?_
    obtain ⟨⟨x658, h657⟩, e659, hf⟩ := qbind_some hf
    dsimp only at hf
    refine R_callSi (as := [.int a2]) (rest := []) rfl rfl rfl rfl rfl rfl (t_X5_isPerson (by omega) a2 h653 e659) ?_
    rcases qite hf with ⟨c660, hf⟩ | ⟨c660, hf⟩
    · refine R_IfEq_t rfl c660 ?_
      refine R_I rfl ?_
      obtain ⟨rfl, rfl⟩ := qinj2 hf
      exact R_retI rfl
    · refine R_IfEq_f rfl c660 ?_
      refine R_ldI rfl rfl ?_
      refine R_I rfl ?_
      obtain ⟨⟨x662, h661⟩, e663, hf⟩ := qbind_some hf
      dsimp only at hf
      refine R_callSi (as := [.int a3, .int (99 : Int32)]) (rest := []) rfl rfl rfl rfl rfl rfl (t_X5_isWithin (by omega) a3 (99 : Int32) h657 e663) ?_
      rcases qite hf with ⟨c664, hf⟩ | ⟨c664, hf⟩
      · refine R_IfNe_f rfl c664 ?_
        refine R_I rfl ?_
        obtain ⟨rfl, rfl⟩ := qinj2 hf
        exact R_retI rfl
      · refine R_IfNe_t rfl c664 ?_
        refine R_ldA rfl rfl ?_
        refine R_get rfl sh_0 rfl rfl ?_
        refine R_get rfl sh_1 rfl rfl ?_
        refine R_ldI rfl rfl ?_
        refine R_I rfl ?_
        refine R_bin rfl ?_
        refine R_ldI rfl rfl ?_
        refine R_bin rfl ?_
        refine R_ldI rfl rfl ?_
        obtain ⟨⟨x666, h665⟩, e667, hf⟩ := qbind_some hf
        dsimp only at hf
        refine R_callSi (as := [.ref 9, .int ((a1 * (6 : Int32)) + a2), .int a3]) (rest := []) rfl rfl rfl rfl rfl rfl (t_X5_put (by omega) 9 48 ((a1 * (6 : Int32)) + a2) a3 sh_9 h661 e667) ?_
        obtain ⟨rfl, rfl⟩ := qinj2 hf
        exact R_retI rfl
def f_X5_isSide (a1 : Int32) (h : qN) : Option (Int32 × qN) :=
  qbind (f_X5_isThing a1 h) fun (x669, h668) =>
  if x669 = 0 then
    qbind (f_X5_isPerson (a1 - (10 : Int32)) h668) fun (x673, h672) =>
    if x673 = 0 then
      some ((0 : Int32), h672)
    else
      some ((1 : Int32), h672)
  else
    some ((1 : Int32), h668)
set_option maxRecDepth 100000 in
theorem t_X5_isSide {d : Nat} (hd : 2 ≤ d) (a1 : Int32)  (h : qN) {v0 : Int32} {h1 : qN} (hf : f_X5_isSide a1 h = some (v0, h1)) : EE d 96 [.ref 0, .int a1] h (some (.int v0)) h1 := by
  obtain ⟨d, rfl⟩ : ∃ d0, d = d0 + 1 := ⟨d - 1, by omega⟩
  unfold f_X5_isSide at hf
  refine E_intro qm_96 qc_96 (Nat.le_of_ble_eq_true rfl) rfl rfl ?_
  show RR d cd_X5_isSide (0, 0) 0 [.ref 0, .int a1] [] h (some (.int v0)) h1
  refine R_ldA rfl rfl ?_
  refine R_ldI rfl rfl ?_
  obtain ⟨⟨x669, h668⟩, e670, hf⟩ := qbind_some hf
  dsimp only at hf
  refine R_callVi (as := [.ref 0, .int a1]) (rest := []) rfl rfl sh_0 rfl rfl rfl rfl (t_X5_isThing (by omega) a1 h e670) ?_
  rcases qite hf with ⟨c671, hf⟩ | ⟨c671, hf⟩
  · refine R_IfNe_f rfl c671 ?_
    refine R_ldI rfl rfl ?_
    refine R_I rfl ?_
    refine R_bin rfl ?_
    obtain ⟨⟨x673, h672⟩, e674, hf⟩ := qbind_some hf
    dsimp only at hf
    refine R_callSi (as := [.int (a1 - (10 : Int32))]) (rest := []) rfl rfl rfl rfl rfl rfl (t_X5_isPerson (by omega) (a1 - (10 : Int32)) h668 e674) ?_
    rcases qite hf with ⟨c675, hf⟩ | ⟨c675, hf⟩
    · refine R_IfEq_t rfl c675 ?_
      refine R_I rfl ?_
      obtain ⟨rfl, rfl⟩ := qinj2 hf
      exact R_retZ rfl (by decide)
    · refine R_IfEq_f rfl c675 ?_
      refine R_I rfl ?_
      refine R_goto rfl ?_
      obtain ⟨rfl, rfl⟩ := qinj2 hf
      exact R_retZ rfl (by decide)
  · refine R_IfNe_t rfl c671 ?_
    refine R_I rfl ?_
    refine R_goto rfl ?_
    obtain ⟨rfl, rfl⟩ := qinj2 hf
    exact R_retZ rfl (by decide)
def f_X5_suit (N : Nat) (a1 : Int32) (a2 : Int32) (h : qN) : Option (Int32 × qN) :=
  qbind (f_X5_isSide a1 h) fun (x677, h676) =>
  if x677 = 0 then
    some ((-1 : Int32), h676)
  else
    qbind (f_X5_isSide a2 h676) fun (x681, h680) =>
    if x681 = 0 then
      some ((-1 : Int32), h680)
    else
      if a1 = a2 then
        some ((-1 : Int32), h680)
      else
        if (h680 2 5) < (12 : Int32) then
          qbind (f_X0_addSuit N 2 a1 a2 h680) fun (x687, h686) =>
          some (x687, h686)
        else
          some ((-3 : Int32), h680)
set_option maxRecDepth 100000 in
theorem t_X5_suit {d N : Nat} (hd : 4 ≤ d) (a1 : Int32) (a2 : Int32)  (h : qN) {v0 : Int32} {h1 : qN} (hf : f_X5_suit N a1 a2 h = some (v0, h1)) : EE d 59 [.ref 0, .int a1, .int a2] h (some (.int v0)) h1 := by
  obtain ⟨d, rfl⟩ : ∃ d0, d = d0 + 1 := ⟨d - 1, by omega⟩
  unfold f_X5_suit at hf
  refine E_intro qm_59 qc_59 (Nat.le_of_ble_eq_true rfl) rfl rfl ?_
  show RR d cd_X5_suit (0, 0) 0 [.ref 0, .int a1, .int a2] [] h (some (.int v0)) h1
  refine R_ldA rfl rfl ?_
  refine R_ldI rfl rfl ?_
  obtain ⟨⟨x677, h676⟩, e678, hf⟩ := qbind_some hf
  dsimp only at hf
  refine R_callVi (as := [.ref 0, .int a1]) (rest := []) rfl rfl sh_0 rfl rfl rfl rfl (t_X5_isSide (by omega) a1 h e678) ?_
  rcases qite hf with ⟨c679, hf⟩ | ⟨c679, hf⟩
  · refine R_IfEq_t rfl c679 ?_
    refine R_I rfl ?_
    obtain ⟨rfl, rfl⟩ := qinj2 hf
    exact R_retI rfl
  · refine R_IfEq_f rfl c679 ?_
    refine R_ldA rfl rfl ?_
    refine R_ldI rfl rfl ?_
    obtain ⟨⟨x681, h680⟩, e682, hf⟩ := qbind_some hf
    dsimp only at hf
    refine R_callVi (as := [.ref 0, .int a2]) (rest := []) rfl rfl sh_0 rfl rfl rfl rfl (t_X5_isSide (by omega) a2 h676 e682) ?_
    rcases qite hf with ⟨c683, hf⟩ | ⟨c683, hf⟩
    · refine R_IfEq_t rfl c683 ?_
      refine R_I rfl ?_
      obtain ⟨rfl, rfl⟩ := qinj2 hf
      exact R_retI rfl
    · refine R_IfEq_f rfl c683 ?_
      refine R_ldI rfl rfl ?_
      refine R_ldI rfl rfl ?_
      rcases qite hf with ⟨c684, hf⟩ | ⟨c684, hf⟩
      · refine R_CmNe_f rfl c684 ?_
        refine R_I rfl ?_
        obtain ⟨rfl, rfl⟩ := qinj2 hf
        exact R_retI rfl
      · refine R_CmNe_t rfl c684 ?_
        refine R_ldA rfl rfl ?_
        refine R_get rfl sh_0 rfl rfl ?_
        refine R_get rfl sh_1 rfl rfl ?_
        refine R_get rfl sh_2 rfl rfl ?_
        refine R_I rfl ?_
        rcases qite hf with ⟨c685, hf⟩ | ⟨c685, hf⟩
        · refine R_CmLt_t rfl c685 ?_
          refine R_ldA rfl rfl ?_
          refine R_get rfl sh_0 rfl rfl ?_
          refine R_get rfl sh_1 rfl rfl ?_
          refine R_ldI rfl rfl ?_
          refine R_ldI rfl rfl ?_
          obtain ⟨⟨x687, h686⟩, e688, hf⟩ := qbind_some hf
          dsimp only at hf
          refine R_callVi (as := [.ref 2, .int a1, .int a2]) (rest := []) rfl rfl sh_2 rfl rfl rfl rfl (t_X0_addSuit (N := N) (by omega) 2 a1 a2 isC_2 h680 e688) ?_
          obtain ⟨rfl, rfl⟩ := qinj2 hf
          exact R_retI rfl
        · refine R_CmLt_f rfl c685 ?_
          refine R_I rfl ?_
          obtain ⟨rfl, rfl⟩ := qinj2 hf
          exact R_retI rfl
def f_X5_told (a1 : Int32) (a2 : Int32) (h : qN) : Option (Int32 × qN) :=
  if a1 < 0 then
    some ((-1 : Int32), h)
  else
    if a1 < (h 2 5) then
      if a2 = (0 : Int32) then
        if a1 < 0 ∨ 12 ≤ a1.toNatClampNeg then none else
        some ((h 5 a1.toNatClampNeg), h)
      else
      if a2 = (1 : Int32) then
        if a1 < 0 ∨ 12 ≤ a1.toNatClampNeg then none else
        some ((h 6 a1.toNatClampNeg), h)
      else
      if a2 = (2 : Int32) then
        if a1 < 0 ∨ 12 ≤ a1.toNatClampNeg then none else
        qbind (f_X0_standing 2 (h 5 a1.toNatClampNeg) h) fun (x698, h697) =>
        some (x698, h697)
      else
      if a2 = (3 : Int32) then
        if a1 < 0 ∨ 12 ≤ a1.toNatClampNeg then none else
        qbind (f_X0_standing 2 (h 6 a1.toNatClampNeg) h) fun (x703, h702) =>
        some (x703, h702)
      else
      if a2 = (4 : Int32) then
        qbind (f_X0_isOver 2 a1 h) fun (x707, h706) =>
        if x707 = 0 then
          some ((0 : Int32), h706)
        else
          some ((1 : Int32), h706)
      else
        some ((-1 : Int32), h)
    else
      some ((-1 : Int32), h)
set_option maxRecDepth 100000 in
theorem t_X5_told {d : Nat} (hd : 2 ≤ d) (a1 : Int32) (a2 : Int32)  (h : qN) {v0 : Int32} {h1 : qN} (hf : f_X5_told a1 a2 h = some (v0, h1)) : EE d 60 [.ref 0, .int a1, .int a2] h (some (.int v0)) h1 := by
  obtain ⟨d, rfl⟩ : ∃ d0, d = d0 + 1 := ⟨d - 1, by omega⟩
  unfold f_X5_told at hf
  refine E_intro qm_60 qc_60 (Nat.le_of_ble_eq_true rfl) rfl rfl ?_
  show RR d cd_X5_told (0, 0) 0 [.ref 0, .int a1, .int a2, qU] [] h (some (.int v0)) h1
  refine R_ldA rfl rfl ?_
  refine R_get rfl sh_0 rfl rfl ?_
  refine R_get rfl sh_1 rfl rfl ?_
  refine R_stA (ls' := [.ref 0, .int a1, .int a2, .ref 2]) rfl rfl rfl rfl ?_
  refine R_ldI rfl rfl ?_
  rcases qite hf with ⟨c689, hf⟩ | ⟨c689, hf⟩
  · refine R_IfLt_t rfl c689 ?_
    refine R_I rfl ?_
    obtain ⟨rfl, rfl⟩ := qinj2 hf
    exact R_retI rfl
  · refine R_IfLt_f rfl c689 ?_
    refine R_ldI rfl rfl ?_
    refine R_ldA rfl rfl ?_
    refine R_get rfl sh_2 rfl rfl ?_
    rcases qite hf with ⟨c690, hf⟩ | ⟨c690, hf⟩
    · refine R_CmLt_t rfl c690 ?_
      refine R_ldI rfl rfl ?_
      rcases qite hf with ⟨c691, hf⟩ | ⟨c691, hf⟩
      · refine R_sw rfl (by rw [c691]) ?_
        refine R_ldA rfl rfl ?_
        refine R_get rfl sh_2 rfl rfl ?_
        refine R_ldI rfl rfl ?_
        obtain ⟨c692, hf⟩ := qchk hf
        refine R_ald rfl sh_5 c692 ?_
        obtain ⟨rfl, rfl⟩ := qinj2 hf
        exact R_retI rfl
      · skip
        rcases qite hf with ⟨c693, hf⟩ | ⟨c693, hf⟩
        · refine R_sw rfl (by rw [c693]) ?_
          refine R_ldA rfl rfl ?_
          refine R_get rfl sh_2 rfl rfl ?_
          refine R_ldI rfl rfl ?_
          obtain ⟨c694, hf⟩ := qchk hf
          refine R_ald rfl sh_6 c694 ?_
          obtain ⟨rfl, rfl⟩ := qinj2 hf
          exact R_retI rfl
        · skip
          rcases qite hf with ⟨c695, hf⟩ | ⟨c695, hf⟩
          · refine R_sw rfl (by rw [c695]) ?_
            refine R_ldA rfl rfl ?_
            refine R_ldA rfl rfl ?_
            refine R_get rfl sh_2 rfl rfl ?_
            refine R_ldI rfl rfl ?_
            obtain ⟨c696, hf⟩ := qchk hf
            refine R_ald rfl sh_5 c696 ?_
            obtain ⟨⟨x698, h697⟩, e699, hf⟩ := qbind_some hf
            dsimp only at hf
            refine R_callVi (as := [.ref 2, .int (h 5 a1.toNatClampNeg)]) (rest := []) rfl rfl sh_2 rfl rfl rfl rfl (t_X0_standing (by omega) 2 (h 5 a1.toNatClampNeg) isC_2 h e699) ?_
            obtain ⟨rfl, rfl⟩ := qinj2 hf
            exact R_retI rfl
          · skip
            rcases qite hf with ⟨c700, hf⟩ | ⟨c700, hf⟩
            · refine R_sw rfl (by rw [c700]) ?_
              refine R_ldA rfl rfl ?_
              refine R_ldA rfl rfl ?_
              refine R_get rfl sh_2 rfl rfl ?_
              refine R_ldI rfl rfl ?_
              obtain ⟨c701, hf⟩ := qchk hf
              refine R_ald rfl sh_6 c701 ?_
              obtain ⟨⟨x703, h702⟩, e704, hf⟩ := qbind_some hf
              dsimp only at hf
              refine R_callVi (as := [.ref 2, .int (h 6 a1.toNatClampNeg)]) (rest := []) rfl rfl sh_2 rfl rfl rfl rfl (t_X0_standing (by omega) 2 (h 6 a1.toNatClampNeg) isC_2 h e704) ?_
              obtain ⟨rfl, rfl⟩ := qinj2 hf
              exact R_retI rfl
            · skip
              rcases qite hf with ⟨c705, hf⟩ | ⟨c705, hf⟩
              · refine R_sw rfl (by rw [c705]) ?_
                refine R_ldA rfl rfl ?_
                refine R_ldI rfl rfl ?_
                obtain ⟨⟨x707, h706⟩, e708, hf⟩ := qbind_some hf
                dsimp only at hf
                refine R_callVi (as := [.ref 2, .int a1]) (rest := []) rfl rfl sh_2 rfl rfl rfl rfl (t_X0_isOver (by omega) 2 a1 isC_2 h e708) ?_
                rcases qite hf with ⟨c709, hf⟩ | ⟨c709, hf⟩
                · refine R_IfEq_t rfl c709 ?_
                  refine R_I rfl ?_
                  obtain ⟨rfl, rfl⟩ := qinj2 hf
                  exact R_retI rfl
                · refine R_IfEq_f rfl c709 ?_
                  refine R_I rfl ?_
                  refine R_goto rfl ?_
                  obtain ⟨rfl, rfl⟩ := qinj2 hf
                  exact R_retI rfl
              · skip
                refine R_sw rfl (sw_def (fun j hj => by (have hj2 : j = 0 ∨ j = 1 ∨ j = 2 ∨ j = 3 ∨ j = 4 := by simpa using (show j < 5 from hj) |> fun z => by omega); rcases hj2 with rfl | rfl | rfl | rfl | rfl <;> assumption)) ?_
                refine R_I rfl ?_
                obtain ⟨rfl, rfl⟩ := qinj2 hf
                exact R_retI rfl
    · refine R_CmLt_f rfl c690 ?_
      refine R_I rfl ?_
      obtain ⟨rfl, rfl⟩ := qinj2 hf
      exact R_retI rfl
def f_X5_hand (a1 : Int32) (h : qN) : Option (Int32 × qN) :=
  qbind (f_X5_isThing a1 h) fun (x711, h710) =>
  if x711 = 0 then
    some ((-1 : Int32), h710)
  else
    if a1 < 0 ∨ 8 ≤ a1.toNatClampNeg then none else
    some ((h710 4 a1.toNatClampNeg), h710)
set_option maxRecDepth 100000 in
theorem t_X5_hand {d : Nat} (hd : 2 ≤ d) (a1 : Int32)  (h : qN) {v0 : Int32} {h1 : qN} (hf : f_X5_hand a1 h = some (v0, h1)) : EE d 61 [.ref 0, .int a1] h (some (.int v0)) h1 := by
  obtain ⟨d, rfl⟩ : ∃ d0, d = d0 + 1 := ⟨d - 1, by omega⟩
  unfold f_X5_hand at hf
  refine E_intro qm_61 qc_61 (Nat.le_of_ble_eq_true rfl) rfl rfl ?_
  show RR d cd_X5_hand (0, 0) 0 [.ref 0, .int a1] [] h (some (.int v0)) h1
  refine R_ldA rfl rfl ?_
  refine R_ldI rfl rfl ?_
  obtain ⟨⟨x711, h710⟩, e712, hf⟩ := qbind_some hf
  dsimp only at hf
  refine R_callVi (as := [.ref 0, .int a1]) (rest := []) rfl rfl sh_0 rfl rfl rfl rfl (t_X5_isThing (by omega) a1 h e712) ?_
  rcases qite hf with ⟨c713, hf⟩ | ⟨c713, hf⟩
  · refine R_IfEq_t rfl c713 ?_
    refine R_I rfl ?_
    obtain ⟨rfl, rfl⟩ := qinj2 hf
    exact R_retI rfl
  · refine R_IfEq_f rfl c713 ?_
    refine R_ldA rfl rfl ?_
    refine R_get rfl sh_0 rfl rfl ?_
    refine R_get rfl sh_1 rfl rfl ?_
    refine R_get rfl sh_2 rfl rfl ?_
    refine R_ldI rfl rfl ?_
    obtain ⟨c714, hf⟩ := qchk hf
    refine R_ald rfl sh_4 c714 ?_
    refine R_goto rfl ?_
    obtain ⟨rfl, rfl⟩ := qinj2 hf
    exact R_retI rfl
def f_X5_purse (a1 : Int32) (h : qN) : Option (Int32 × qN) :=
  qbind (f_X5_isPerson a1 h) fun (x716, h715) =>
  if x716 = 0 then
    some ((-1 : Int32), h715)
  else
    if a1 < 0 ∨ 6 ≤ a1.toNatClampNeg then none else
    some ((h715 7 a1.toNatClampNeg), h715)
set_option maxRecDepth 100000 in
theorem t_X5_purse {d : Nat} (hd : 2 ≤ d) (a1 : Int32)  (h : qN) {v0 : Int32} {h1 : qN} (hf : f_X5_purse a1 h = some (v0, h1)) : EE d 62 [.ref 0, .int a1] h (some (.int v0)) h1 := by
  obtain ⟨d, rfl⟩ : ∃ d0, d = d0 + 1 := ⟨d - 1, by omega⟩
  unfold f_X5_purse at hf
  refine E_intro qm_62 qc_62 (Nat.le_of_ble_eq_true rfl) rfl rfl ?_
  show RR d cd_X5_purse (0, 0) 0 [.ref 0, .int a1] [] h (some (.int v0)) h1
  refine R_ldI rfl rfl ?_
  obtain ⟨⟨x716, h715⟩, e717, hf⟩ := qbind_some hf
  dsimp only at hf
  refine R_callSi (as := [.int a1]) (rest := []) rfl rfl rfl rfl rfl rfl (t_X5_isPerson (by omega) a1 h e717) ?_
  rcases qite hf with ⟨c718, hf⟩ | ⟨c718, hf⟩
  · refine R_IfEq_t rfl c718 ?_
    refine R_I rfl ?_
    obtain ⟨rfl, rfl⟩ := qinj2 hf
    exact R_retI rfl
  · refine R_IfEq_f rfl c718 ?_
    refine R_ldA rfl rfl ?_
    refine R_get rfl sh_0 rfl rfl ?_
    refine R_get rfl sh_1 rfl rfl ?_
    refine R_ldI rfl rfl ?_
    obtain ⟨c719, hf⟩ := qchk hf
    refine R_ald rfl sh_7 c719 ?_
    refine R_goto rfl ?_
    obtain ⟨rfl, rfl⟩ := qinj2 hf
    exact R_retI rfl
def f_X5_value (N : Nat) (a1 : Int32) (h : qN) : Option (Int32 × qN) :=
  qbind (f_X5_isPerson a1 h) fun (x721, h720) =>
  if x721 = 0 then
    some ((-100001 : Int32), h720)
  else
    qbind (f_X4_valueTo N 1 a1 2 h720) fun (x725, h724) =>
    some (x725, h724)
set_option maxRecDepth 100000 in
theorem t_X5_value {d N : Nat} (hd : 4 ≤ d) (a1 : Int32)  (h : qN) {v0 : Int32} {h1 : qN} (hf : f_X5_value N a1 h = some (v0, h1)) : EE d 63 [.ref 0, .int a1] h (some (.int v0)) h1 := by
  obtain ⟨d, rfl⟩ : ∃ d0, d = d0 + 1 := ⟨d - 1, by omega⟩
  unfold f_X5_value at hf
  refine E_intro qm_63 qc_63 (Nat.le_of_ble_eq_true rfl) rfl rfl ?_
  show RR d cd_X5_value (0, 0) 0 [.ref 0, .int a1] [] h (some (.int v0)) h1
  refine R_ldI rfl rfl ?_
  obtain ⟨⟨x721, h720⟩, e722, hf⟩ := qbind_some hf
  dsimp only at hf
  refine R_callSi (as := [.int a1]) (rest := []) rfl rfl rfl rfl rfl rfl (t_X5_isPerson (by omega) a1 h e722) ?_
  rcases qite hf with ⟨c723, hf⟩ | ⟨c723, hf⟩
  · refine R_IfEq_t rfl c723 ?_
    refine R_I rfl ?_
    obtain ⟨rfl, rfl⟩ := qinj2 hf
    exact R_retI rfl
  · refine R_IfEq_f rfl c723 ?_
    refine R_ldA rfl rfl ?_
    refine R_get rfl sh_0 rfl rfl ?_
    refine R_ldI rfl rfl ?_
    refine R_ldA rfl rfl ?_
    refine R_get rfl sh_0 rfl rfl ?_
    refine R_get rfl sh_1 rfl rfl ?_
    obtain ⟨⟨x725, h724⟩, e726, hf⟩ := qbind_some hf
    dsimp only at hf
    refine R_callVi (as := [.ref 1, .int a1, .ref 2]) (rest := []) rfl rfl sh_1 rfl rfl rfl rfl (t_X4_valueTo (N := N) (by omega) 1 a1 2 isV_1 isC_2 h720 e726) ?_
    refine R_goto rfl ?_
    obtain ⟨rfl, rfl⟩ := qinj2 hf
    exact R_retI rfl
def f_X5_type (N : Nat) (a1 : Int64) (a3 : Int32) (h : qN) : Option (Int32 × qN) :=
  if a3 < (1 : Int32) then
    some ((-1 : Int32), h)
  else
    if (8 : Int32) < a3 then
      some ((-1 : Int32), h)
    else
      qbind (f_X3_isPlain N a1 a3 h) fun (x730, h729) =>
      if x730 = 0 then
        some ((-1 : Int32), h729)
      else
        if ((h729 48 2) + a3) ≤ (80 : Int32) then
          qbind (f_X3_add N a1 a3 h729) fun h734 =>
          some ((h734 48 2), h734)
        else
          some ((-3 : Int32), h729)
set_option maxRecDepth 100000 in
theorem t_X5_type {d N : Nat} (hd : 3 ≤ d) (a1 : Int64) (a3 : Int32)  (h : qN) {v0 : Int32} {h1 : qN} (hf : f_X5_type N a1 a3 h = some (v0, h1)) : EE d 64 [.ref 0, .long a1, .int a3] h (some (.int v0)) h1 := by
  obtain ⟨d, rfl⟩ : ∃ d0, d = d0 + 1 := ⟨d - 1, by omega⟩
  unfold f_X5_type at hf
  refine E_intro qm_64 qc_64 (Nat.le_of_ble_eq_true rfl) rfl rfl ?_
  show RR d cd_X5_type (0, 0) 0 [.ref 0, .long a1, qU, .int a3] [] h (some (.int v0)) h1
  refine R_ldI rfl rfl ?_
  refine R_I rfl ?_
  rcases qite hf with ⟨c727, hf⟩ | ⟨c727, hf⟩
  · refine R_CmLt_t rfl c727 ?_
    refine R_I rfl ?_
    obtain ⟨rfl, rfl⟩ := qinj2 hf
    exact R_retI rfl
  · refine R_CmLt_f rfl c727 ?_
    refine R_ldI rfl rfl ?_
    refine R_I rfl ?_
    rcases qite hf with ⟨c728, hf⟩ | ⟨c728, hf⟩
    · refine R_CmGt_t rfl c728 ?_
      refine R_I rfl ?_
      obtain ⟨rfl, rfl⟩ := qinj2 hf
      exact R_retI rfl
    · refine R_CmGt_f rfl c728 ?_
      refine R_ldL rfl rfl ?_
      refine R_ldI rfl rfl ?_
      obtain ⟨⟨x730, h729⟩, e731, hf⟩ := qbind_some hf
      dsimp only at hf
      refine R_callSi (as := [.long a1, .int a3]) (rest := []) rfl rfl rfl rfl rfl rfl (t_X3_isPlain (N := N) (by omega) a1 a3 h e731) ?_
      rcases qite hf with ⟨c732, hf⟩ | ⟨c732, hf⟩
      · refine R_IfNe_f rfl c732 ?_
        refine R_I rfl ?_
        obtain ⟨rfl, rfl⟩ := qinj2 hf
        exact R_retI rfl
      · refine R_IfNe_t rfl c732 ?_
        refine R_ldA rfl rfl ?_
        refine R_get rfl sh_0 rfl rfl ?_
        refine R_get rfl sh_48 rfl rfl ?_
        refine R_ldI rfl rfl ?_
        refine R_bin rfl ?_
        refine R_I rfl ?_
        rcases qite hf with ⟨c733, hf⟩ | ⟨c733, hf⟩
        · refine R_CmLe_t rfl c733 ?_
          refine R_ldA rfl rfl ?_
          refine R_get rfl sh_0 rfl rfl ?_
          refine R_ldL rfl rfl ?_
          refine R_ldI rfl rfl ?_
          obtain ⟨h734, e735, hf⟩ := qbind_some hf
          refine R_callVv (as := [.ref 48, .long a1, .int a3]) (rest := []) rfl rfl sh_48 rfl rfl rfl rfl (t_X3_add (N := N) (by omega) a1 a3 h729 e735) ?_
          refine R_ldA rfl rfl ?_
          refine R_get rfl sh_0 rfl rfl ?_
          refine R_get rfl sh_48 rfl rfl ?_
          obtain ⟨rfl, rfl⟩ := qinj2 hf
          exact R_retI rfl
        · refine R_CmLe_f rfl c733 ?_
          refine R_I rfl ?_
          obtain ⟨rfl, rfl⟩ := qinj2 hf
          exact R_retI rfl
def f_X5_village (N : Nat) (h : qN) : Option (Int32 × qN) :=
  qbind (f_X3_readThings N  h) fun (x737, h736) =>
  if x737 ≤ 0 then
    some (x737, (qup h736 48 2 (0 : Int32)))
  else
    qbind (f_X4_takeThings N 1 50 56 x737 (qup h736 48 2 (0 : Int32))) fun h740 =>
    some (x737, h740)
set_option maxRecDepth 100000 in
theorem t_X5_village {d N : Nat} (hd : 4 ≤ d)   (h : qN) {v0 : Int32} {h1 : qN} (hf : f_X5_village N  h = some (v0, h1)) : EE d 65 [.ref 0] h (some (.int v0)) h1 := by
  obtain ⟨d, rfl⟩ : ∃ d0, d = d0 + 1 := ⟨d - 1, by omega⟩
  unfold f_X5_village at hf
  refine E_intro qm_65 qc_65 (Nat.le_of_ble_eq_true rfl) rfl rfl ?_
  show RR d cd_X5_village (0, 0) 0 [.ref 0, qU] [] h (some (.int v0)) h1
  refine R_ldA rfl rfl ?_
  refine R_get rfl sh_0 rfl rfl ?_
  obtain ⟨⟨x737, h736⟩, e738, hf⟩ := qbind_some hf
  dsimp only at hf
  refine R_callVi (as := [.ref 48]) (rest := []) rfl rfl sh_48 rfl rfl rfl rfl (t_X3_readThings (N := N) (by omega)  h e738) ?_
  refine R_stI (ls' := [.ref 0, .int x737]) rfl rfl rfl rfl ?_
  refine R_ldA rfl rfl ?_
  refine R_get rfl sh_0 rfl rfl ?_
  refine R_I rfl ?_
  refine R_putI rfl sh_48 rfl ?_
  refine R_ldI rfl rfl ?_
  rcases qite hf with ⟨c739, hf⟩ | ⟨c739, hf⟩
  · refine R_IfLe_t rfl c739 ?_
    refine R_ldI rfl rfl ?_
    obtain ⟨rfl, rfl⟩ := qinj2 hf
    exact R_retI rfl
  · refine R_IfLe_f rfl c739 ?_
    refine R_ldA rfl rfl ?_
    refine R_get rfl sh_0 rfl rfl ?_
    refine R_ldA rfl rfl ?_
    refine R_get rfl sh_0 rfl rfl ?_
    refine R_get rfl sh_48 rfl rfl ?_
    refine R_ldI rfl rfl ?_
    obtain ⟨h740, e741, hf⟩ := qbind_some hf
    refine R_callVv (as := [.ref 1, .ref 50, .int x737]) (rest := []) rfl rfl sh_1 rfl rfl rfl rfl (t_X4_takeThings (N := N) (by omega) 1 50 56 x737 isV_1 sh_50 (qup h736 48 2 (0 : Int32)) e741) ?_
    refine R_ldI rfl rfl ?_
    obtain ⟨rfl, rfl⟩ := qinj2 hf
    exact R_retI rfl
def f_X5_suits_L48 (N : Nat) (l1 : Int32) : Nat → Int32 → qN → Option (qN)
  | 0, _, _ => none
  | n + 1, l2, h =>
    if l1 ≤ l2 then
      some h
    else
      if ((2 : Int32) * l2) < 0 ∨ 56 ≤ ((2 : Int32) * l2).toNatClampNeg then none else
      if (((2 : Int32) * l2) + (1 : Int32)) < 0 ∨ 56 ≤ (((2 : Int32) * l2) + (1 : Int32)).toNatClampNeg then none else
      qbind (f_X0_addSuit N 2 (h 50 ((2 : Int32) * l2).toNatClampNeg) (h 50 (((2 : Int32) * l2) + (1 : Int32)).toNatClampNeg) h) fun (x750, h749) =>
      f_X5_suits_L48 N l1 n (l2 + (1 : Int32)) h749
set_option maxRecDepth 100000 in
theorem t_X5_suits_L48 {d N : Nat} (hd : 3 ≤ d) : ∀ (n : Nat) (l1 : Int32) (l2 : Int32) (h : qN) (h2 : qN), f_X5_suits_L48 N l1 n l2 h = some h2 → ∀ (v : Option Value) (h1 : qN), RR d cd_X5_suits (0, 0) 94 [qU, .int l1, qU] [] h2 v h1 → RR d cd_X5_suits (0, 0) 48 [.ref 0, .int l1, .int l2] [] h v h1 := by
  intro n
  induction n with
  | zero =>
    intro l1 l2 h h2 hf v h1 hE
    exact absurd hf (by simp [f_X5_suits_L48])
  | succ n ih =>
    intro l1 l2 h h2 hf v h1 hE
    unfold f_X5_suits_L48 at hf
    refine R_ldI rfl rfl ?_
    refine R_ldI rfl rfl ?_
    rcases qite hf with ⟨c746, hf⟩ | ⟨c746, hf⟩
    · refine R_CmGe_t rfl c746 ?_
      refine R_drop [false, true, false] (ls' := [qU, .int l1, qU]) rfl ?_
      obtain rfl := Option.some.inj hf
      exact hE
    · refine R_CmGe_f rfl c746 ?_
      refine R_ldA rfl rfl ?_
      refine R_get rfl sh_0 rfl rfl ?_
      refine R_get rfl sh_1 rfl rfl ?_
      refine R_ldA rfl rfl ?_
      refine R_get rfl sh_0 rfl rfl ?_
      refine R_get rfl sh_48 rfl rfl ?_
      refine R_I rfl ?_
      refine R_ldI rfl rfl ?_
      refine R_bin rfl ?_
      obtain ⟨c747, hf⟩ := qchk hf
      refine R_ald rfl sh_50 c747 ?_
      refine R_ldA rfl rfl ?_
      refine R_get rfl sh_0 rfl rfl ?_
      refine R_get rfl sh_48 rfl rfl ?_
      refine R_I rfl ?_
      refine R_ldI rfl rfl ?_
      refine R_bin rfl ?_
      refine R_I rfl ?_
      refine R_bin rfl ?_
      obtain ⟨c748, hf⟩ := qchk hf
      refine R_ald rfl sh_50 c748 ?_
      obtain ⟨⟨x750, h749⟩, e751, hf⟩ := qbind_some hf
      dsimp only at hf
      refine R_callVi (as := [.ref 2, .int (h 50 ((2 : Int32) * l2).toNatClampNeg), .int (h 50 (((2 : Int32) * l2) + (1 : Int32)).toNatClampNeg)]) (rest := []) rfl rfl sh_2 rfl rfl rfl rfl (t_X0_addSuit (N := N) (by omega) 2 (h 50 ((2 : Int32) * l2).toNatClampNeg) (h 50 (((2 : Int32) * l2) + (1 : Int32)).toNatClampNeg) isC_2 h e751) ?_
      refine R_pop rfl rfl ?_
      refine R_inc (ls' := [.ref 0, .int l1, .int (l2 + (1 : Int32))]) rfl rfl rfl rfl ?_
      refine R_goto rfl ?_
      exact ih l1 (l2 + (1 : Int32)) h749 _ hf _ _ hE
def f_X5_suits (N : Nat) (h : qN) : Option (Int32 × qN) :=
  qbind (f_X3_readSuits N (h 2 4) h) fun (x743, h742) =>
  if x743 ≤ ((12 : Int32) - ((qup h742 48 2 (0 : Int32)) 2 5)) then
    qbind (f_X5_suits_L48 N x743 N (0 : Int32) (qup h742 48 2 (0 : Int32))) fun h753 =>
    some (x743, h753)
  else
    some ((-3 : Int32), (qup h742 48 2 (0 : Int32)))
set_option maxRecDepth 100000 in
theorem t_X5_suits {d N : Nat} (hd : 4 ≤ d)   (h : qN) {v0 : Int32} {h1 : qN} (hf : f_X5_suits N  h = some (v0, h1)) : EE d 66 [.ref 0] h (some (.int v0)) h1 := by
  obtain ⟨d, rfl⟩ : ∃ d0, d = d0 + 1 := ⟨d - 1, by omega⟩
  unfold f_X5_suits at hf
  refine E_intro qm_66 qc_66 (Nat.le_of_ble_eq_true rfl) rfl rfl ?_
  show RR d cd_X5_suits (0, 0) 0 [.ref 0, qU, qU] [] h (some (.int v0)) h1
  refine R_ldA rfl rfl ?_
  refine R_get rfl sh_0 rfl rfl ?_
  refine R_ldA rfl rfl ?_
  refine R_get rfl sh_0 rfl rfl ?_
  refine R_get rfl sh_1 rfl rfl ?_
  refine R_get rfl sh_2 rfl rfl ?_
  obtain ⟨⟨x743, h742⟩, e744, hf⟩ := qbind_some hf
  dsimp only at hf
  refine R_callVi (as := [.ref 48, .int (h 2 4)]) (rest := []) rfl rfl sh_48 rfl rfl rfl rfl (t_X3_readSuits (N := N) (by omega) (h 2 4) h e744) ?_
  refine R_stI (ls' := [.ref 0, .int x743, qU]) rfl rfl rfl rfl ?_
  refine R_ldA rfl rfl ?_
  refine R_get rfl sh_0 rfl rfl ?_
  refine R_I rfl ?_
  refine R_putI rfl sh_48 rfl ?_
  refine R_ldI rfl rfl ?_
  refine R_I rfl ?_
  refine R_ldA rfl rfl ?_
  refine R_get rfl sh_0 rfl rfl ?_
  refine R_get rfl sh_1 rfl rfl ?_
  refine R_get rfl sh_2 rfl rfl ?_
  refine R_bin rfl ?_
  rcases qite hf with ⟨c745, hf⟩ | ⟨c745, hf⟩
  · refine R_CmLe_t rfl c745 ?_
    refine R_I rfl ?_
    refine R_stI (ls' := [.ref 0, .int x743, .int (0 : Int32)]) rfl rfl rfl rfl ?_
    obtain ⟨h753, e754, hf⟩ := qbind_some hf
    refine t_X5_suits_L48 (N := N) (by omega) _ x743 (0 : Int32) (qup h742 48 2 (0 : Int32)) h753 e754 _ _ ?_
    refine R_ldI rfl rfl ?_
    obtain ⟨rfl, rfl⟩ := qinj2 hf
    exact R_retI rfl
  · refine R_CmLe_f rfl c745 ?_
    refine R_I rfl ?_
    obtain ⟨rfl, rfl⟩ := qinj2 hf
    exact R_retI rfl
def f_J6_bitCount_0f7a4 (a0 : Int32) (h : qN) : Option (Int32 × qN) :=
  some (((((((((a0 - ((a0.toUInt32 >>> ((1 : Int32).toUInt32 &&& Int32.toUInt32 31)).toInt32 &&& (1431655765 : Int32))) &&& (858993459 : Int32)) + (((a0 - ((a0.toUInt32 >>> ((1 : Int32).toUInt32 &&& Int32.toUInt32 31)).toInt32 &&& (1431655765 : Int32))).toUInt32 >>> ((2 : Int32).toUInt32 &&& Int32.toUInt32 31)).toInt32 &&& (858993459 : Int32))) + ((((a0 - ((a0.toUInt32 >>> ((1 : Int32).toUInt32 &&& Int32.toUInt32 31)).toInt32 &&& (1431655765 : Int32))) &&& (858993459 : Int32)) + (((a0 - ((a0.toUInt32 >>> ((1 : Int32).toUInt32 &&& Int32.toUInt32 31)).toInt32 &&& (1431655765 : Int32))).toUInt32 >>> ((2 : Int32).toUInt32 &&& Int32.toUInt32 31)).toInt32 &&& (858993459 : Int32))).toUInt32 >>> ((4 : Int32).toUInt32 &&& Int32.toUInt32 31)).toInt32) &&& (252645135 : Int32)) + ((((((a0 - ((a0.toUInt32 >>> ((1 : Int32).toUInt32 &&& Int32.toUInt32 31)).toInt32 &&& (1431655765 : Int32))) &&& (858993459 : Int32)) + (((a0 - ((a0.toUInt32 >>> ((1 : Int32).toUInt32 &&& Int32.toUInt32 31)).toInt32 &&& (1431655765 : Int32))).toUInt32 >>> ((2 : Int32).toUInt32 &&& Int32.toUInt32 31)).toInt32 &&& (858993459 : Int32))) + ((((a0 - ((a0.toUInt32 >>> ((1 : Int32).toUInt32 &&& Int32.toUInt32 31)).toInt32 &&& (1431655765 : Int32))) &&& (858993459 : Int32)) + (((a0 - ((a0.toUInt32 >>> ((1 : Int32).toUInt32 &&& Int32.toUInt32 31)).toInt32 &&& (1431655765 : Int32))).toUInt32 >>> ((2 : Int32).toUInt32 &&& Int32.toUInt32 31)).toInt32 &&& (858993459 : Int32))).toUInt32 >>> ((4 : Int32).toUInt32 &&& Int32.toUInt32 31)).toInt32) &&& (252645135 : Int32)).toUInt32 >>> ((8 : Int32).toUInt32 &&& Int32.toUInt32 31)).toInt32) + (((((((a0 - ((a0.toUInt32 >>> ((1 : Int32).toUInt32 &&& Int32.toUInt32 31)).toInt32 &&& (1431655765 : Int32))) &&& (858993459 : Int32)) + (((a0 - ((a0.toUInt32 >>> ((1 : Int32).toUInt32 &&& Int32.toUInt32 31)).toInt32 &&& (1431655765 : Int32))).toUInt32 >>> ((2 : Int32).toUInt32 &&& Int32.toUInt32 31)).toInt32 &&& (858993459 : Int32))) + ((((a0 - ((a0.toUInt32 >>> ((1 : Int32).toUInt32 &&& Int32.toUInt32 31)).toInt32 &&& (1431655765 : Int32))) &&& (858993459 : Int32)) + (((a0 - ((a0.toUInt32 >>> ((1 : Int32).toUInt32 &&& Int32.toUInt32 31)).toInt32 &&& (1431655765 : Int32))).toUInt32 >>> ((2 : Int32).toUInt32 &&& Int32.toUInt32 31)).toInt32 &&& (858993459 : Int32))).toUInt32 >>> ((4 : Int32).toUInt32 &&& Int32.toUInt32 31)).toInt32) &&& (252645135 : Int32)) + ((((((a0 - ((a0.toUInt32 >>> ((1 : Int32).toUInt32 &&& Int32.toUInt32 31)).toInt32 &&& (1431655765 : Int32))) &&& (858993459 : Int32)) + (((a0 - ((a0.toUInt32 >>> ((1 : Int32).toUInt32 &&& Int32.toUInt32 31)).toInt32 &&& (1431655765 : Int32))).toUInt32 >>> ((2 : Int32).toUInt32 &&& Int32.toUInt32 31)).toInt32 &&& (858993459 : Int32))) + ((((a0 - ((a0.toUInt32 >>> ((1 : Int32).toUInt32 &&& Int32.toUInt32 31)).toInt32 &&& (1431655765 : Int32))) &&& (858993459 : Int32)) + (((a0 - ((a0.toUInt32 >>> ((1 : Int32).toUInt32 &&& Int32.toUInt32 31)).toInt32 &&& (1431655765 : Int32))).toUInt32 >>> ((2 : Int32).toUInt32 &&& Int32.toUInt32 31)).toInt32 &&& (858993459 : Int32))).toUInt32 >>> ((4 : Int32).toUInt32 &&& Int32.toUInt32 31)).toInt32) &&& (252645135 : Int32)).toUInt32 >>> ((8 : Int32).toUInt32 &&& Int32.toUInt32 31)).toInt32).toUInt32 >>> ((16 : Int32).toUInt32 &&& Int32.toUInt32 31)).toInt32) &&& (63 : Int32)), h)
set_option maxRecDepth 100000 in
theorem t_J6_bitCount_0f7a4 {d : Nat} (hd : 1 ≤ d) (a0 : Int32)  (h : qN) {v0 : Int32} {h1 : qN} (hf : f_J6_bitCount_0f7a4 a0 h = some (v0, h1)) : EE d 178 [.int a0] h (some (.int v0)) h1 := by
  obtain ⟨d, rfl⟩ : ∃ d0, d = d0 + 1 := ⟨d - 1, by omega⟩
  unfold f_J6_bitCount_0f7a4 at hf
  refine E_intro qm_178 qc_178 (Nat.le_of_ble_eq_true rfl) rfl rfl ?_
  show RR d cd_J6_bitCount_0f7a4 (0, 0) 0 [.int a0] [] h (some (.int v0)) h1
  refine R_ldI rfl rfl ?_
  refine R_ldI rfl rfl ?_
  refine R_I rfl ?_
  refine R_bin rfl ?_
  refine R_I rfl ?_
  refine R_bin rfl ?_
  refine R_bin rfl ?_
  refine R_stI (ls' := [.int (a0 - ((a0.toUInt32 >>> ((1 : Int32).toUInt32 &&& Int32.toUInt32 31)).toInt32 &&& (1431655765 : Int32)))]) rfl rfl rfl rfl ?_
  refine R_ldI rfl rfl ?_
  refine R_I rfl ?_
  refine R_bin rfl ?_
  refine R_ldI rfl rfl ?_
  refine R_I rfl ?_
  refine R_bin rfl ?_
  refine R_I rfl ?_
  refine R_bin rfl ?_
  refine R_bin rfl ?_
  refine R_stI (ls' := [.int (((a0 - ((a0.toUInt32 >>> ((1 : Int32).toUInt32 &&& Int32.toUInt32 31)).toInt32 &&& (1431655765 : Int32))) &&& (858993459 : Int32)) + (((a0 - ((a0.toUInt32 >>> ((1 : Int32).toUInt32 &&& Int32.toUInt32 31)).toInt32 &&& (1431655765 : Int32))).toUInt32 >>> ((2 : Int32).toUInt32 &&& Int32.toUInt32 31)).toInt32 &&& (858993459 : Int32)))]) rfl rfl rfl rfl ?_
  refine R_ldI rfl rfl ?_
  refine R_ldI rfl rfl ?_
  refine R_I rfl ?_
  refine R_bin rfl ?_
  refine R_bin rfl ?_
  refine R_I rfl ?_
  refine R_bin rfl ?_
  refine R_stI (ls' := [.int (((((a0 - ((a0.toUInt32 >>> ((1 : Int32).toUInt32 &&& Int32.toUInt32 31)).toInt32 &&& (1431655765 : Int32))) &&& (858993459 : Int32)) + (((a0 - ((a0.toUInt32 >>> ((1 : Int32).toUInt32 &&& Int32.toUInt32 31)).toInt32 &&& (1431655765 : Int32))).toUInt32 >>> ((2 : Int32).toUInt32 &&& Int32.toUInt32 31)).toInt32 &&& (858993459 : Int32))) + ((((a0 - ((a0.toUInt32 >>> ((1 : Int32).toUInt32 &&& Int32.toUInt32 31)).toInt32 &&& (1431655765 : Int32))) &&& (858993459 : Int32)) + (((a0 - ((a0.toUInt32 >>> ((1 : Int32).toUInt32 &&& Int32.toUInt32 31)).toInt32 &&& (1431655765 : Int32))).toUInt32 >>> ((2 : Int32).toUInt32 &&& Int32.toUInt32 31)).toInt32 &&& (858993459 : Int32))).toUInt32 >>> ((4 : Int32).toUInt32 &&& Int32.toUInt32 31)).toInt32) &&& (252645135 : Int32))]) rfl rfl rfl rfl ?_
  refine R_ldI rfl rfl ?_
  refine R_ldI rfl rfl ?_
  refine R_I rfl ?_
  refine R_bin rfl ?_
  refine R_bin rfl ?_
  refine R_stI (ls' := [.int ((((((a0 - ((a0.toUInt32 >>> ((1 : Int32).toUInt32 &&& Int32.toUInt32 31)).toInt32 &&& (1431655765 : Int32))) &&& (858993459 : Int32)) + (((a0 - ((a0.toUInt32 >>> ((1 : Int32).toUInt32 &&& Int32.toUInt32 31)).toInt32 &&& (1431655765 : Int32))).toUInt32 >>> ((2 : Int32).toUInt32 &&& Int32.toUInt32 31)).toInt32 &&& (858993459 : Int32))) + ((((a0 - ((a0.toUInt32 >>> ((1 : Int32).toUInt32 &&& Int32.toUInt32 31)).toInt32 &&& (1431655765 : Int32))) &&& (858993459 : Int32)) + (((a0 - ((a0.toUInt32 >>> ((1 : Int32).toUInt32 &&& Int32.toUInt32 31)).toInt32 &&& (1431655765 : Int32))).toUInt32 >>> ((2 : Int32).toUInt32 &&& Int32.toUInt32 31)).toInt32 &&& (858993459 : Int32))).toUInt32 >>> ((4 : Int32).toUInt32 &&& Int32.toUInt32 31)).toInt32) &&& (252645135 : Int32)) + ((((((a0 - ((a0.toUInt32 >>> ((1 : Int32).toUInt32 &&& Int32.toUInt32 31)).toInt32 &&& (1431655765 : Int32))) &&& (858993459 : Int32)) + (((a0 - ((a0.toUInt32 >>> ((1 : Int32).toUInt32 &&& Int32.toUInt32 31)).toInt32 &&& (1431655765 : Int32))).toUInt32 >>> ((2 : Int32).toUInt32 &&& Int32.toUInt32 31)).toInt32 &&& (858993459 : Int32))) + ((((a0 - ((a0.toUInt32 >>> ((1 : Int32).toUInt32 &&& Int32.toUInt32 31)).toInt32 &&& (1431655765 : Int32))) &&& (858993459 : Int32)) + (((a0 - ((a0.toUInt32 >>> ((1 : Int32).toUInt32 &&& Int32.toUInt32 31)).toInt32 &&& (1431655765 : Int32))).toUInt32 >>> ((2 : Int32).toUInt32 &&& Int32.toUInt32 31)).toInt32 &&& (858993459 : Int32))).toUInt32 >>> ((4 : Int32).toUInt32 &&& Int32.toUInt32 31)).toInt32) &&& (252645135 : Int32)).toUInt32 >>> ((8 : Int32).toUInt32 &&& Int32.toUInt32 31)).toInt32)]) rfl rfl rfl rfl ?_
  refine R_ldI rfl rfl ?_
  refine R_ldI rfl rfl ?_
  refine R_I rfl ?_
  refine R_bin rfl ?_
  refine R_bin rfl ?_
  refine R_stI (ls' := [.int (((((((a0 - ((a0.toUInt32 >>> ((1 : Int32).toUInt32 &&& Int32.toUInt32 31)).toInt32 &&& (1431655765 : Int32))) &&& (858993459 : Int32)) + (((a0 - ((a0.toUInt32 >>> ((1 : Int32).toUInt32 &&& Int32.toUInt32 31)).toInt32 &&& (1431655765 : Int32))).toUInt32 >>> ((2 : Int32).toUInt32 &&& Int32.toUInt32 31)).toInt32 &&& (858993459 : Int32))) + ((((a0 - ((a0.toUInt32 >>> ((1 : Int32).toUInt32 &&& Int32.toUInt32 31)).toInt32 &&& (1431655765 : Int32))) &&& (858993459 : Int32)) + (((a0 - ((a0.toUInt32 >>> ((1 : Int32).toUInt32 &&& Int32.toUInt32 31)).toInt32 &&& (1431655765 : Int32))).toUInt32 >>> ((2 : Int32).toUInt32 &&& Int32.toUInt32 31)).toInt32 &&& (858993459 : Int32))).toUInt32 >>> ((4 : Int32).toUInt32 &&& Int32.toUInt32 31)).toInt32) &&& (252645135 : Int32)) + ((((((a0 - ((a0.toUInt32 >>> ((1 : Int32).toUInt32 &&& Int32.toUInt32 31)).toInt32 &&& (1431655765 : Int32))) &&& (858993459 : Int32)) + (((a0 - ((a0.toUInt32 >>> ((1 : Int32).toUInt32 &&& Int32.toUInt32 31)).toInt32 &&& (1431655765 : Int32))).toUInt32 >>> ((2 : Int32).toUInt32 &&& Int32.toUInt32 31)).toInt32 &&& (858993459 : Int32))) + ((((a0 - ((a0.toUInt32 >>> ((1 : Int32).toUInt32 &&& Int32.toUInt32 31)).toInt32 &&& (1431655765 : Int32))) &&& (858993459 : Int32)) + (((a0 - ((a0.toUInt32 >>> ((1 : Int32).toUInt32 &&& Int32.toUInt32 31)).toInt32 &&& (1431655765 : Int32))).toUInt32 >>> ((2 : Int32).toUInt32 &&& Int32.toUInt32 31)).toInt32 &&& (858993459 : Int32))).toUInt32 >>> ((4 : Int32).toUInt32 &&& Int32.toUInt32 31)).toInt32) &&& (252645135 : Int32)).toUInt32 >>> ((8 : Int32).toUInt32 &&& Int32.toUInt32 31)).toInt32) + (((((((a0 - ((a0.toUInt32 >>> ((1 : Int32).toUInt32 &&& Int32.toUInt32 31)).toInt32 &&& (1431655765 : Int32))) &&& (858993459 : Int32)) + (((a0 - ((a0.toUInt32 >>> ((1 : Int32).toUInt32 &&& Int32.toUInt32 31)).toInt32 &&& (1431655765 : Int32))).toUInt32 >>> ((2 : Int32).toUInt32 &&& Int32.toUInt32 31)).toInt32 &&& (858993459 : Int32))) + ((((a0 - ((a0.toUInt32 >>> ((1 : Int32).toUInt32 &&& Int32.toUInt32 31)).toInt32 &&& (1431655765 : Int32))) &&& (858993459 : Int32)) + (((a0 - ((a0.toUInt32 >>> ((1 : Int32).toUInt32 &&& Int32.toUInt32 31)).toInt32 &&& (1431655765 : Int32))).toUInt32 >>> ((2 : Int32).toUInt32 &&& Int32.toUInt32 31)).toInt32 &&& (858993459 : Int32))).toUInt32 >>> ((4 : Int32).toUInt32 &&& Int32.toUInt32 31)).toInt32) &&& (252645135 : Int32)) + ((((((a0 - ((a0.toUInt32 >>> ((1 : Int32).toUInt32 &&& Int32.toUInt32 31)).toInt32 &&& (1431655765 : Int32))) &&& (858993459 : Int32)) + (((a0 - ((a0.toUInt32 >>> ((1 : Int32).toUInt32 &&& Int32.toUInt32 31)).toInt32 &&& (1431655765 : Int32))).toUInt32 >>> ((2 : Int32).toUInt32 &&& Int32.toUInt32 31)).toInt32 &&& (858993459 : Int32))) + ((((a0 - ((a0.toUInt32 >>> ((1 : Int32).toUInt32 &&& Int32.toUInt32 31)).toInt32 &&& (1431655765 : Int32))) &&& (858993459 : Int32)) + (((a0 - ((a0.toUInt32 >>> ((1 : Int32).toUInt32 &&& Int32.toUInt32 31)).toInt32 &&& (1431655765 : Int32))).toUInt32 >>> ((2 : Int32).toUInt32 &&& Int32.toUInt32 31)).toInt32 &&& (858993459 : Int32))).toUInt32 >>> ((4 : Int32).toUInt32 &&& Int32.toUInt32 31)).toInt32) &&& (252645135 : Int32)).toUInt32 >>> ((8 : Int32).toUInt32 &&& Int32.toUInt32 31)).toInt32).toUInt32 >>> ((16 : Int32).toUInt32 &&& Int32.toUInt32 31)).toInt32)]) rfl rfl rfl rfl ?_
  refine R_ldI rfl rfl ?_
  refine R_I rfl ?_
  refine R_bin rfl ?_
  obtain ⟨rfl, rfl⟩ := qinj2 hf
  exact R_retI rfl
def f_X5_count (N : Nat) (a1 : Int32) (h : qN) : Option (Int32 × qN) :=
  if a1 = (0 : Int32) then
    some ((h 2 4), h)
  else
  if a1 = (1 : Int32) then
    some ((h 2 5), h)
  else
  if a1 = (2 : Int32) then
    qbind (f_J6_bitCount_0f7a4 (h 2 6) h) fun (x761, h760) =>
    some (x761, h760)
  else
  if a1 = (3 : Int32) then
    qbind (f_X0_costOfAll N 2 8 6 h) fun (x765, h764) =>
    some (x765, h764)
  else
  if a1 = (4 : Int32) then
    some ((h 1 4), h)
  else
    some ((-1 : Int32), h)
set_option maxRecDepth 100000 in
theorem t_X5_count {d N : Nat} (hd : 3 ≤ d) (a1 : Int32)  (h : qN) {v0 : Int32} {h1 : qN} (hf : f_X5_count N a1 h = some (v0, h1)) : EE d 67 [.ref 0, .int a1] h (some (.int v0)) h1 := by
  obtain ⟨d, rfl⟩ : ∃ d0, d = d0 + 1 := ⟨d - 1, by omega⟩
  unfold f_X5_count at hf
  refine E_intro qm_67 qc_67 (Nat.le_of_ble_eq_true rfl) rfl rfl ?_
  show RR d cd_X5_count (0, 0) 0 [.ref 0, .int a1] [] h (some (.int v0)) h1
  refine R_ldI rfl rfl ?_
  rcases qite hf with ⟨c757, hf⟩ | ⟨c757, hf⟩
  · refine R_sw rfl (by rw [c757]) ?_
    refine R_ldA rfl rfl ?_
    refine R_get rfl sh_0 rfl rfl ?_
    refine R_get rfl sh_1 rfl rfl ?_
    refine R_get rfl sh_2 rfl rfl ?_
    obtain ⟨rfl, rfl⟩ := qinj2 hf
    exact R_retI rfl
  · skip
    rcases qite hf with ⟨c758, hf⟩ | ⟨c758, hf⟩
    · refine R_sw rfl (by rw [c758]) ?_
      refine R_ldA rfl rfl ?_
      refine R_get rfl sh_0 rfl rfl ?_
      refine R_get rfl sh_1 rfl rfl ?_
      refine R_get rfl sh_2 rfl rfl ?_
      obtain ⟨rfl, rfl⟩ := qinj2 hf
      exact R_retI rfl
    · skip
      rcases qite hf with ⟨c759, hf⟩ | ⟨c759, hf⟩
      · refine R_sw rfl (by rw [c759]) ?_
        refine R_ldA rfl rfl ?_
        refine R_get rfl sh_0 rfl rfl ?_
        refine R_get rfl sh_1 rfl rfl ?_
        refine R_get rfl sh_2 rfl rfl ?_
        obtain ⟨⟨x761, h760⟩, e762, hf⟩ := qbind_some hf
        dsimp only at hf
        refine R_callSi (as := [.int (h 2 6)]) (rest := []) rfl rfl rfl rfl rfl rfl (t_J6_bitCount_0f7a4 (by omega) (h 2 6) h e762) ?_
        obtain ⟨rfl, rfl⟩ := qinj2 hf
        exact R_retI rfl
      · skip
        rcases qite hf with ⟨c763, hf⟩ | ⟨c763, hf⟩
        · refine R_sw rfl (by rw [c763]) ?_
          refine R_ldA rfl rfl ?_
          refine R_get rfl sh_0 rfl rfl ?_
          refine R_get rfl sh_1 rfl rfl ?_
          refine R_ldA rfl rfl ?_
          refine R_get rfl sh_0 rfl rfl ?_
          refine R_get rfl sh_1 rfl rfl ?_
          obtain ⟨⟨x765, h764⟩, e766, hf⟩ := qbind_some hf
          dsimp only at hf
          refine R_callVi (as := [.ref 2, .ref 8]) (rest := []) rfl rfl sh_2 rfl rfl rfl rfl (t_X0_costOfAll (N := N) (by omega) 2 8 6 isC_2 sh_8 h e766) ?_
          obtain ⟨rfl, rfl⟩ := qinj2 hf
          exact R_retI rfl
        · skip
          rcases qite hf with ⟨c767, hf⟩ | ⟨c767, hf⟩
          · refine R_sw rfl (by rw [c767]) ?_
            refine R_ldA rfl rfl ?_
            refine R_get rfl sh_0 rfl rfl ?_
            refine R_get rfl sh_1 rfl rfl ?_
            obtain ⟨rfl, rfl⟩ := qinj2 hf
            exact R_retI rfl
          · skip
            refine R_sw rfl (sw_def (fun j hj => by (have hj2 : j = 0 ∨ j = 1 ∨ j = 2 ∨ j = 3 ∨ j = 4 := by simpa using (show j < 5 from hj) |> fun z => by omega); rcases hj2 with rfl | rfl | rfl | rfl | rfl <;> assumption)) ?_
            refine R_I rfl ?_
            obtain ⟨rfl, rfl⟩ := qinj2 hf
            exact R_retI rfl
def f_X5_sale (N : Nat) (a1 : Int32) (a2 : Int32) (a3 : Int32) (h : qN) : Option (Int32 × qN) :=
  qbind (f_X5_isThing a1 h) fun (x769, h768) =>
  if x769 = 0 then
    some ((-1 : Int32), h768)
  else
    qbind (f_X5_isPerson a2 h768) fun (x773, h772) =>
    if x773 = 0 then
      some ((-1 : Int32), h772)
    else
      qbind (f_X5_isWithin a3 (999 : Int32) h772) fun (x777, h776) =>
      if x777 = 0 then
        some ((-1 : Int32), h776)
      else
        if a1 < 0 ∨ 8 ≤ a1.toNatClampNeg then none else
        if (h776 4 a1.toNatClampNeg) = a2 then
          some ((-2 : Int32), h776)
        else
          if a2 < 0 ∨ 6 ≤ a2.toNatClampNeg then none else
          if a3 ≤ (h776 7 a2.toNatClampNeg) then
            qbind (f_X4_sell N 1 a1 a2 a3 h776) fun (x785, h784) =>
            some (x785, h784)
          else
            some ((-2 : Int32), h776)
set_option maxRecDepth 100000 in
theorem t_X5_sale {d N : Nat} (hd : 5 ≤ d) (a1 : Int32) (a2 : Int32) (a3 : Int32)  (h : qN) {v0 : Int32} {h1 : qN} (hf : f_X5_sale N a1 a2 a3 h = some (v0, h1)) : EE d 68 [.ref 0, .int a1, .int a2, .int a3] h (some (.int v0)) h1 := by
  obtain ⟨d, rfl⟩ : ∃ d0, d = d0 + 1 := ⟨d - 1, by omega⟩
  unfold f_X5_sale at hf
  refine E_intro qm_68 qc_68 (Nat.le_of_ble_eq_true rfl) rfl rfl ?_
  show RR d cd_X5_sale (0, 0) 0 [.ref 0, .int a1, .int a2, .int a3] [] h (some (.int v0)) h1
  refine R_ldA rfl rfl ?_
  refine R_ldI rfl rfl ?_
  obtain ⟨⟨x769, h768⟩, e770, hf⟩ := qbind_some hf
  dsimp only at hf
  refine R_callVi (as := [.ref 0, .int a1]) (rest := []) rfl rfl sh_0 rfl rfl rfl rfl (t_X5_isThing (by omega) a1 h e770) ?_
  rcases qite hf with ⟨c771, hf⟩ | ⟨c771, hf⟩
  · refine R_IfEq_t rfl c771 ?_
    refine R_I rfl ?_
    obtain ⟨rfl, rfl⟩ := qinj2 hf
    exact R_retI rfl
  · refine R_IfEq_f rfl c771 ?_
    refine R_ldI rfl rfl ?_
    obtain ⟨⟨x773, h772⟩, e774, hf⟩ := qbind_some hf
    dsimp only at hf
    refine R_callSi (as := [.int a2]) (rest := []) rfl rfl rfl rfl rfl rfl (t_X5_isPerson (by omega) a2 h768 e774) ?_
    rcases qite hf with ⟨c775, hf⟩ | ⟨c775, hf⟩
    · refine R_IfEq_t rfl c775 ?_
      refine R_I rfl ?_
      obtain ⟨rfl, rfl⟩ := qinj2 hf
      exact R_retI rfl
    · refine R_IfEq_f rfl c775 ?_
      refine R_ldI rfl rfl ?_
      refine R_I rfl ?_
      obtain ⟨⟨x777, h776⟩, e778, hf⟩ := qbind_some hf
      dsimp only at hf
      refine R_callSi (as := [.int a3, .int (999 : Int32)]) (rest := []) rfl rfl rfl rfl rfl rfl (t_X5_isWithin (by omega) a3 (999 : Int32) h772 e778) ?_
      rcases qite hf with ⟨c779, hf⟩ | ⟨c779, hf⟩
      · refine R_IfNe_f rfl c779 ?_
        refine R_I rfl ?_
        obtain ⟨rfl, rfl⟩ := qinj2 hf
        exact R_retI rfl
      · refine R_IfNe_t rfl c779 ?_
        refine R_ldA rfl rfl ?_
        refine R_get rfl sh_0 rfl rfl ?_
        refine R_get rfl sh_1 rfl rfl ?_
        refine R_get rfl sh_2 rfl rfl ?_
        refine R_ldI rfl rfl ?_
        obtain ⟨c780, hf⟩ := qchk hf
        refine R_ald rfl sh_4 c780 ?_
        refine R_ldI rfl rfl ?_
        rcases qite hf with ⟨c781, hf⟩ | ⟨c781, hf⟩
        · refine R_CmEq_t rfl c781 ?_
          refine R_I rfl ?_
          obtain ⟨rfl, rfl⟩ := qinj2 hf
          exact R_retI rfl
        · refine R_CmEq_f rfl c781 ?_
          refine R_ldA rfl rfl ?_
          refine R_get rfl sh_0 rfl rfl ?_
          refine R_get rfl sh_1 rfl rfl ?_
          refine R_ldI rfl rfl ?_
          obtain ⟨c782, hf⟩ := qchk hf
          refine R_ald rfl sh_7 c782 ?_
          refine R_ldI rfl rfl ?_
          rcases qite hf with ⟨c783, hf⟩ | ⟨c783, hf⟩
          · refine R_CmGe_t rfl c783 ?_
            refine R_ldA rfl rfl ?_
            refine R_get rfl sh_0 rfl rfl ?_
            refine R_ldI rfl rfl ?_
            refine R_ldI rfl rfl ?_
            refine R_ldI rfl rfl ?_
            obtain ⟨⟨x785, h784⟩, e786, hf⟩ := qbind_some hf
            dsimp only at hf
            refine R_callVi (as := [.ref 1, .int a1, .int a2, .int a3]) (rest := []) rfl rfl sh_1 rfl rfl rfl rfl (t_X4_sell (N := N) (by omega) 1 a1 a2 a3 isV_1 h776 e786) ?_
            obtain ⟨rfl, rfl⟩ := qinj2 hf
            exact R_retI rfl
          · refine R_CmGe_f rfl c783 ?_
            refine R_I rfl ?_
            obtain ⟨rfl, rfl⟩ := qinj2 hf
            exact R_retI rfl
def f_X5_swap (N : Nat) (a1 : Int32) (a2 : Int32) (h : qN) : Option (Int32 × qN) :=
  qbind (f_X5_isThing a1 h) fun (x788, h787) =>
  if x788 = 0 then
    some ((-1 : Int32), h787)
  else
    qbind (f_X5_isThing a2 h787) fun (x792, h791) =>
    if x792 = 0 then
      some ((-1 : Int32), h791)
    else
      if a1 < 0 ∨ 8 ≤ a1.toNatClampNeg then none else
      if a2 < 0 ∨ 8 ≤ a2.toNatClampNeg then none else
      if (h791 4 a1.toNatClampNeg) = (h791 4 a2.toNatClampNeg) then
        some ((-2 : Int32), h791)
      else
        qbind (f_X0_exchange N 2 a1 a2 (qup h791 1 4 ((h791 1 4) + (2 : Int32)))) fun (x799, h798) =>
        some (x799, h798)
set_option maxRecDepth 100000 in
theorem t_X5_swap {d N : Nat} (hd : 4 ≤ d) (a1 : Int32) (a2 : Int32)  (h : qN) {v0 : Int32} {h1 : qN} (hf : f_X5_swap N a1 a2 h = some (v0, h1)) : EE d 69 [.ref 0, .int a1, .int a2] h (some (.int v0)) h1 := by
  obtain ⟨d, rfl⟩ : ∃ d0, d = d0 + 1 := ⟨d - 1, by omega⟩
  unfold f_X5_swap at hf
  refine E_intro qm_69 qc_69 (Nat.le_of_ble_eq_true rfl) rfl rfl ?_
  show RR d cd_X5_swap (0, 0) 0 [.ref 0, .int a1, .int a2] [] h (some (.int v0)) h1
  refine R_ldA rfl rfl ?_
  refine R_ldI rfl rfl ?_
  obtain ⟨⟨x788, h787⟩, e789, hf⟩ := qbind_some hf
  dsimp only at hf
  refine R_callVi (as := [.ref 0, .int a1]) (rest := []) rfl rfl sh_0 rfl rfl rfl rfl (t_X5_isThing (by omega) a1 h e789) ?_
  rcases qite hf with ⟨c790, hf⟩ | ⟨c790, hf⟩
  · refine R_IfEq_t rfl c790 ?_
    refine R_I rfl ?_
    obtain ⟨rfl, rfl⟩ := qinj2 hf
    exact R_retI rfl
  · refine R_IfEq_f rfl c790 ?_
    refine R_ldA rfl rfl ?_
    refine R_ldI rfl rfl ?_
    obtain ⟨⟨x792, h791⟩, e793, hf⟩ := qbind_some hf
    dsimp only at hf
    refine R_callVi (as := [.ref 0, .int a2]) (rest := []) rfl rfl sh_0 rfl rfl rfl rfl (t_X5_isThing (by omega) a2 h787 e793) ?_
    rcases qite hf with ⟨c794, hf⟩ | ⟨c794, hf⟩
    · refine R_IfNe_f rfl c794 ?_
      refine R_I rfl ?_
      obtain ⟨rfl, rfl⟩ := qinj2 hf
      exact R_retI rfl
    · refine R_IfNe_t rfl c794 ?_
      refine R_ldA rfl rfl ?_
      refine R_get rfl sh_0 rfl rfl ?_
      refine R_get rfl sh_1 rfl rfl ?_
      refine R_get rfl sh_2 rfl rfl ?_
      refine R_ldI rfl rfl ?_
      obtain ⟨c795, hf⟩ := qchk hf
      refine R_ald rfl sh_4 c795 ?_
      refine R_ldA rfl rfl ?_
      refine R_get rfl sh_0 rfl rfl ?_
      refine R_get rfl sh_1 rfl rfl ?_
      refine R_get rfl sh_2 rfl rfl ?_
      refine R_ldI rfl rfl ?_
      obtain ⟨c796, hf⟩ := qchk hf
      refine R_ald rfl sh_4 c796 ?_
      rcases qite hf with ⟨c797, hf⟩ | ⟨c797, hf⟩
      · refine R_CmNe_f rfl c797 ?_
        refine R_I rfl ?_
        obtain ⟨rfl, rfl⟩ := qinj2 hf
        exact R_retI rfl
      · refine R_CmNe_t rfl c797 ?_
        refine R_ldA rfl rfl ?_
        refine R_get rfl sh_0 rfl rfl ?_
        refine R_dup rfl rfl ?_
        refine R_get rfl sh_1 rfl rfl ?_
        refine R_I rfl ?_
        refine R_bin rfl ?_
        refine R_putI rfl sh_1 rfl ?_
        refine R_ldA rfl rfl ?_
        refine R_get rfl sh_0 rfl rfl ?_
        refine R_get rfl sh_1 rfl rfl ?_
        refine R_ldI rfl rfl ?_
        refine R_ldI rfl rfl ?_
        obtain ⟨⟨x799, h798⟩, e800, hf⟩ := qbind_some hf
        dsimp only at hf
        refine R_callVi (as := [.ref 2, .int a1, .int a2]) (rest := []) rfl rfl sh_2 rfl rfl rfl rfl (t_X0_exchange (N := N) (by omega) 2 a1 a2 isC_2 (qup h791 1 4 ((h791 1 4) + (2 : Int32))) e800) ?_
        obtain ⟨rfl, rfl⟩ := qinj2 hf
        exact R_retI rfl
def f_X5_give (N : Nat) (a1 : Int32) (h : qN) : Option (Int32 × qN) :=
  qbind (f_X5_isThing a1 h) fun (x802, h801) =>
  if x802 = 0 then
    some ((-1 : Int32), h801)
  else
    if a1 < 0 ∨ 8 ≤ a1.toNatClampNeg then none else
    if (h801 4 a1.toNatClampNeg) = (6 : Int32) then
      some ((-2 : Int32), h801)
    else
      qbind (f_X0_move N 2 a1 (6 : Int32) (qup h801 1 4 ((h801 1 4) + (1 : Int32)))) fun (x808, h807) =>
      some (x808, h807)
set_option maxRecDepth 100000 in
theorem t_X5_give {d N : Nat} (hd : 4 ≤ d) (a1 : Int32)  (h : qN) {v0 : Int32} {h1 : qN} (hf : f_X5_give N a1 h = some (v0, h1)) : EE d 70 [.ref 0, .int a1] h (some (.int v0)) h1 := by
  obtain ⟨d, rfl⟩ : ∃ d0, d = d0 + 1 := ⟨d - 1, by omega⟩
  unfold f_X5_give at hf
  refine E_intro qm_70 qc_70 (Nat.le_of_ble_eq_true rfl) rfl rfl ?_
  show RR d cd_X5_give (0, 0) 0 [.ref 0, .int a1] [] h (some (.int v0)) h1
  refine R_ldA rfl rfl ?_
  refine R_ldI rfl rfl ?_
  obtain ⟨⟨x802, h801⟩, e803, hf⟩ := qbind_some hf
  dsimp only at hf
  refine R_callVi (as := [.ref 0, .int a1]) (rest := []) rfl rfl sh_0 rfl rfl rfl rfl (t_X5_isThing (by omega) a1 h e803) ?_
  rcases qite hf with ⟨c804, hf⟩ | ⟨c804, hf⟩
  · refine R_IfNe_f rfl c804 ?_
    refine R_I rfl ?_
    obtain ⟨rfl, rfl⟩ := qinj2 hf
    exact R_retI rfl
  · refine R_IfNe_t rfl c804 ?_
    refine R_ldA rfl rfl ?_
    refine R_get rfl sh_0 rfl rfl ?_
    refine R_get rfl sh_1 rfl rfl ?_
    refine R_get rfl sh_2 rfl rfl ?_
    refine R_ldI rfl rfl ?_
    obtain ⟨c805, hf⟩ := qchk hf
    refine R_ald rfl sh_4 c805 ?_
    refine R_I rfl ?_
    rcases qite hf with ⟨c806, hf⟩ | ⟨c806, hf⟩
    · refine R_CmNe_f rfl c806 ?_
      refine R_I rfl ?_
      obtain ⟨rfl, rfl⟩ := qinj2 hf
      exact R_retI rfl
    · refine R_CmNe_t rfl c806 ?_
      refine R_ldA rfl rfl ?_
      refine R_get rfl sh_0 rfl rfl ?_
      refine R_dup rfl rfl ?_
      refine R_get rfl sh_1 rfl rfl ?_
      refine R_I rfl ?_
      refine R_bin rfl ?_
      refine R_putI rfl sh_1 rfl ?_
      refine R_ldA rfl rfl ?_
      refine R_get rfl sh_0 rfl rfl ?_
      refine R_get rfl sh_1 rfl rfl ?_
      refine R_ldI rfl rfl ?_
      refine R_I rfl ?_
      obtain ⟨⟨x808, h807⟩, e809, hf⟩ := qbind_some hf
      dsimp only at hf
      refine R_callVi (as := [.ref 2, .int a1, .int (6 : Int32)]) (rest := []) rfl rfl sh_2 rfl rfl rfl rfl (t_X0_move (N := N) (by omega) 2 a1 (6 : Int32) isC_2 (qup h801 1 4 ((h801 1 4) + (1 : Int32))) e809) ?_
      obtain ⟨rfl, rfl⟩ := qinj2 hf
      exact R_retI rfl
def f_X5_wed (N : Nat) (a1 : Int32) (a2 : Int32) (h : qN) : Option (Int32 × qN) :=
  qbind (f_X5_isPerson a1 h) fun (x811, h810) =>
  if x811 = 0 then
    some ((-1 : Int32), h810)
  else
    qbind (f_X5_isPerson a2 h810) fun (x815, h814) =>
    if x815 = 0 then
      some ((-1 : Int32), h814)
    else
      if a1 = a2 then
        some ((-1 : Int32), h814)
      else
        if a1 < 0 ∨ 6 ≤ a1.toNatClampNeg then none else
        if a2 < 0 ∨ 6 ≤ a2.toNatClampNeg then none else
        if a1 < 0 ∨ 6 ≤ a1.toNatClampNeg then none else
        if a2 < 0 ∨ 6 ≤ a2.toNatClampNeg then none else
        qbind (f_X0_marry N 2 a1 a2 (qup (qup h814 7 a1.toNatClampNeg (if ((h814 7 a1.toNatClampNeg) + (h814 7 a2.toNatClampNeg)) < (9999 : Int32) then ((h814 7 a1.toNatClampNeg) + (h814 7 a2.toNatClampNeg)) else (9999 : Int32))) 7 a2.toNatClampNeg (0 : Int32))) fun (x824, h823) =>
        some (x824, h823)
set_option maxRecDepth 100000 in
theorem t_X5_wed {d N : Nat} (hd : 4 ≤ d) (a1 : Int32) (a2 : Int32)  (h : qN) {v0 : Int32} {h1 : qN} (hf : f_X5_wed N a1 a2 h = some (v0, h1)) : EE d 71 [.ref 0, .int a1, .int a2] h (some (.int v0)) h1 := by
  obtain ⟨d, rfl⟩ : ∃ d0, d = d0 + 1 := ⟨d - 1, by omega⟩
  unfold f_X5_wed at hf
  refine E_intro qm_71 qc_71 (Nat.le_of_ble_eq_true rfl) rfl rfl ?_
  show RR d cd_X5_wed (0, 0) 0 [.ref 0, .int a1, .int a2] [] h (some (.int v0)) h1
  refine R_ldI rfl rfl ?_
  obtain ⟨⟨x811, h810⟩, e812, hf⟩ := qbind_some hf
  dsimp only at hf
  refine R_callSi (as := [.int a1]) (rest := []) rfl rfl rfl rfl rfl rfl (t_X5_isPerson (by omega) a1 h e812) ?_
  rcases qite hf with ⟨c813, hf⟩ | ⟨c813, hf⟩
  · refine R_IfEq_t rfl c813 ?_
    refine R_I rfl ?_
    obtain ⟨rfl, rfl⟩ := qinj2 hf
    exact R_retI rfl
  · refine R_IfEq_f rfl c813 ?_
    refine R_ldI rfl rfl ?_
    obtain ⟨⟨x815, h814⟩, e816, hf⟩ := qbind_some hf
    dsimp only at hf
    refine R_callSi (as := [.int a2]) (rest := []) rfl rfl rfl rfl rfl rfl (t_X5_isPerson (by omega) a2 h810 e816) ?_
    rcases qite hf with ⟨c817, hf⟩ | ⟨c817, hf⟩
    · refine R_IfEq_t rfl c817 ?_
      refine R_I rfl ?_
      obtain ⟨rfl, rfl⟩ := qinj2 hf
      exact R_retI rfl
    · refine R_IfEq_f rfl c817 ?_
      refine R_ldI rfl rfl ?_
      refine R_ldI rfl rfl ?_
      rcases qite hf with ⟨c818, hf⟩ | ⟨c818, hf⟩
      · refine R_CmNe_f rfl c818 ?_
        refine R_I rfl ?_
        obtain ⟨rfl, rfl⟩ := qinj2 hf
        exact R_retI rfl
      · refine R_CmNe_t rfl c818 ?_
        refine R_ldA rfl rfl ?_
        refine R_get rfl sh_0 rfl rfl ?_
        refine R_get rfl sh_1 rfl rfl ?_
        refine R_ldI rfl rfl ?_
        refine R_I rfl ?_
        refine R_ldA rfl rfl ?_
        refine R_get rfl sh_0 rfl rfl ?_
        refine R_get rfl sh_1 rfl rfl ?_
        refine R_ldI rfl rfl ?_
        obtain ⟨c819, hf⟩ := qchk hf
        refine R_ald rfl sh_7 c819 ?_
        refine R_ldA rfl rfl ?_
        refine R_get rfl sh_0 rfl rfl ?_
        refine R_get rfl sh_1 rfl rfl ?_
        refine R_ldI rfl rfl ?_
        obtain ⟨c820, hf⟩ := qchk hf
        refine R_ald rfl sh_7 c820 ?_
        refine R_bin rfl ?_
        refine R_min rfl rfl rfl ?_
        obtain ⟨c821, hf⟩ := qchk hf
        refine R_ast rfl sh_7 c821 ?_
        refine R_ldA rfl rfl ?_
        refine R_get rfl sh_0 rfl rfl ?_
        refine R_get rfl sh_1 rfl rfl ?_
        refine R_ldI rfl rfl ?_
        refine R_I rfl ?_
        obtain ⟨c822, hf⟩ := qchk hf
        refine R_ast rfl sh_7 c822 ?_
        refine R_ldA rfl rfl ?_
        refine R_get rfl sh_0 rfl rfl ?_
        refine R_get rfl sh_1 rfl rfl ?_
        refine R_ldI rfl rfl ?_
        refine R_ldI rfl rfl ?_
        obtain ⟨⟨x824, h823⟩, e825, hf⟩ := qbind_some hf
        dsimp only at hf
        refine R_callVi (as := [.ref 2, .int a1, .int a2]) (rest := []) rfl rfl sh_2 rfl rfl rfl rfl (t_X0_marry (N := N) (by omega) 2 a1 a2 isC_2 (qup (qup h814 7 a1.toNatClampNeg (if ((h814 7 a1.toNatClampNeg) + (h814 7 a2.toNatClampNeg)) < (9999 : Int32) then ((h814 7 a1.toNatClampNeg) + (h814 7 a2.toNatClampNeg)) else (9999 : Int32))) 7 a2.toNatClampNeg (0 : Int32)) e825) ?_
        obtain ⟨rfl, rfl⟩ := qinj2 hf
        exact R_retI rfl
def f_X5_part (N : Nat) (a1 : Int32) (a2 : Int32) (h : qN) : Option (Int32 × qN) :=
  qbind (f_X5_isThing a1 h) fun (x827, h826) =>
  if x827 = 0 then
    some ((-1 : Int32), h826)
  else
    if a2 < 0 then
      some ((-1 : Int32), h826)
    else
      if a2 < ((1 : Int32) <<< ((h826 2 5) &&& 31)) then
        if (h826 2 4) < (8 : Int32) then
          qbind (f_X4_split N 1 a1 a2 h826) fun (x834, h833) =>
          some (x834, h833)
        else
          some ((-3 : Int32), h826)
      else
        some ((-1 : Int32), h826)
set_option maxRecDepth 100000 in
theorem t_X5_part {d N : Nat} (hd : 5 ≤ d) (a1 : Int32) (a2 : Int32)  (h : qN) {v0 : Int32} {h1 : qN} (hf : f_X5_part N a1 a2 h = some (v0, h1)) : EE d 72 [.ref 0, .int a1, .int a2] h (some (.int v0)) h1 := by
  obtain ⟨d, rfl⟩ : ∃ d0, d = d0 + 1 := ⟨d - 1, by omega⟩
  unfold f_X5_part at hf
  refine E_intro qm_72 qc_72 (Nat.le_of_ble_eq_true rfl) rfl rfl ?_
  show RR d cd_X5_part (0, 0) 0 [.ref 0, .int a1, .int a2] [] h (some (.int v0)) h1
  refine R_ldA rfl rfl ?_
  refine R_ldI rfl rfl ?_
  obtain ⟨⟨x827, h826⟩, e828, hf⟩ := qbind_some hf
  dsimp only at hf
  refine R_callVi (as := [.ref 0, .int a1]) (rest := []) rfl rfl sh_0 rfl rfl rfl rfl (t_X5_isThing (by omega) a1 h e828) ?_
  rcases qite hf with ⟨c829, hf⟩ | ⟨c829, hf⟩
  · refine R_IfEq_t rfl c829 ?_
    refine R_I rfl ?_
    obtain ⟨rfl, rfl⟩ := qinj2 hf
    exact R_retI rfl
  · refine R_IfEq_f rfl c829 ?_
    refine R_ldI rfl rfl ?_
    rcases qite hf with ⟨c830, hf⟩ | ⟨c830, hf⟩
    · refine R_IfLt_t rfl c830 ?_
      refine R_I rfl ?_
      obtain ⟨rfl, rfl⟩ := qinj2 hf
      exact R_retI rfl
    · refine R_IfLt_f rfl c830 ?_
      refine R_ldI rfl rfl ?_
      refine R_I rfl ?_
      refine R_ldA rfl rfl ?_
      refine R_get rfl sh_0 rfl rfl ?_
      refine R_get rfl sh_1 rfl rfl ?_
      refine R_get rfl sh_2 rfl rfl ?_
      refine R_bin rfl ?_
      rcases qite hf with ⟨c831, hf⟩ | ⟨c831, hf⟩
      · refine R_CmLt_t rfl c831 ?_
        refine R_ldA rfl rfl ?_
        refine R_get rfl sh_0 rfl rfl ?_
        refine R_get rfl sh_1 rfl rfl ?_
        refine R_get rfl sh_2 rfl rfl ?_
        refine R_I rfl ?_
        rcases qite hf with ⟨c832, hf⟩ | ⟨c832, hf⟩
        · refine R_CmLt_t rfl c832 ?_
          refine R_ldA rfl rfl ?_
          refine R_get rfl sh_0 rfl rfl ?_
          refine R_ldI rfl rfl ?_
          refine R_ldI rfl rfl ?_
          obtain ⟨⟨x834, h833⟩, e835, hf⟩ := qbind_some hf
          dsimp only at hf
          refine R_callVi (as := [.ref 1, .int a1, .int a2]) (rest := []) rfl rfl sh_1 rfl rfl rfl rfl (t_X4_split (N := N) (by omega) 1 a1 a2 isV_1 h826 e835) ?_
          obtain ⟨rfl, rfl⟩ := qinj2 hf
          exact R_retI rfl
        · refine R_CmLt_f rfl c832 ?_
          refine R_I rfl ?_
          obtain ⟨rfl, rfl⟩ := qinj2 hf
          exact R_retI rfl
      · refine R_CmLt_f rfl c831 ?_
        refine R_I rfl ?_
        obtain ⟨rfl, rfl⟩ := qinj2 hf
        exact R_retI rfl
def f_X5_trySale (N : Nat) (a1 : Int32) (a2 : Int32) (h : qN) : Option (qN) :=
  qbind (f_X0_become 19 2 h) fun h836 =>
  qbind (f_X0_move N 19 a1 a2 h836) fun (x839, h838) =>
  some h838
set_option maxRecDepth 100000 in
theorem t_X5_trySale {d N : Nat} (hd : 4 ≤ d) (a1 : Int32) (a2 : Int32)  (h : qN) {h1 : qN} (hf : f_X5_trySale N a1 a2 h = some h1) : EE d 98 [.ref 0, .int a1, .int a2] h none h1 := by
  obtain ⟨d, rfl⟩ : ∃ d0, d = d0 + 1 := ⟨d - 1, by omega⟩
  unfold f_X5_trySale at hf
  refine E_intro qm_98 qc_98 (Nat.le_of_ble_eq_true rfl) rfl rfl ?_
  show RR d cd_X5_trySale (0, 0) 0 [.ref 0, .int a1, .int a2] [] h none h1
  refine R_ldA rfl rfl ?_
  refine R_get rfl sh_0 rfl rfl ?_
  refine R_ldA rfl rfl ?_
  refine R_get rfl sh_0 rfl rfl ?_
  refine R_get rfl sh_1 rfl rfl ?_
  obtain ⟨h836, e837, hf⟩ := qbind_some hf
  refine R_callVv (as := [.ref 19, .ref 2]) (rest := []) rfl rfl sh_19 rfl rfl rfl rfl (t_X0_become (by omega) 19 2 isC_19 isC_2 h e837) ?_
  refine R_ldA rfl rfl ?_
  refine R_get rfl sh_0 rfl rfl ?_
  refine R_ldI rfl rfl ?_
  refine R_ldI rfl rfl ?_
  obtain ⟨⟨x839, h838⟩, e840, hf⟩ := qbind_some hf
  dsimp only at hf
  refine R_callVi (as := [.ref 19, .int a1, .int a2]) (rest := []) rfl rfl sh_19 rfl rfl rfl rfl (t_X0_move (N := N) (by omega) 19 a1 a2 isC_19 h836 e840) ?_
  refine R_pop rfl rfl ?_
  obtain rfl := Option.some.inj hf
  exact R_retV rfl
def f_X5_gainOf (N : Nat) (a1 : Int32) (h : qN) : Option (Int32 × qN) :=
  if a1 = (6 : Int32) then
    some ((0 : Int32), h)
  else
    qbind (f_X4_valueTo N 1 a1 19 h) fun (x843, h842) =>
    qbind (f_X4_valueTo N 1 a1 2 h842) fun (x846, h845) =>
    some ((x843 - x846), h845)
set_option maxRecDepth 100000 in
theorem t_X5_gainOf {d N : Nat} (hd : 4 ≤ d) (a1 : Int32)  (h : qN) {v0 : Int32} {h1 : qN} (hf : f_X5_gainOf N a1 h = some (v0, h1)) : EE d 99 [.ref 0, .int a1] h (some (.int v0)) h1 := by
  obtain ⟨d, rfl⟩ : ∃ d0, d = d0 + 1 := ⟨d - 1, by omega⟩
  unfold f_X5_gainOf at hf
  refine E_intro qm_99 qc_99 (Nat.le_of_ble_eq_true rfl) rfl rfl ?_
  show RR d cd_X5_gainOf (0, 0) 0 [.ref 0, .int a1] [] h (some (.int v0)) h1
  refine R_ldI rfl rfl ?_
  refine R_I rfl ?_
  rcases qite hf with ⟨c841, hf⟩ | ⟨c841, hf⟩
  · refine R_CmNe_f rfl c841 ?_
    refine R_I rfl ?_
    refine R_goto rfl ?_
    obtain ⟨rfl, rfl⟩ := qinj2 hf
    exact R_retI rfl
  · refine R_CmNe_t rfl c841 ?_
    refine R_ldA rfl rfl ?_
    refine R_get rfl sh_0 rfl rfl ?_
    refine R_ldI rfl rfl ?_
    refine R_ldA rfl rfl ?_
    refine R_get rfl sh_0 rfl rfl ?_
    obtain ⟨⟨x843, h842⟩, e844, hf⟩ := qbind_some hf
    dsimp only at hf
    refine R_callVi (as := [.ref 1, .int a1, .ref 19]) (rest := []) rfl rfl sh_1 rfl rfl rfl rfl (t_X4_valueTo (N := N) (by omega) 1 a1 19 isV_1 isC_19 h e844) ?_
    refine R_ldA rfl rfl ?_
    refine R_get rfl sh_0 rfl rfl ?_
    refine R_ldI rfl rfl ?_
    refine R_ldA rfl rfl ?_
    refine R_get rfl sh_0 rfl rfl ?_
    refine R_get rfl sh_1 rfl rfl ?_
    obtain ⟨⟨x846, h845⟩, e847, hf⟩ := qbind_some hf
    dsimp only at hf
    refine R_callVi (as := [.ref 1, .int a1, .ref 2]) (rest := [.int x843]) rfl rfl sh_1 rfl rfl rfl rfl (t_X4_valueTo (N := N) (by omega) 1 a1 2 isV_1 isC_2 h842 e847) ?_
    refine R_bin rfl ?_
    obtain ⟨rfl, rfl⟩ := qinj2 hf
    exact R_retI rfl
