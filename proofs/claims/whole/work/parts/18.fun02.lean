def f_X1_choose (a1 : Int32) (h : qN) : Option (qN) :=
  if ¬ (0 : Int32) < 0 ∧ ¬ (0 : Int32) < 0 ∧ ¬ a1 < 0 ∧ 0 + a1.toNatClampNeg ≤ 3 ∧ 0 + a1.toNatClampNeg ≤ 3 then
    some (qrow (qup h 24 3 a1) 27 (va_cpy ((qup h 24 3 a1) 26) ((qup h 24 3 a1) 27) 0 0 a1.toNatClampNeg))
  else none
set_option maxRecDepth 100000 in
theorem t_X1_choose {d : Nat} (hd : 1 ≤ d) (a1 : Int32)  (h : qN) {h1 : qN} (hf : f_X1_choose a1 h = some h1) : EE d 30 [.ref 24, .int a1] h none h1 := by
  obtain ⟨d, rfl⟩ : ∃ d0, d = d0 + 1 := ⟨d - 1, by omega⟩
  unfold f_X1_choose at hf
  refine E_intro qm_30 qc_30 (Nat.le_of_ble_eq_true rfl) rfl rfl ?_
  show RR d cd_X1_choose (0, 0) 0 [.ref 24, .int a1] [] h none h1
  refine R_ldA rfl rfl ?_
  refine R_ldI rfl rfl ?_
  refine R_putI rfl sh_24 rfl ?_
  refine R_ldA rfl rfl ?_
  refine R_get rfl sh_24 rfl rfl ?_
  refine R_I rfl ?_
  refine R_ldA rfl rfl ?_
  refine R_get rfl sh_24 rfl rfl ?_
  refine R_I rfl ?_
  refine R_ldI rfl rfl ?_
  obtain ⟨c310, hf⟩ := qreq hf
  refine R_copyN (s' := 0) (d' := 0) (z' := a1.toNatClampNeg) rfl sh_26 sh_27 rfl rfl rfl c310 (by decide) ?_
  obtain rfl := Option.some.inj hf
  exact R_retV rfl
def f_X1_seekFewest_L17 (N : Nat) (l2 : Int32) : Nat → Int32 → qN → Option ((Int32 × qN) ⊕ (qN))
  | 0, _, _ => none
  | n + 1, l3, h =>
    if (3 : Int32) < l3 then
      some (.inr h)
    else
      qbind (f_X1_endsAll N 10 (0 : Int32) l3 l2 h) fun (x318, h317) =>
      if x318 = 0 then
        f_X1_seekFewest_L17 N l2 n (l3 + (1 : Int32)) h317
      else
        qbind (f_X1_choose l3 h317) fun h321 =>
        some (.inl (l3, h321))
set_option maxRecDepth 100000 in
theorem t_X1_seekFewest_L17 {d N : Nat} (hd : 15 ≤ d) : ∀ (n : Nat) (l2 : Int32) (l3 : Int32) (h : qN) (res : (Int32 × qN) ⊕ (qN)), f_X1_seekFewest_L17 N l2 n l3 h = some res → ∀ (v : Option Value) (h1 : qN), (∀ (rv : Int32) (rh : qN), res = .inl (rv, rh) → v = some (.int rv) ∧ h1 = rh) → (∀ (h2 : qN), res = .inr h2 → RR d cd_X1_seekFewest (0, 0) 45 [qU, qU, qU, qU] [] h2 v h1) → RR d cd_X1_seekFewest (0, 0) 17 [.ref 24, qU, .int l2, .int l3] [] h v h1 := by
  intro n
  induction n with
  | zero =>
    intro l2 l3 h res hf v h1 hR hE
    exact absurd hf (by simp [f_X1_seekFewest_L17])
  | succ n ih =>
    intro l2 l3 h res hf v h1 hR hE
    unfold f_X1_seekFewest_L17 at hf
    refine R_ldI rfl rfl ?_
    refine R_I rfl ?_
    rcases qite hf with ⟨c316, hf⟩ | ⟨c316, hf⟩
    · refine R_CmGt_t rfl c316 ?_
      refine R_drop [false, true, false, false] (ls' := [qU, qU, qU, qU]) rfl ?_
      obtain rfl := Option.some.inj hf
      exact hE _ rfl
    · refine R_CmGt_f rfl c316 ?_
      refine R_ldA rfl rfl ?_
      refine R_I rfl ?_
      refine R_ldI rfl rfl ?_
      refine R_ldI rfl rfl ?_
      obtain ⟨⟨x318, h317⟩, e319, hf⟩ := qbind_some hf
      dsimp only at hf
      refine R_callSi (as := [.ref 24, .int (0 : Int32), .int l3, .int l2]) (rest := []) rfl rfl rfl rfl rfl rfl (t_X1_endsAll (N := N) (n := 10) (by omega) (0 : Int32) l3 l2 h _ _ e319) ?_
      rcases qite hf with ⟨c320, hf⟩ | ⟨c320, hf⟩
      · refine R_IfEq_t rfl c320 ?_
        refine R_inc (ls' := [.ref 24, qU, .int l2, .int (l3 + (1 : Int32))]) rfl rfl rfl rfl ?_
        refine R_goto rfl ?_
        exact ih l2 (l3 + (1 : Int32)) h317 _ hf _ _ hR hE
      · refine R_IfEq_f rfl c320 ?_
        refine R_ldA rfl rfl ?_
        refine R_ldI rfl rfl ?_
        obtain ⟨h321, e322, hf⟩ := qbind_some hf
        refine R_callVv (as := [.ref 24, .int l3]) (rest := []) rfl rfl sh_24 rfl rfl rfl rfl (t_X1_choose (by omega) l3 h317 e322) ?_
        refine R_ldI rfl rfl ?_
        obtain rfl := Option.some.inj hf
        obtain ⟨rfl, rfl⟩ := hR _ _ rfl
        exact R_retI rfl
def f_X1_seekFewest (N : Nat) (r1 : Nat) (h : qN) : Option (Int32 × qN) :=
  qbind (f_X0_become 28 r1 h) fun h311 =>
  qbind (f_X0_neverEnding N r1 h311) fun (x314, h313) =>
  qbind (f_X1_seekFewest_L17 N x314 N (0 : Int32) h313) fun
    | .inl (x326, h327) => some (x326, h327)
    | .inr h324 =>
      some ((-4 : Int32), h324)
set_option maxRecDepth 100000 in
theorem t_X1_seekFewest {d N : Nat} (hd : 16 ≤ d) (r1 : Nat) (hr1 : isC r1) (h : qN) {v0 : Int32} {h1 : qN} (hf : f_X1_seekFewest N r1 h = some (v0, h1)) : EE d 22 [.ref 24, .ref r1] h (some (.int v0)) h1 := by
  obtain ⟨d, rfl⟩ : ∃ d0, d = d0 + 1 := ⟨d - 1, by omega⟩
  unfold f_X1_seekFewest at hf
  refine E_intro qm_22 qc_22 (Nat.le_of_ble_eq_true rfl) rfl rfl ?_
  show RR d cd_X1_seekFewest (0, 0) 0 [.ref 24, .ref r1, qU, qU] [] h (some (.int v0)) h1
  refine R_ldA rfl rfl ?_
  refine R_get rfl sh_24 rfl rfl ?_
  refine R_I rfl ?_
  refine R_aald rfl sh_25 (by decide) rfl ?_
  refine R_ldA rfl rfl ?_
  obtain ⟨h311, e312, hf⟩ := qbind_some hf
  refine R_callVv (as := [.ref 28, .ref r1]) (rest := []) rfl rfl sh_28 rfl rfl rfl rfl (t_X0_become (by omega) 28 r1 isC_28 hr1 h e312) ?_
  refine R_ldA rfl rfl ?_
  obtain ⟨⟨x314, h313⟩, e315, hf⟩ := qbind_some hf
  dsimp only at hf
  refine R_callVi (as := [.ref r1]) (rest := []) rfl rfl hr1.1 rfl rfl rfl rfl (t_X0_neverEnding (N := N) (by omega) r1 hr1 h311 e315) ?_
  refine R_stI (ls' := [.ref 24, .ref r1, .int x314, qU]) rfl rfl rfl rfl ?_
  refine R_I rfl ?_
  refine R_stI (ls' := [.ref 24, .ref r1, .int x314, .int (0 : Int32)]) rfl rfl rfl rfl ?_
  refine R_drop [true, false, true, true] (ls' := [.ref 24, qU, .int x314, .int (0 : Int32)]) rfl ?_
  obtain ⟨⟨x326, h327⟩ | h324, e325, hf⟩ := qbind_some hf
  · dsimp only at hf
    refine t_X1_seekFewest_L17 (N := N) (by omega) _ x314 (0 : Int32) h313 _ e325 _ _ (fun rv rh he => ?_) (fun _ he => by cases he)
    cases he
    obtain ⟨rfl, rfl⟩ := qinj2 hf
    exact ⟨rfl, rfl⟩
  · dsimp only at hf
    refine t_X1_seekFewest_L17 (N := N) (by omega) _ x314 (0 : Int32) h313 _ e325 _ _ (fun _ _ he => by cases he) (fun z0 he => ?_)
    cases he
    refine R_I rfl ?_
    obtain ⟨rfl, rfl⟩ := qinj2 hf
    exact R_retI rfl
def f_X1_isSide_L10 (N : Nat) (l2 : Int32) (r3 : Nat) : Nat → Int32 → qN → Option ((Int32 × qN) ⊕ (qN))
  | 0, _, _ => none
  | n + 1, l4, h =>
    if (h r3 5) ≤ l4 then
      some (.inr h)
    else
      qbind (f_X0_isOver r3 l4 h) fun (x331, h330) =>
      if x331 = 0 then
        qbind (f_X0_sidesOf r3 l4 h330) fun (x335, h334) =>
        if ((x335 >>> (l2 &&& 31)) &&& (1 : Int32)) = (1 : Int32) then
          some (.inl ((1 : Int32), h334))
        else
          f_X1_isSide_L10 N l2 r3 n (l4 + (1 : Int32)) h334
      else
        f_X1_isSide_L10 N l2 r3 n (l4 + (1 : Int32)) h330
set_option maxRecDepth 100000 in
theorem t_X1_isSide_L10 {d N : Nat} (hd : 1 ≤ d) : ∀ (n : Nat) (l2 : Int32) (r3 : Nat) (hr3 : isC r3) (l4 : Int32) (h : qN) (res : (Int32 × qN) ⊕ (qN)), f_X1_isSide_L10 N l2 r3 n l4 h = some res → ∀ (v : Option Value) (h1 : qN), (∀ (rv : Int32) (rh : qN), res = .inl (rv, rh) → v = some (.int rv) ∧ h1 = rh) → (∀ (h2 : qN), res = .inr h2 → RR d cd_X1_isSide (0, 0) 50 [qU, qU, qU, qU, qU] [] h2 v h1) → RR d cd_X1_isSide (0, 0) 10 [qU, qU, .int l2, .ref r3, .int l4] [] h v h1 := by
  intro n
  induction n with
  | zero =>
    intro l2 r3 hr3 l4 h res hf v h1 hR hE
    exact absurd hf (by simp [f_X1_isSide_L10])
  | succ n ih =>
    intro l2 r3 hr3 l4 h res hf v h1 hR hE
    unfold f_X1_isSide_L10 at hf
    refine R_ldI rfl rfl ?_
    refine R_ldA rfl rfl ?_
    refine R_get rfl hr3.1 rfl rfl ?_
    rcases qite hf with ⟨c329, hf⟩ | ⟨c329, hf⟩
    · refine R_CmGe_t rfl c329 ?_
      refine R_drop [true, true, false, false, false] (ls' := [qU, qU, qU, qU, qU]) rfl ?_
      obtain rfl := Option.some.inj hf
      exact hE _ rfl
    · refine R_CmGe_f rfl c329 ?_
      refine R_ldA rfl rfl ?_
      refine R_ldI rfl rfl ?_
      obtain ⟨⟨x331, h330⟩, e332, hf⟩ := qbind_some hf
      dsimp only at hf
      refine R_callVi (as := [.ref r3, .int l4]) (rest := []) rfl rfl hr3.1 rfl rfl rfl rfl (t_X0_isOver (by omega) r3 l4 hr3 h e332) ?_
      rcases qite hf with ⟨c333, hf⟩ | ⟨c333, hf⟩
      · refine R_IfNe_f rfl c333 ?_
        refine R_ldA rfl rfl ?_
        refine R_ldI rfl rfl ?_
        obtain ⟨⟨x335, h334⟩, e336, hf⟩ := qbind_some hf
        dsimp only at hf
        refine R_callVi (as := [.ref r3, .int l4]) (rest := []) rfl rfl hr3.1 rfl rfl rfl rfl (t_X0_sidesOf (by omega) r3 l4 hr3 h330 e336) ?_
        refine R_ldI rfl rfl ?_
        refine R_bin rfl ?_
        refine R_I rfl ?_
        refine R_bin rfl ?_
        refine R_I rfl ?_
        rcases qite hf with ⟨c337, hf⟩ | ⟨c337, hf⟩
        · refine R_CmNe_f rfl c337 ?_
          refine R_I rfl ?_
          obtain rfl := Option.some.inj hf
          obtain ⟨rfl, rfl⟩ := hR _ _ rfl
          exact R_retZ rfl (by decide)
        · refine R_CmNe_t rfl c337 ?_
          refine R_inc (ls' := [qU, qU, .int l2, .ref r3, .int (l4 + (1 : Int32))]) rfl rfl rfl rfl ?_
          refine R_goto rfl ?_
          exact ih l2 r3 hr3 (l4 + (1 : Int32)) h334 _ hf _ _ hR hE
      · refine R_IfNe_t rfl c333 ?_
        refine R_inc (ls' := [qU, qU, .int l2, .ref r3, .int (l4 + (1 : Int32))]) rfl rfl rfl rfl ?_
        refine R_goto rfl ?_
        exact ih l2 r3 hr3 (l4 + (1 : Int32)) h330 _ hf _ _ hR hE
def f_X1_isSide (N : Nat) (a1 : Int32) (a2 : Int32) (h : qN) : Option (Int32 × qN) :=
  if a1 < 0 ∨ 4 ≤ a1.toNatClampNeg then none else
  qbind (f_X1_isSide_L10 N a2 (28 + 5 * a1.toNatClampNeg) N (0 : Int32) h) fun
    | .inl (x341, h342) => some (x341, h342)
    | .inr h339 =>
      some ((0 : Int32), h339)
set_option maxRecDepth 100000 in
theorem t_X1_isSide {d N : Nat} (hd : 2 ≤ d) (a1 : Int32) (a2 : Int32)  (h : qN) {v0 : Int32} {h1 : qN} (hf : f_X1_isSide N a1 a2 h = some (v0, h1)) : EE d 28 [.ref 24, .int a1, .int a2] h (some (.int v0)) h1 := by
  obtain ⟨d, rfl⟩ : ∃ d0, d = d0 + 1 := ⟨d - 1, by omega⟩
  unfold f_X1_isSide at hf
  refine E_intro qm_28 qc_28 (Nat.le_of_ble_eq_true rfl) rfl rfl ?_
  show RR d cd_X1_isSide (0, 0) 0 [.ref 24, .int a1, .int a2, qU, qU] [] h (some (.int v0)) h1
  refine R_ldA rfl rfl ?_
  refine R_get rfl sh_24 rfl rfl ?_
  refine R_ldI rfl rfl ?_
  obtain ⟨c328, hf⟩ := qchk hf
  refine R_aald rfl sh_25 c328 (isC_st c328).2 ?_
  refine R_stA (ls' := [.ref 24, .int a1, .int a2, .ref (28 + 5 * a1.toNatClampNeg), qU]) rfl rfl rfl rfl ?_
  refine R_I rfl ?_
  refine R_stI (ls' := [.ref 24, .int a1, .int a2, .ref (28 + 5 * a1.toNatClampNeg), .int (0 : Int32)]) rfl rfl rfl rfl ?_
  refine R_drop [false, false, true, true, true] (ls' := [qU, qU, .int a2, .ref (28 + 5 * a1.toNatClampNeg), .int (0 : Int32)]) rfl ?_
  obtain ⟨⟨x341, h342⟩ | h339, e340, hf⟩ := qbind_some hf
  · dsimp only at hf
    refine t_X1_isSide_L10 (N := N) (by omega) _ a2 (28 + 5 * a1.toNatClampNeg) (isC_st c328).1 (0 : Int32) h _ e340 _ _ (fun rv rh he => ?_) (fun _ he => by cases he)
    cases he
    obtain ⟨rfl, rfl⟩ := qinj2 hf
    exact ⟨rfl, rfl⟩
  · dsimp only at hf
    refine t_X1_isSide_L10 (N := N) (by omega) _ a2 (28 + 5 * a1.toNatClampNeg) (isC_st c328).1 (0 : Int32) h _ e340 _ _ (fun _ _ he => by cases he) (fun z0 he => ?_)
    cases he
    refine R_I rfl ?_
    obtain ⟨rfl, rfl⟩ := qinj2 hf
    exact R_retZ rfl (by decide)
def f_X1_weigh (N : Nat) (a1 : Int32) (r2 : Nat) (n2 : Nat) (a3 : Int32) (h : qN) : Option (qN) :=
  if a1 < 0 ∨ 4 ≤ a1.toNatClampNeg then none else
  qbind (f_X0_costOfAll N (28 + 5 * a1.toNatClampNeg) r2 n2 h) fun (x345, h344) =>
  if ((x345 * a3) + a1) < (h344 24 4) then
    qbind (f_X1_choose a1 (qup h344 24 4 ((x345 * a3) + a1))) fun h348 =>
    some h348
  else
    if ((x345 * a3) + a1) = (h344 24 4) then
      if (h344 24 3) ≤ a1 then
        some h344
      else
        qbind (f_X1_choose a1 (qup h344 24 4 ((x345 * a3) + a1))) fun h352 =>
        some h352
    else
      some h344
set_option maxRecDepth 100000 in
theorem t_X1_weigh {d N : Nat} (hd : 3 ≤ d) (a1 : Int32) (r2 : Nat) (n2 : Nat) (a3 : Int32) (hr2 : isA r2 n2) (h : qN) {h1 : qN} (hf : f_X1_weigh N a1 r2 n2 a3 h = some h1) : EE d 29 [.ref 24, .int a1, .ref r2, .int a3] h none h1 := by
  obtain ⟨d, rfl⟩ : ∃ d0, d = d0 + 1 := ⟨d - 1, by omega⟩
  unfold f_X1_weigh at hf
  refine E_intro qm_29 qc_29 (Nat.le_of_ble_eq_true rfl) rfl rfl ?_
  show RR d cd_X1_weigh (0, 0) 0 [.ref 24, .int a1, .ref r2, .int a3, qU] [] h none h1
  refine R_ldA rfl rfl ?_
  refine R_get rfl sh_24 rfl rfl ?_
  refine R_ldI rfl rfl ?_
  obtain ⟨c343, hf⟩ := qchk hf
  refine R_aald rfl sh_25 c343 (isC_st c343).2 ?_
  refine R_ldA rfl rfl ?_
  obtain ⟨⟨x345, h344⟩, e346, hf⟩ := qbind_some hf
  dsimp only at hf
  refine R_callVi (as := [.ref (28 + 5 * a1.toNatClampNeg), .ref r2]) (rest := []) rfl rfl (isC_st c343).1.1 rfl rfl rfl rfl (t_X0_costOfAll (N := N) (by omega) (28 + 5 * a1.toNatClampNeg) r2 n2 (isC_st c343).1 hr2 h e346) ?_
  refine R_ldI rfl rfl ?_
  refine R_bin rfl ?_
  refine R_ldI rfl rfl ?_
  refine R_bin rfl ?_
  refine R_stI (ls' := [.ref 24, .int a1, .ref r2, .int a3, .int ((x345 * a3) + a1)]) rfl rfl rfl rfl ?_
  refine R_ldI rfl rfl ?_
  refine R_ldA rfl rfl ?_
  refine R_get rfl sh_24 rfl rfl ?_
  rcases qite hf with ⟨c347, hf⟩ | ⟨c347, hf⟩
  · refine R_CmLt_t rfl c347 ?_
    refine R_ldA rfl rfl ?_
    refine R_ldI rfl rfl ?_
    refine R_putI rfl sh_24 rfl ?_
    refine R_ldA rfl rfl ?_
    refine R_ldI rfl rfl ?_
    obtain ⟨h348, e349, hf⟩ := qbind_some hf
    refine R_callVv (as := [.ref 24, .int a1]) (rest := []) rfl rfl sh_24 rfl rfl rfl rfl (t_X1_choose (by omega) a1 (qup h344 24 4 ((x345 * a3) + a1)) e349) ?_
    obtain rfl := Option.some.inj hf
    exact R_retV rfl
  · refine R_CmLt_f rfl c347 ?_
    refine R_ldI rfl rfl ?_
    refine R_ldA rfl rfl ?_
    refine R_get rfl sh_24 rfl rfl ?_
    rcases qite hf with ⟨c350, hf⟩ | ⟨c350, hf⟩
    · refine R_CmNe_f rfl c350 ?_
      refine R_ldI rfl rfl ?_
      refine R_ldA rfl rfl ?_
      refine R_get rfl sh_24 rfl rfl ?_
      rcases qite hf with ⟨c351, hf⟩ | ⟨c351, hf⟩
      · refine R_CmGe_t rfl c351 ?_
        obtain rfl := Option.some.inj hf
        exact R_retV rfl
      · refine R_CmGe_f rfl c351 ?_
        refine R_ldA rfl rfl ?_
        refine R_ldI rfl rfl ?_
        refine R_putI rfl sh_24 rfl ?_
        refine R_ldA rfl rfl ?_
        refine R_ldI rfl rfl ?_
        obtain ⟨h352, e353, hf⟩ := qbind_some hf
        refine R_callVv (as := [.ref 24, .int a1]) (rest := []) rfl rfl sh_24 rfl rfl rfl rfl (t_X1_choose (by omega) a1 (qup h344 24 4 ((x345 * a3) + a1)) e353) ?_
        obtain rfl := Option.some.inj hf
        exact R_retV rfl
    · refine R_CmNe_t rfl c350 ?_
      obtain rfl := Option.some.inj hf
      exact R_retV rfl
def f_X1_weighRows_L19 (N : Nat) (rec : Int32 → Nat → Nat → Int32 → qN → Option (qN)) (l1 : Int32) (r2 : Nat) (n2 : Nat) (l3 : Int32) (l4 : Int32) : Nat → Int32 → qN → Option (qN)
  | 0, _, _ => none
  | n + 1, l5, h =>
    if (6 : Int32) ≤ l5 then
      some h
    else
      qbind (f_X1_isSide N l1 l4 h) fun (x358, h357) =>
      if x358 = 0 then
        some h357
      else
        qbind (f_X1_step N l1 l4 l5 h357) fun (x362, h361) =>
        qbind (
            if x362 = 0 then
              some h361
            else
              qbind (f_X1_weigh N (l1 + (1 : Int32)) r2 n2 l3 h361) fun h365 =>
              qbind (rec (l1 + (1 : Int32)) r2 n2 l3 h365) fun h367 =>
              some h367 : Option (qN)) fun h369 =>
        f_X1_weighRows_L19 N rec l1 r2 n2 l3 l4 n (l5 + (1 : Int32)) h369
set_option maxRecDepth 100000 in
theorem t_X1_weighRows_L19 {d N : Nat} {rec : Int32 → Nat → Nat → Int32 → qN → Option (qN)} (hrec : ∀ (a1 : Int32) (r2 : Nat) (n2 : Nat) (a3 : Int32) (hr2 : isA r2 n2) (h h2 : qN), rec a1 r2 n2 a3 h = some h2 → EE d 27 [.ref 24, .int a1, .ref r2, .int a3] h none h2) (hd : 4 ≤ d) : ∀ (n : Nat) (l1 : Int32) (r2 : Nat) (n2 : Nat) (l3 : Int32) (l4 : Int32) (hr2 : isA r2 n2) (l5 : Int32) (h : qN) (h2 : qN), f_X1_weighRows_L19 N rec l1 r2 n2 l3 l4 n l5 h = some h2 → ∀ (v : Option Value) (h1 : qN), RR d cd_X1_weighRows (0, 0) 72 [.ref 24, .int l1, .ref r2, .int l3, .int l4, qU] [] h2 v h1 → RR d cd_X1_weighRows (0, 0) 19 [.ref 24, .int l1, .ref r2, .int l3, .int l4, .int l5] [] h v h1 := by
  intro n
  induction n with
  | zero =>
    intro l1 r2 n2 l3 l4 hr2 l5 h h2 hf v h1 hE
    exact absurd hf (by simp [f_X1_weighRows_L19])
  | succ n ih =>
    intro l1 r2 n2 l3 l4 hr2 l5 h h2 hf v h1 hE
    unfold f_X1_weighRows_L19 at hf
    refine R_ldI rfl rfl ?_
    refine R_I rfl ?_
    rcases qite hf with ⟨c356, hf⟩ | ⟨c356, hf⟩
    · refine R_CmGe_t rfl c356 ?_
      refine R_drop [true, true, true, true, true, false] (ls' := [.ref 24, .int l1, .ref r2, .int l3, .int l4, qU]) rfl ?_
      obtain rfl := Option.some.inj hf
      exact hE
    · refine R_CmGe_f rfl c356 ?_
      refine R_ldA rfl rfl ?_
      refine R_ldI rfl rfl ?_
      refine R_ldI rfl rfl ?_
      obtain ⟨⟨x358, h357⟩, e359, hf⟩ := qbind_some hf
      dsimp only at hf
      refine R_callVi (as := [.ref 24, .int l1, .int l4]) (rest := []) rfl rfl sh_24 rfl rfl rfl rfl (t_X1_isSide (N := N) (by omega) l1 l4 h e359) ?_
      rcases qite hf with ⟨c360, hf⟩ | ⟨c360, hf⟩
      · refine R_IfEq_t rfl c360 ?_
        refine R_drop [true, true, true, true, true, false] (ls' := [.ref 24, .int l1, .ref r2, .int l3, .int l4, qU]) rfl ?_
        obtain rfl := Option.some.inj hf
        exact hE
      · refine R_IfEq_f rfl c360 ?_
        refine R_ldA rfl rfl ?_
        refine R_ldI rfl rfl ?_
        refine R_ldI rfl rfl ?_
        refine R_ldI rfl rfl ?_
        obtain ⟨⟨x362, h361⟩, e363, hf⟩ := qbind_some hf
        dsimp only at hf
        refine R_callVi (as := [.ref 24, .int l1, .int l4, .int l5]) (rest := []) rfl rfl sh_24 rfl rfl rfl rfl (t_X1_step (N := N) (by omega) l1 l4 l5 h357 e363) ?_
        obtain ⟨h369, e370, hf⟩ := qbind_some hf
        have key : RR d cd_X1_weighRows (0, 0) 66 [.ref 24, .int l1, .ref r2, .int l3, .int l4, .int l5] [] h369 v h1 := by
          clear e370
          refine R_inc (ls' := [.ref 24, .int l1, .ref r2, .int l3, .int l4, .int (l5 + (1 : Int32))]) rfl rfl rfl rfl ?_
          refine R_goto rfl ?_
          exact ih l1 r2 n2 l3 l4 hr2 (l5 + (1 : Int32)) h369 _ hf _ _ hE
        clear hf
        have hf := e370
        clear e370
        rcases qite hf with ⟨c364, hf⟩ | ⟨c364, hf⟩
        · refine R_IfEq_t rfl c364 ?_
          obtain rfl := Option.some.inj hf
          exact key
        · refine R_IfEq_f rfl c364 ?_
          refine R_ldA rfl rfl ?_
          refine R_ldI rfl rfl ?_
          refine R_I rfl ?_
          refine R_bin rfl ?_
          refine R_ldA rfl rfl ?_
          refine R_ldI rfl rfl ?_
          obtain ⟨h365, e366, hf⟩ := qbind_some hf
          refine R_callVv (as := [.ref 24, .int (l1 + (1 : Int32)), .ref r2, .int l3]) (rest := []) rfl rfl sh_24 rfl rfl rfl rfl (t_X1_weigh (N := N) (by omega) (l1 + (1 : Int32)) r2 n2 l3 hr2 h361 e366) ?_
          refine R_ldA rfl rfl ?_
          refine R_ldI rfl rfl ?_
          refine R_I rfl ?_
          refine R_bin rfl ?_
          refine R_ldA rfl rfl ?_
          refine R_ldI rfl rfl ?_
          obtain ⟨h367, e368, hf⟩ := qbind_some hf
          refine R_callSv (as := [.ref 24, .int (l1 + (1 : Int32)), .ref r2, .int l3]) (rest := []) rfl rfl rfl rfl rfl rfl (hrec (l1 + (1 : Int32)) r2 n2 l3 hr2 h365 _ e368) ?_
          obtain rfl := Option.some.inj hf
          exact key
def f_X1_weighRows_L9 (N : Nat) (rec : Int32 → Nat → Nat → Int32 → qN → Option (qN)) (l1 : Int32) (r2 : Nat) (n2 : Nat) (l3 : Int32) : Nat → Int32 → qN → Option (qN)
  | 0, _, _ => none
  | n + 1, l4, h =>
    if (8 : Int32) ≤ l4 then
      some h
    else
      qbind (f_X1_weighRows_L19 N rec l1 r2 n2 l3 l4 N (0 : Int32) h) fun h372 =>
      f_X1_weighRows_L9 N rec l1 r2 n2 l3 n (l4 + (1 : Int32)) h372
set_option maxRecDepth 100000 in
theorem t_X1_weighRows_L9 {d N : Nat} {rec : Int32 → Nat → Nat → Int32 → qN → Option (qN)} (hrec : ∀ (a1 : Int32) (r2 : Nat) (n2 : Nat) (a3 : Int32) (hr2 : isA r2 n2) (h h2 : qN), rec a1 r2 n2 a3 h = some h2 → EE d 27 [.ref 24, .int a1, .ref r2, .int a3] h none h2) (hd : 4 ≤ d) : ∀ (n : Nat) (l1 : Int32) (r2 : Nat) (n2 : Nat) (l3 : Int32) (hr2 : isA r2 n2) (l4 : Int32) (h : qN) (h2 : qN), f_X1_weighRows_L9 N rec l1 r2 n2 l3 n l4 h = some h2 → ∀ (v : Option Value) (h1 : qN), RR d cd_X1_weighRows (0, 0) 78 [qU, qU, qU, qU, qU, qU] [] h2 v h1 → RR d cd_X1_weighRows (0, 0) 9 [.ref 24, .int l1, .ref r2, .int l3, .int l4, qU] [] h v h1 := by
  intro n
  induction n with
  | zero =>
    intro l1 r2 n2 l3 hr2 l4 h h2 hf v h1 hE
    exact absurd hf (by simp [f_X1_weighRows_L9])
  | succ n ih =>
    intro l1 r2 n2 l3 hr2 l4 h h2 hf v h1 hE
    unfold f_X1_weighRows_L9 at hf
    refine R_ldI rfl rfl ?_
    refine R_I rfl ?_
    rcases qite hf with ⟨c355, hf⟩ | ⟨c355, hf⟩
    · refine R_CmGe_t rfl c355 ?_
      refine R_drop [false, false, false, false, false, true] (ls' := [qU, qU, qU, qU, qU, qU]) rfl ?_
      obtain rfl := Option.some.inj hf
      exact hE
    · refine R_CmGe_f rfl c355 ?_
      refine R_I rfl ?_
      refine R_stI (ls' := [.ref 24, .int l1, .ref r2, .int l3, .int l4, .int (0 : Int32)]) rfl rfl rfl rfl ?_
      obtain ⟨h372, e373, hf⟩ := qbind_some hf
      refine t_X1_weighRows_L19 (N := N) (rec := rec) hrec (by omega) _ l1 r2 n2 l3 l4 hr2 (0 : Int32) h h372 e373 _ _ ?_
      refine R_inc (ls' := [.ref 24, .int l1, .ref r2, .int l3, .int (l4 + (1 : Int32)), qU]) rfl rfl rfl rfl ?_
      refine R_goto rfl ?_
      exact ih l1 r2 n2 l3 hr2 (l4 + (1 : Int32)) h372 _ hf _ _ hE
def f_X1_weighRows (N : Nat) : Nat → Int32 → Nat → Nat → Int32 → qN → Option (qN)
  | 0, _, _, _, _, _ => none
  | n + 1, a1, r2, n2, a3, h =>
    if a1 < (2 : Int32) then
      qbind (f_X1_weighRows_L9 N (f_X1_weighRows N n) a1 r2 n2 a3 N (0 : Int32) h) fun h377 =>
      some h377
    else
      some h
set_option maxRecDepth 100000 in
theorem t_X1_weighRows {N : Nat} : ∀ {n d : Nat} (hd : 5 + n ≤ d) (a1 : Int32) (r2 : Nat) (n2 : Nat) (a3 : Int32) (hr2 : isA r2 n2) (h : qN) (h1 : qN), f_X1_weighRows N n a1 r2 n2 a3 h = some h1 → EE d 27 [.ref 24, .int a1, .ref r2, .int a3] h none h1 := by
  intro n
  induction n with
  | zero =>
    intro d hd a1 r2 n2 a3 hr2 h h1 hf
    exact absurd hf (by simp [f_X1_weighRows])
  | succ n ih =>
    intro d hd a1 r2 n2 a3 hr2 h h1 hf
    obtain ⟨d, rfl⟩ : ∃ d0, d = d0 + 1 := ⟨d - 1, by omega⟩
    unfold f_X1_weighRows at hf
    have hrec : ∀ (a1 : Int32) (r2 : Nat) (n2 : Nat) (a3 : Int32) (hr2 : isA r2 n2) (h h2 : qN), f_X1_weighRows N n a1 r2 n2 a3 h = some h2 → EE d 27 [.ref 24, .int a1, .ref r2, .int a3] h none h2 := fun a1 r2 n2 a3 hr2 h h2 he => ih (d := d) (by omega) a1 r2 n2 a3 hr2 h h2 he
    refine E_intro qm_27 qc_27 (Nat.le_of_ble_eq_true rfl) rfl rfl ?_
    show RR d cd_X1_weighRows (0, 0) 0 [.ref 24, .int a1, .ref r2, .int a3, qU, qU] [] h none h1
    refine R_ldI rfl rfl ?_
    refine R_I rfl ?_
    rcases qite hf with ⟨c354, hf⟩ | ⟨c354, hf⟩
    · refine R_CmLt_t rfl c354 ?_
      refine R_I rfl ?_
      refine R_stI (ls' := [.ref 24, .int a1, .ref r2, .int a3, .int (0 : Int32), qU]) rfl rfl rfl rfl ?_
      obtain ⟨h377, e378, hf⟩ := qbind_some hf
      refine t_X1_weighRows_L9 (N := N) (rec := f_X1_weighRows N n) hrec (by omega) _ a1 r2 n2 a3 hr2 (0 : Int32) h h377 e378 _ _ ?_
      obtain rfl := Option.some.inj hf
      exact R_retV rfl
    · refine R_CmLt_f rfl c354 ?_
      obtain rfl := Option.some.inj hf
      exact R_retV rfl
def f_X1_seekBest (N : Nat) (r1 : Nat) (r2 : Nat) (n2 : Nat) (a3 : Int32) (h : qN) : Option (qN) :=
  qbind (f_X0_become 28 r1 h) fun h381 =>
  qbind (f_X0_costOfAll N r1 r2 n2 h381) fun (x384, h383) =>
  qbind (f_X1_weighRows N 10 (0 : Int32) r2 n2 a3 (qup (qup h383 24 4 (x384 * a3)) 24 3 (0 : Int32))) fun h386 =>
  some h386
set_option maxRecDepth 100000 in
theorem t_X1_seekBest {d N : Nat} (hd : 16 ≤ d) (r1 : Nat) (r2 : Nat) (n2 : Nat) (a3 : Int32) (hr1 : isC r1) (hr2 : isA r2 n2) (h : qN) {h1 : qN} (hf : f_X1_seekBest N r1 r2 n2 a3 h = some h1) : EE d 26 [.ref 24, .ref r1, .ref r2, .int a3] h none h1 := by
  obtain ⟨d, rfl⟩ : ∃ d0, d = d0 + 1 := ⟨d - 1, by omega⟩
  unfold f_X1_seekBest at hf
  refine E_intro qm_26 qc_26 (Nat.le_of_ble_eq_true rfl) rfl rfl ?_
  show RR d cd_X1_seekBest (0, 0) 0 [.ref 24, .ref r1, .ref r2, .int a3] [] h none h1
  refine R_ldA rfl rfl ?_
  refine R_get rfl sh_24 rfl rfl ?_
  refine R_I rfl ?_
  refine R_aald rfl sh_25 (by decide) rfl ?_
  refine R_ldA rfl rfl ?_
  obtain ⟨h381, e382, hf⟩ := qbind_some hf
  refine R_callVv (as := [.ref 28, .ref r1]) (rest := []) rfl rfl sh_28 rfl rfl rfl rfl (t_X0_become (by omega) 28 r1 isC_28 hr1 h e382) ?_
  refine R_ldA rfl rfl ?_
  refine R_ldA rfl rfl ?_
  refine R_ldA rfl rfl ?_
  obtain ⟨⟨x384, h383⟩, e385, hf⟩ := qbind_some hf
  dsimp only at hf
  refine R_callVi (as := [.ref r1, .ref r2]) (rest := [.ref 24]) rfl rfl hr1.1 rfl rfl rfl rfl (t_X0_costOfAll (N := N) (by omega) r1 r2 n2 hr1 hr2 h381 e385) ?_
  refine R_ldI rfl rfl ?_
  refine R_bin rfl ?_
  refine R_putI rfl sh_24 rfl ?_
  refine R_ldA rfl rfl ?_
  refine R_I rfl ?_
  refine R_putI rfl sh_24 rfl ?_
  refine R_ldA rfl rfl ?_
  refine R_I rfl ?_
  refine R_ldA rfl rfl ?_
  refine R_ldI rfl rfl ?_
  obtain ⟨h386, e387, hf⟩ := qbind_some hf
  refine R_callSv (as := [.ref 24, .int (0 : Int32), .ref r2, .int a3]) (rest := []) rfl rfl rfl rfl rfl rfl (t_X1_weighRows (N := N) (n := 10) (by omega) (0 : Int32) r2 n2 a3 hr2 (qup (qup h383 24 4 (x384 * a3)) 24 3 (0 : Int32)) _ e387) ?_
  obtain rfl := Option.some.inj hf
  exact R_retV rfl
def f_X2_begin_L17 (N : Nat) (r0 : Nat) : Nat → Int32 → qN → Option (qN)
  | 0, _, _ => none
  | n + 1, l3, h =>
    if (24 : Int32) ≤ l3 then
      some h
    else
      if l3 < 0 ∨ 24 ≤ l3.toNatClampNeg then none else
      f_X2_begin_L17 N r0 n (l3 + (1 : Int32)) (qup h (r0 + 1) l3.toNatClampNeg (0 : Int32))
set_option maxRecDepth 100000 in
theorem t_X2_begin_L17 {d N : Nat} (hd : 0 ≤ d) : ∀ (n : Nat) (r0 : Nat) (hr0 : isT r0) (l3 : Int32) (h : qN) (h2 : qN), f_X2_begin_L17 N r0 n l3 h = some h2 → ∀ (v : Option Value) (h1 : qN), RR d cd_X2_begin (0, 0) 39 [qU, qU, qU, qU] [] h2 v h1 → RR d cd_X2_begin (0, 0) 17 [.ref r0, qU, qU, .int l3] [] h v h1 := by
  intro n
  induction n with
  | zero =>
    intro r0 hr0 l3 h h2 hf v h1 hE
    exact absurd hf (by simp [f_X2_begin_L17])
  | succ n ih =>
    intro r0 hr0 l3 h h2 hf v h1 hE
    unfold f_X2_begin_L17 at hf
    refine R_ldI rfl rfl ?_
    refine R_ldA rfl rfl ?_
    refine R_get rfl hr0.1 rfl rfl ?_
    refine R_len (z := (24 : Int32)) rfl hr0.2 rfl ?_
    rcases qite hf with ⟨c388, hf⟩ | ⟨c388, hf⟩
    · refine R_CmGe_t rfl c388 ?_
      refine R_drop [false, true, true, false] (ls' := [qU, qU, qU, qU]) rfl ?_
      obtain rfl := Option.some.inj hf
      exact hE
    · refine R_CmGe_f rfl c388 ?_
      refine R_ldA rfl rfl ?_
      refine R_get rfl hr0.1 rfl rfl ?_
      refine R_ldI rfl rfl ?_
      refine R_I rfl ?_
      obtain ⟨c389, hf⟩ := qchk hf
      refine R_ast rfl hr0.2 c389 ?_
      refine R_inc (ls' := [.ref r0, qU, qU, .int (l3 + (1 : Int32))]) rfl rfl rfl rfl ?_
      refine R_goto rfl ?_
      exact ih r0 hr0 (l3 + (1 : Int32)) (qup h (r0 + 1) l3.toNatClampNeg (0 : Int32)) _ hf _ _ hE
def f_X2_begin (N : Nat) (t : Nat) (a1 : Int32) (a2 : Int32) (h : qN) : Option (qN) :=
  qbind (f_X2_begin_L17 N t N (0 : Int32) (qup (qup (qup h t 1 (0 : Int32)) t 2 a1) t 3 a2)) fun h391 =>
  some h391
set_option maxRecDepth 100000 in
theorem t_X2_begin {d N : Nat} (hd : 1 ≤ d) (t : Nat) (a1 : Int32) (a2 : Int32) (ht : isT t) (h : qN) {h1 : qN} (hf : f_X2_begin N t a1 a2 h = some h1) : EE d 32 [.ref t, .int a1, .int a2] h none h1 := by
  obtain ⟨d, rfl⟩ : ∃ d0, d = d0 + 1 := ⟨d - 1, by omega⟩
  unfold f_X2_begin at hf
  refine E_intro qm_32 qc_32 (Nat.le_of_ble_eq_true rfl) rfl rfl ?_
  show RR d cd_X2_begin (0, 0) 0 [.ref t, .int a1, .int a2, qU] [] h none h1
  refine R_ldA rfl rfl ?_
  refine R_I rfl ?_
  refine R_putZ rfl ht.1 rfl (by decide) ?_
  refine R_ldA rfl rfl ?_
  refine R_ldI rfl rfl ?_
  refine R_putI rfl ht.1 rfl ?_
  refine R_ldA rfl rfl ?_
  refine R_ldI rfl rfl ?_
  refine R_putI rfl ht.1 rfl ?_
  refine R_I rfl ?_
  refine R_stI (ls' := [.ref t, .int a1, .int a2, .int (0 : Int32)]) rfl rfl rfl rfl ?_
  refine R_drop [true, false, false, true] (ls' := [.ref t, qU, qU, .int (0 : Int32)]) rfl ?_
  obtain ⟨h391, e392, hf⟩ := qbind_some hf
  refine t_X2_begin_L17 (N := N) (by omega) _ t ht (0 : Int32) (qup (qup (qup h t 1 (0 : Int32)) t 2 a1) t 3 a2) h391 e392 _ _ ?_
  obtain rfl := Option.some.inj hf
  exact R_retV rfl
def f_X2_refuses (t : Nat) (a1 : Int32) (h : qN) : Option (Int32 × qN) :=
  if (h t 1) = 0 then
    if (h t 2) = a1 then
      some ((0 : Int32), h)
    else
      some ((-12 : Int32), h)
  else
    some ((-11 : Int32), h)
set_option maxRecDepth 100000 in
theorem t_X2_refuses {d : Nat} (hd : 1 ≤ d) (t : Nat) (a1 : Int32) (ht : isT t) (h : qN) {v0 : Int32} {h1 : qN} (hf : f_X2_refuses t a1 h = some (v0, h1)) : EE d 33 [.ref t, .int a1] h (some (.int v0)) h1 := by
  obtain ⟨d, rfl⟩ : ∃ d0, d = d0 + 1 := ⟨d - 1, by omega⟩
  unfold f_X2_refuses at hf
  refine E_intro qm_33 qc_33 (Nat.le_of_ble_eq_true rfl) rfl rfl ?_
  show RR d cd_X2_refuses (0, 0) 0 [.ref t, .int a1] [] h (some (.int v0)) h1
  refine R_ldA rfl rfl ?_
  refine R_get rfl ht.1 rfl rfl ?_
  rcases qite hf with ⟨c395, hf⟩ | ⟨c395, hf⟩
  · refine R_IfEq_t rfl c395 ?_
    refine R_ldA rfl rfl ?_
    refine R_get rfl ht.1 rfl rfl ?_
    refine R_ldI rfl rfl ?_
    rcases qite hf with ⟨c396, hf⟩ | ⟨c396, hf⟩
    · refine R_CmNe_f rfl c396 ?_
      refine R_I rfl ?_
      refine R_goto rfl ?_
      obtain ⟨rfl, rfl⟩ := qinj2 hf
      exact R_retI rfl
    · refine R_CmNe_t rfl c396 ?_
      refine R_I rfl ?_
      obtain ⟨rfl, rfl⟩ := qinj2 hf
      exact R_retI rfl
  · refine R_IfEq_f rfl c395 ?_
    refine R_I rfl ?_
    obtain ⟨rfl, rfl⟩ := qinj2 hf
    exact R_retI rfl
def f_X2_holds (t : Nat) (a1 : Int32) (a2 : Int32) (h : qN) : Option (Int32 × qN) :=
  if a1 < 0 then
    some ((0 : Int32), h)
  else
    if a2 < 0 then
      some ((0 : Int32), h)
    else
      if ((h t 3) - a2) < a1 then
        some ((0 : Int32), h)
      else
        some ((1 : Int32), h)
set_option maxRecDepth 100000 in
theorem t_X2_holds {d : Nat} (hd : 1 ≤ d) (t : Nat) (a1 : Int32) (a2 : Int32) (ht : isT t) (h : qN) {v0 : Int32} {h1 : qN} (hf : f_X2_holds t a1 a2 h = some (v0, h1)) : EE d 34 [.ref t, .int a1, .int a2] h (some (.int v0)) h1 := by
  obtain ⟨d, rfl⟩ : ∃ d0, d = d0 + 1 := ⟨d - 1, by omega⟩
  unfold f_X2_holds at hf
  refine E_intro qm_34 qc_34 (Nat.le_of_ble_eq_true rfl) rfl rfl ?_
  show RR d cd_X2_holds (0, 0) 0 [.ref t, .int a1, .int a2] [] h (some (.int v0)) h1
  refine R_ldI rfl rfl ?_
  rcases qite hf with ⟨c397, hf⟩ | ⟨c397, hf⟩
  · refine R_IfLt_t rfl c397 ?_
    refine R_I rfl ?_
    obtain ⟨rfl, rfl⟩ := qinj2 hf
    exact R_retZ rfl (by decide)
  · refine R_IfLt_f rfl c397 ?_
    refine R_ldI rfl rfl ?_
    rcases qite hf with ⟨c398, hf⟩ | ⟨c398, hf⟩
    · refine R_IfLt_t rfl c398 ?_
      refine R_I rfl ?_
      obtain ⟨rfl, rfl⟩ := qinj2 hf
      exact R_retZ rfl (by decide)
    · refine R_IfLt_f rfl c398 ?_
      refine R_ldI rfl rfl ?_
      refine R_ldA rfl rfl ?_
      refine R_get rfl ht.1 rfl rfl ?_
      refine R_ldI rfl rfl ?_
      refine R_bin rfl ?_
      rcases qite hf with ⟨c399, hf⟩ | ⟨c399, hf⟩
      · refine R_CmGt_t rfl c399 ?_
        refine R_I rfl ?_
        obtain ⟨rfl, rfl⟩ := qinj2 hf
        exact R_retZ rfl (by decide)
      · refine R_CmGt_f rfl c399 ?_
        refine R_I rfl ?_
        refine R_goto rfl ?_
        obtain ⟨rfl, rfl⟩ := qinj2 hf
        exact R_retZ rfl (by decide)
def f_X2_lowestBits (a0 : Int32) (a1 : Int32) (h : qN) : Option (Int32 × qN) :=
  if a0 = 0 then
    some (a1.toInt8.toInt32, h)
  else
    if a0 = (1 : Int32) then
      some (a1.toInt16.toInt32, h)
    else
      some (a1, h)
set_option maxRecDepth 100000 in
theorem t_X2_lowestBits {d : Nat} (hd : 1 ≤ d) (a0 : Int32) (a1 : Int32)  (h : qN) {v0 : Int32} {h1 : qN} (hf : f_X2_lowestBits a0 a1 h = some (v0, h1)) : EE d 35 [.int a0, .int a1] h (some (.int v0)) h1 := by
  obtain ⟨d, rfl⟩ : ∃ d0, d = d0 + 1 := ⟨d - 1, by omega⟩
  unfold f_X2_lowestBits at hf
  refine E_intro qm_35 qc_35 (Nat.le_of_ble_eq_true rfl) rfl rfl ?_
  show RR d cd_X2_lowestBits (0, 0) 0 [.int a0, .int a1] [] h (some (.int v0)) h1
  refine R_ldI rfl rfl ?_
  rcases qite hf with ⟨c400, hf⟩ | ⟨c400, hf⟩
  · refine R_IfNe_f rfl c400 ?_
    refine R_ldI rfl rfl ?_
    refine R_un rfl ?_
    obtain ⟨rfl, rfl⟩ := qinj2 hf
    exact R_retI rfl
  · refine R_IfNe_t rfl c400 ?_
    refine R_ldI rfl rfl ?_
    refine R_I rfl ?_
    rcases qite hf with ⟨c401, hf⟩ | ⟨c401, hf⟩
    · refine R_CmNe_f rfl c401 ?_
      refine R_ldI rfl rfl ?_
      refine R_un rfl ?_
      refine R_goto rfl ?_
      obtain ⟨rfl, rfl⟩ := qinj2 hf
      exact R_retI rfl
    · refine R_CmNe_t rfl c401 ?_
      refine R_ldI rfl rfl ?_
      obtain ⟨rfl, rfl⟩ := qinj2 hf
      exact R_retI rfl
def f_X3_byteOf (a0 : Int64) (a2 : Int32) (h : qN) : Option (Int32 × qN) :=
  some (((a0 >>> (((8 : Int32) * a2).toInt64 &&& 63)).toInt32 &&& (255 : Int32)), h)
set_option maxRecDepth 100000 in
theorem t_X3_byteOf {d : Nat} (hd : 1 ≤ d) (a0 : Int64) (a2 : Int32)  (h : qN) {v0 : Int32} {h1 : qN} (hf : f_X3_byteOf a0 a2 h = some (v0, h1)) : EE d 37 [.long a0, .int a2] h (some (.int v0)) h1 := by
  obtain ⟨d, rfl⟩ : ∃ d0, d = d0 + 1 := ⟨d - 1, by omega⟩
  unfold f_X3_byteOf at hf
  refine E_intro qm_37 qc_37 (Nat.le_of_ble_eq_true rfl) rfl rfl ?_
  show RR d cd_X3_byteOf (0, 0) 0 [.long a0, qU, .int a2] [] h (some (.int v0)) h1
  refine R_ldL rfl rfl ?_
  refine R_I rfl ?_
  refine R_ldI rfl rfl ?_
  refine R_bin rfl ?_
  refine R_lsh rfl ?_
  refine R_l2i rfl ?_
  refine R_I rfl ?_
  refine R_bin rfl ?_
  obtain ⟨rfl, rfl⟩ := qinj2 hf
  exact R_retI rfl
def f_X3_isPlain_L2 (N : Nat) (l0 : Int64) (l2 : Int32) : Nat → Int32 → qN → Option ((Int32 × qN) ⊕ (qN))
  | 0, _, _ => none
  | n + 1, l3, h =>
    if l2 ≤ l3 then
      some (.inr h)
    else
      qbind (f_X3_byteOf l0 l3 h) fun (x404, h403) =>
      if x404 < (32 : Int32) then
        some (.inl ((0 : Int32), h403))
      else
        if x404 ≤ (126 : Int32) then
          f_X3_isPlain_L2 N l0 l2 n (l3 + (1 : Int32)) h403
        else
          some (.inl ((0 : Int32), h403))
set_option maxRecDepth 100000 in
theorem t_X3_isPlain_L2 {d N : Nat} (hd : 1 ≤ d) : ∀ (n : Nat) (l0 : Int64) (l2 : Int32) (l3 : Int32) (h : qN) (res : (Int32 × qN) ⊕ (qN)), f_X3_isPlain_L2 N l0 l2 n l3 h = some res → ∀ (v : Option Value) (h1 : qN), (∀ (rv : Int32) (rh : qN), res = .inl (rv, rh) → v = some (.int rv) ∧ h1 = rh) → (∀ (h2 : qN), res = .inr h2 → RR d cd_X3_isPlain (0, 0) 36 [qU, qU, qU, qU, qU] [] h2 v h1) → RR d cd_X3_isPlain (0, 0) 2 [.long l0, qU, .int l2, .int l3, qU] [] h v h1 := by
  intro n
  induction n with
  | zero =>
    intro l0 l2 l3 h res hf v h1 hR hE
    exact absurd hf (by simp [f_X3_isPlain_L2])
  | succ n ih =>
    intro l0 l2 l3 h res hf v h1 hR hE
    unfold f_X3_isPlain_L2 at hf
    refine R_ldI rfl rfl ?_
    refine R_ldI rfl rfl ?_
    rcases qite hf with ⟨c402, hf⟩ | ⟨c402, hf⟩
    · refine R_CmGe_t rfl c402 ?_
      refine R_drop [false, true, false, false, true] (ls' := [qU, qU, qU, qU, qU]) rfl ?_
      obtain rfl := Option.some.inj hf
      exact hE _ rfl
    · refine R_CmGe_f rfl c402 ?_
      refine R_ldL rfl rfl ?_
      refine R_ldI rfl rfl ?_
      obtain ⟨⟨x404, h403⟩, e405, hf⟩ := qbind_some hf
      dsimp only at hf
      refine R_callSi (as := [.long l0, .int l3]) (rest := []) rfl rfl rfl rfl rfl rfl (t_X3_byteOf (by omega) l0 l3 h e405) ?_
      refine R_stI (ls' := [.long l0, qU, .int l2, .int l3, .int x404]) rfl rfl rfl rfl ?_
      refine R_ldI rfl rfl ?_
      refine R_I rfl ?_
      rcases qite hf with ⟨c406, hf⟩ | ⟨c406, hf⟩
      · refine R_CmLt_t rfl c406 ?_
        refine R_I rfl ?_
        obtain rfl := Option.some.inj hf
        obtain ⟨rfl, rfl⟩ := hR _ _ rfl
        exact R_retZ rfl (by decide)
      · refine R_CmLt_f rfl c406 ?_
        refine R_ldI rfl rfl ?_
        refine R_I rfl ?_
        rcases qite hf with ⟨c407, hf⟩ | ⟨c407, hf⟩
        · refine R_CmLe_t rfl c407 ?_
          refine R_inc (ls' := [.long l0, qU, .int l2, .int (l3 + (1 : Int32)), .int x404]) rfl rfl rfl rfl ?_
          refine R_goto rfl ?_
          refine R_drop [true, true, true, true, false] (ls' := [.long l0, qU, .int l2, .int (l3 + (1 : Int32)), qU]) rfl ?_
          exact ih l0 l2 (l3 + (1 : Int32)) h403 _ hf _ _ hR hE
        · refine R_CmLe_f rfl c407 ?_
          refine R_I rfl ?_
          obtain rfl := Option.some.inj hf
          obtain ⟨rfl, rfl⟩ := hR _ _ rfl
          exact R_retZ rfl (by decide)
def f_X3_isPlain (N : Nat) (a0 : Int64) (a2 : Int32) (h : qN) : Option (Int32 × qN) :=
  qbind (f_X3_isPlain_L2 N a0 a2 N (0 : Int32) h) fun
    | .inl (x411, h412) => some (x411, h412)
    | .inr h409 =>
      some ((1 : Int32), h409)
set_option maxRecDepth 100000 in
theorem t_X3_isPlain {d N : Nat} (hd : 2 ≤ d) (a0 : Int64) (a2 : Int32)  (h : qN) {v0 : Int32} {h1 : qN} (hf : f_X3_isPlain N a0 a2 h = some (v0, h1)) : EE d 38 [.long a0, .int a2] h (some (.int v0)) h1 := by
  obtain ⟨d, rfl⟩ : ∃ d0, d = d0 + 1 := ⟨d - 1, by omega⟩
  unfold f_X3_isPlain at hf
  refine E_intro qm_38 qc_38 (Nat.le_of_ble_eq_true rfl) rfl rfl ?_
  show RR d cd_X3_isPlain (0, 0) 0 [.long a0, qU, .int a2, qU, qU] [] h (some (.int v0)) h1
  refine R_I rfl ?_
  refine R_stI (ls' := [.long a0, qU, .int a2, .int (0 : Int32), qU]) rfl rfl rfl rfl ?_
  obtain ⟨⟨x411, h412⟩ | h409, e410, hf⟩ := qbind_some hf
  · dsimp only at hf
    refine t_X3_isPlain_L2 (N := N) (by omega) _ a0 a2 (0 : Int32) h _ e410 _ _ (fun rv rh he => ?_) (fun _ he => by cases he)
    cases he
    obtain ⟨rfl, rfl⟩ := qinj2 hf
    exact ⟨rfl, rfl⟩
  · dsimp only at hf
    refine t_X3_isPlain_L2 (N := N) (by omega) _ a0 a2 (0 : Int32) h _ e410 _ _ (fun _ _ he => by cases he) (fun z0 he => ?_)
    cases he
    refine R_I rfl ?_
    obtain ⟨rfl, rfl⟩ := qinj2 hf
    exact R_retZ rfl (by decide)
def f_X3_add_L5 (N : Nat) (l1 : Int64) : Nat → Int32 → qN → Option (qN)
  | 0, _, _ => none
  | n + 1, l4, h =>
    if l4 < 0 then
      some h
    else
      if (80 : Int32) ≤ (h 48 2) then
        some h
      else
        qbind (f_X3_byteOf l1 l4 h) fun (x416, h415) =>
        if (h 48 2) < 0 ∨ 80 ≤ (h 48 2).toNatClampNeg then none else
        f_X3_add_L5 N l1 n (l4 + (-1 : Int32)) (qup (qup h415 49 (h 48 2).toNatClampNeg x416) 48 2 (((qup h415 49 (h 48 2).toNatClampNeg x416) 48 2) + (1 : Int32)))
set_option maxRecDepth 100000 in
theorem t_X3_add_L5 {d N : Nat} (hd : 1 ≤ d) : ∀ (n : Nat) (l1 : Int64) (l4 : Int32) (h : qN) (h2 : qN), f_X3_add_L5 N l1 n l4 h = some h2 → ∀ (v : Option Value) (h1 : qN), RR d cd_X3_add (0, 0) 53 [qU, qU, qU, qU, qU] [] h2 v h1 → RR d cd_X3_add (0, 0) 5 [.ref 48, .long l1, qU, qU, .int l4] [] h v h1 := by
  intro n
  induction n with
  | zero =>
    intro l1 l4 h h2 hf v h1 hE
    exact absurd hf (by simp [f_X3_add_L5])
  | succ n ih =>
    intro l1 l4 h h2 hf v h1 hE
    unfold f_X3_add_L5 at hf
    refine R_ldI rfl rfl ?_
    rcases qite hf with ⟨c413, hf⟩ | ⟨c413, hf⟩
    · refine R_IfLt_t rfl c413 ?_
      refine R_drop [false, false, true, true, false] (ls' := [qU, qU, qU, qU, qU]) rfl ?_
      obtain rfl := Option.some.inj hf
      exact hE
    · refine R_IfLt_f rfl c413 ?_
      refine R_ldA rfl rfl ?_
      refine R_get rfl sh_48 rfl rfl ?_
      refine R_ldA rfl rfl ?_
      refine R_get rfl sh_48 rfl rfl ?_
      refine R_len (z := (80 : Int32)) rfl sh_49 rfl ?_
      rcases qite hf with ⟨c414, hf⟩ | ⟨c414, hf⟩
      · refine R_CmGe_t rfl c414 ?_
        refine R_drop [false, false, true, true, false] (ls' := [qU, qU, qU, qU, qU]) rfl ?_
        obtain rfl := Option.some.inj hf
        exact hE
      · refine R_CmGe_f rfl c414 ?_
        refine R_ldA rfl rfl ?_
        refine R_get rfl sh_48 rfl rfl ?_
        refine R_ldA rfl rfl ?_
        refine R_get rfl sh_48 rfl rfl ?_
        refine R_ldL rfl rfl ?_
        refine R_ldI rfl rfl ?_
        obtain ⟨⟨x416, h415⟩, e417, hf⟩ := qbind_some hf
        dsimp only at hf
        refine R_callSi (as := [.long l1, .int l4]) (rest := [.int (h 48 2), .ref 49]) rfl rfl rfl rfl rfl rfl (t_X3_byteOf (by omega) l1 l4 h e417) ?_
        obtain ⟨c418, hf⟩ := qchk hf
        refine R_ast rfl sh_49 c418 ?_
        refine R_ldA rfl rfl ?_
        refine R_dup rfl rfl ?_
        refine R_get rfl sh_48 rfl rfl ?_
        refine R_I rfl ?_
        refine R_bin rfl ?_
        refine R_putI rfl sh_48 rfl ?_
        refine R_inc (ls' := [.ref 48, .long l1, qU, qU, .int (l4 + (-1 : Int32))]) rfl rfl rfl rfl ?_
        refine R_goto rfl ?_
        exact ih l1 (l4 + (-1 : Int32)) (qup (qup h415 49 (h 48 2).toNatClampNeg x416) 48 2 (((qup h415 49 (h 48 2).toNatClampNeg x416) 48 2) + (1 : Int32))) _ hf _ _ hE
def f_X3_add (N : Nat) (a1 : Int64) (a3 : Int32) (h : qN) : Option (qN) :=
  qbind (f_X3_add_L5 N a1 N (a3 - (1 : Int32)) h) fun h420 =>
  some h420
set_option maxRecDepth 100000 in
theorem t_X3_add {d N : Nat} (hd : 2 ≤ d) (a1 : Int64) (a3 : Int32)  (h : qN) {h1 : qN} (hf : f_X3_add N a1 a3 h = some h1) : EE d 39 [.ref 48, .long a1, .int a3] h none h1 := by
  obtain ⟨d, rfl⟩ : ∃ d0, d = d0 + 1 := ⟨d - 1, by omega⟩
  unfold f_X3_add at hf
  refine E_intro qm_39 qc_39 (Nat.le_of_ble_eq_true rfl) rfl rfl ?_
  show RR d cd_X3_add (0, 0) 0 [.ref 48, .long a1, qU, .int a3, qU] [] h none h1
  refine R_ldI rfl rfl ?_
  refine R_I rfl ?_
  refine R_bin rfl ?_
  refine R_stI (ls' := [.ref 48, .long a1, qU, .int a3, .int (a3 - (1 : Int32))]) rfl rfl rfl rfl ?_
  refine R_drop [true, true, true, false, true] (ls' := [.ref 48, .long a1, qU, qU, .int (a3 - (1 : Int32))]) rfl ?_
  obtain ⟨h420, e421, hf⟩ := qbind_some hf
  refine t_X3_add_L5 (N := N) (by omega) _ a1 (a3 - (1 : Int32)) h h420 e421 _ _ ?_
  obtain rfl := Option.some.inj hf
  exact R_retV rfl
def f_X3_nextSign_L0 (N : Nat) : Nat → qN → Option (qN)
  | 0, _ => none
  | n + 1, h =>
    if (h 48 2) ≤ (h 48 1) then
      some h
    else
      if (h 48 1) < 0 ∨ 80 ≤ (h 48 1).toNatClampNeg then none else
      if (h 49 (h 48 1).toNatClampNeg) = (32 : Int32) then
        f_X3_nextSign_L0 N n (qup h 48 1 ((h 48 1) + (1 : Int32)))
      else
        some h
set_option maxRecDepth 100000 in
theorem t_X3_nextSign_L0 {d N : Nat} (hd : 0 ≤ d) : ∀ (n : Nat) (h : qN) (h2 : qN), f_X3_nextSign_L0 N n h = some h2 → ∀ (v : Option Value) (h1 : qN), RR d cd_X3_nextSign (0, 0) 38 [.ref 48] [] h2 v h1 → RR d cd_X3_nextSign (0, 0) 0 [.ref 48] [] h v h1 := by
  intro n
  induction n with
  | zero =>
    intro h h2 hf v h1 hE
    exact absurd hf (by simp [f_X3_nextSign_L0])
  | succ n ih =>
    intro h h2 hf v h1 hE
    unfold f_X3_nextSign_L0 at hf
    refine R_ldA rfl rfl ?_
    refine R_get rfl sh_48 rfl rfl ?_
    refine R_ldA rfl rfl ?_
    refine R_get rfl sh_48 rfl rfl ?_
    rcases qite hf with ⟨c424, hf⟩ | ⟨c424, hf⟩
    · refine R_CmGe_t rfl c424 ?_
      obtain rfl := Option.some.inj hf
      exact hE
    · refine R_CmGe_f rfl c424 ?_
      refine R_ldA rfl rfl ?_
      refine R_get rfl sh_48 rfl rfl ?_
      refine R_ldA rfl rfl ?_
      refine R_get rfl sh_48 rfl rfl ?_
      obtain ⟨c425, hf⟩ := qchk hf
      refine R_ald rfl sh_49 c425 ?_
      refine R_I rfl ?_
      rcases qite hf with ⟨c426, hf⟩ | ⟨c426, hf⟩
      · refine R_CmNe_f rfl c426 ?_
        refine R_ldA rfl rfl ?_
        refine R_dup rfl rfl ?_
        refine R_get rfl sh_48 rfl rfl ?_
        refine R_I rfl ?_
        refine R_bin rfl ?_
        refine R_putI rfl sh_48 rfl ?_
        refine R_goto rfl ?_
        exact ih  (qup h 48 1 ((h 48 1) + (1 : Int32))) _ hf _ _ hE
      · refine R_CmNe_t rfl c426 ?_
        obtain rfl := Option.some.inj hf
        exact hE
def f_X3_nextSign (N : Nat) (h : qN) : Option (Int32 × qN) :=
  qbind (f_X3_nextSign_L0 N N h) fun h428 =>
  if (h428 48 2) ≤ (h428 48 1) then
    some ((-1 : Int32), h428)
  else
    if (h428 48 1) < 0 ∨ 80 ≤ (h428 48 1).toNatClampNeg then none else
    some ((h428 49 (h428 48 1).toNatClampNeg), h428)
set_option maxRecDepth 100000 in
theorem t_X3_nextSign {d N : Nat} (hd : 1 ≤ d)   (h : qN) {v0 : Int32} {h1 : qN} (hf : f_X3_nextSign N  h = some (v0, h1)) : EE d 40 [.ref 48] h (some (.int v0)) h1 := by
  obtain ⟨d, rfl⟩ : ∃ d0, d = d0 + 1 := ⟨d - 1, by omega⟩
  unfold f_X3_nextSign at hf
  refine E_intro qm_40 qc_40 (Nat.le_of_ble_eq_true rfl) rfl rfl ?_
  show RR d cd_X3_nextSign (0, 0) 0 [.ref 48] [] h (some (.int v0)) h1
  obtain ⟨h428, e429, hf⟩ := qbind_some hf
  refine t_X3_nextSign_L0 (N := N) (by omega) _  h h428 e429 _ _ ?_
  refine R_ldA rfl rfl ?_
  refine R_get rfl sh_48 rfl rfl ?_
  refine R_ldA rfl rfl ?_
  refine R_get rfl sh_48 rfl rfl ?_
  rcases qite hf with ⟨c430, hf⟩ | ⟨c430, hf⟩
  · refine R_CmGe_t rfl c430 ?_
    refine R_I rfl ?_
    obtain ⟨rfl, rfl⟩ := qinj2 hf
    exact R_retI rfl
  · refine R_CmGe_f rfl c430 ?_
    refine R_ldA rfl rfl ?_
    refine R_get rfl sh_48 rfl rfl ?_
    refine R_ldA rfl rfl ?_
    refine R_get rfl sh_48 rfl rfl ?_
    obtain ⟨c431, hf⟩ := qchk hf
    refine R_ald rfl sh_49 c431 ?_
    refine R_goto rfl ?_
    obtain ⟨rfl, rfl⟩ := qinj2 hf
    exact R_retI rfl
def f_X3_fault (h : qN) : Option (Int32 × qN) :=
  some (((-20 : Int32) - (h 48 1)), h)
set_option maxRecDepth 100000 in
theorem t_X3_fault {d : Nat} (hd : 1 ≤ d)   (h : qN) {v0 : Int32} {h1 : qN} (hf : f_X3_fault  h = some (v0, h1)) : EE d 41 [.ref 48] h (some (.int v0)) h1 := by
  obtain ⟨d, rfl⟩ : ∃ d0, d = d0 + 1 := ⟨d - 1, by omega⟩
  unfold f_X3_fault at hf
  refine E_intro qm_41 qc_41 (Nat.le_of_ble_eq_true rfl) rfl rfl ?_
  show RR d cd_X3_fault (0, 0) 0 [.ref 48] [] h (some (.int v0)) h1
  refine R_I rfl ?_
  refine R_ldA rfl rfl ?_
  refine R_get rfl sh_48 rfl rfl ?_
  refine R_bin rfl ?_
  obtain ⟨rfl, rfl⟩ := qinj2 hf
  exact R_retI rfl
def f_X3_readThing_L61 (N : Nat) (l1 : Int32) : Nat → Int32 → qN → Option ((Int32 × qN) ⊕ (qN))
  | 0, _, _ => none
  | n + 1, l3, h =>
    if (7 : Int32) ≤ l3 then
      some (.inr h)
    else
      qbind (f_X3_nextSign N  h) fun (x441, h440) =>
      if x441 < (48 : Int32) then
        some (.inl ((0 : Int32), h440))
      else
        if x441 ≤ (57 : Int32) then
          if (l1 + l3) < 0 ∨ 56 ≤ (l1 + l3).toNatClampNeg then none else
          f_X3_readThing_L61 N l1 n (l3 + (1 : Int32)) (qup (qup h440 50 (l1 + l3).toNatClampNeg (x441 - (48 : Int32))) 48 1 (((qup h440 50 (l1 + l3).toNatClampNeg (x441 - (48 : Int32))) 48 1) + (1 : Int32)))
        else
          some (.inl ((0 : Int32), h440))
set_option maxRecDepth 100000 in
theorem t_X3_readThing_L61 {d N : Nat} (hd : 1 ≤ d) : ∀ (n : Nat) (l1 : Int32) (l3 : Int32) (h : qN) (res : (Int32 × qN) ⊕ (qN)), f_X3_readThing_L61 N l1 n l3 h = some res → ∀ (v : Option Value) (h1 : qN), (∀ (rv : Int32) (rh : qN), res = .inl (rv, rh) → v = some (.int rv) ∧ h1 = rh) → (∀ (h2 : qN), res = .inr h2 → RR d cd_X3_readThing (0, 0) 114 [qU, qU, qU, qU] [] h2 v h1) → RR d cd_X3_readThing (0, 0) 61 [.ref 48, .int l1, qU, .int l3] [] h v h1 := by
  intro n
  induction n with
  | zero =>
    intro l1 l3 h res hf v h1 hR hE
    exact absurd hf (by simp [f_X3_readThing_L61])
  | succ n ih =>
    intro l1 l3 h res hf v h1 hR hE
    unfold f_X3_readThing_L61 at hf
    refine R_ldI rfl rfl ?_
    refine R_I rfl ?_
    rcases qite hf with ⟨c439, hf⟩ | ⟨c439, hf⟩
    · refine R_CmGe_t rfl c439 ?_
      refine R_drop [false, false, true, false] (ls' := [qU, qU, qU, qU]) rfl ?_
      obtain rfl := Option.some.inj hf
      exact hE _ rfl
    · refine R_CmGe_f rfl c439 ?_
      refine R_ldA rfl rfl ?_
      obtain ⟨⟨x441, h440⟩, e442, hf⟩ := qbind_some hf
      dsimp only at hf
      refine R_callVi (as := [.ref 48]) (rest := []) rfl rfl sh_48 rfl rfl rfl rfl (t_X3_nextSign (N := N) (by omega)  h e442) ?_
      refine R_stI (ls' := [.ref 48, .int l1, .int x441, .int l3]) rfl rfl rfl rfl ?_
      refine R_ldI rfl rfl ?_
      refine R_I rfl ?_
      rcases qite hf with ⟨c443, hf⟩ | ⟨c443, hf⟩
      · refine R_CmLt_t rfl c443 ?_
        refine R_I rfl ?_
        obtain rfl := Option.some.inj hf
        obtain ⟨rfl, rfl⟩ := hR _ _ rfl
        exact R_retZ rfl (by decide)
      · refine R_CmLt_f rfl c443 ?_
        refine R_ldI rfl rfl ?_
        refine R_I rfl ?_
        rcases qite hf with ⟨c444, hf⟩ | ⟨c444, hf⟩
        · refine R_CmLe_t rfl c444 ?_
          refine R_ldA rfl rfl ?_
          refine R_get rfl sh_48 rfl rfl ?_
          refine R_ldI rfl rfl ?_
          refine R_ldI rfl rfl ?_
          refine R_bin rfl ?_
          refine R_ldI rfl rfl ?_
          refine R_I rfl ?_
          refine R_bin rfl ?_
          obtain ⟨c445, hf⟩ := qchk hf
          refine R_ast rfl sh_50 c445 ?_
          refine R_ldA rfl rfl ?_
          refine R_dup rfl rfl ?_
          refine R_get rfl sh_48 rfl rfl ?_
          refine R_I rfl ?_
          refine R_bin rfl ?_
          refine R_putI rfl sh_48 rfl ?_
          refine R_inc (ls' := [.ref 48, .int l1, .int x441, .int (l3 + (1 : Int32))]) rfl rfl rfl rfl ?_
          refine R_goto rfl ?_
          refine R_drop [true, true, false, true] (ls' := [.ref 48, .int l1, qU, .int (l3 + (1 : Int32))]) rfl ?_
          exact ih l1 (l3 + (1 : Int32)) (qup (qup h440 50 (l1 + l3).toNatClampNeg (x441 - (48 : Int32))) 48 1 (((qup h440 50 (l1 + l3).toNatClampNeg (x441 - (48 : Int32))) 48 1) + (1 : Int32))) _ hf _ _ hR hE
        · refine R_CmLe_f rfl c444 ?_
          refine R_I rfl ?_
          obtain rfl := Option.some.inj hf
          obtain ⟨rfl, rfl⟩ := hR _ _ rfl
          exact R_retZ rfl (by decide)
def f_X3_readThing (N : Nat) (a1 : Int32) (h : qN) : Option (Int32 × qN) :=
  qbind (f_X3_nextSign N  h) fun (x435, h434) =>
  if x435 = (45 : Int32) then
    if a1 < 0 ∨ 56 ≤ a1.toNatClampNeg then none else
    qbind (f_X3_readThing_L61 N a1 N (1 : Int32) (qup (qup h434 50 a1.toNatClampNeg (6 : Int32)) 48 1 (((qup h434 50 a1.toNatClampNeg (6 : Int32)) 48 1) + (1 : Int32)))) fun
      | .inl (x449, h450) => some (x449, h450)
      | .inr h447 =>
        some ((1 : Int32), h447)
  else
    if x435 < (48 : Int32) then
      some ((0 : Int32), h434)
    else
      if (54 : Int32) ≤ x435 then
        some ((0 : Int32), h434)
      else
        if a1 < 0 ∨ 56 ≤ a1.toNatClampNeg then none else
        qbind (f_X3_readThing_L61 N a1 N (1 : Int32) (qup (qup h434 50 a1.toNatClampNeg (x435 - (48 : Int32))) 48 1 (((qup h434 50 a1.toNatClampNeg (x435 - (48 : Int32))) 48 1) + (1 : Int32)))) fun
          | .inl (x456, h457) => some (x456, h457)
          | .inr h454 =>
            some ((1 : Int32), h454)
set_option maxRecDepth 100000 in
theorem t_X3_readThing {d N : Nat} (hd : 2 ≤ d) (a1 : Int32)  (h : qN) {v0 : Int32} {h1 : qN} (hf : f_X3_readThing N a1 h = some (v0, h1)) : EE d 43 [.ref 48, .int a1] h (some (.int v0)) h1 := by
  obtain ⟨d, rfl⟩ : ∃ d0, d = d0 + 1 := ⟨d - 1, by omega⟩
  unfold f_X3_readThing at hf
  refine E_intro qm_43 qc_43 (Nat.le_of_ble_eq_true rfl) rfl rfl ?_
  show RR d cd_X3_readThing (0, 0) 0 [.ref 48, .int a1, qU, qU] [] h (some (.int v0)) h1
  refine R_ldA rfl rfl ?_
  obtain ⟨⟨x435, h434⟩, e436, hf⟩ := qbind_some hf
  dsimp only at hf
  refine R_callVi (as := [.ref 48]) (rest := []) rfl rfl sh_48 rfl rfl rfl rfl (t_X3_nextSign (N := N) (by omega)  h e436) ?_
  refine R_stI (ls' := [.ref 48, .int a1, .int x435, qU]) rfl rfl rfl rfl ?_
  refine R_ldI rfl rfl ?_
  refine R_I rfl ?_
  rcases qite hf with ⟨c437, hf⟩ | ⟨c437, hf⟩
  · refine R_CmNe_f rfl c437 ?_
    refine R_ldA rfl rfl ?_
    refine R_get rfl sh_48 rfl rfl ?_
    refine R_ldI rfl rfl ?_
    refine R_I rfl ?_
    obtain ⟨c438, hf⟩ := qchk hf
    refine R_ast rfl sh_50 c438 ?_
    refine R_goto rfl ?_
    refine R_ldA rfl rfl ?_
    refine R_dup rfl rfl ?_
    refine R_get rfl sh_48 rfl rfl ?_
    refine R_I rfl ?_
    refine R_bin rfl ?_
    refine R_putI rfl sh_48 rfl ?_
    refine R_I rfl ?_
    refine R_stI (ls' := [.ref 48, .int a1, .int x435, .int (1 : Int32)]) rfl rfl rfl rfl ?_
    refine R_drop [true, true, false, true] (ls' := [.ref 48, .int a1, qU, .int (1 : Int32)]) rfl ?_
    obtain ⟨⟨x449, h450⟩ | h447, e448, hf⟩ := qbind_some hf
    · dsimp only at hf
      refine t_X3_readThing_L61 (N := N) (by omega) _ a1 (1 : Int32) (qup (qup h434 50 a1.toNatClampNeg (6 : Int32)) 48 1 (((qup h434 50 a1.toNatClampNeg (6 : Int32)) 48 1) + (1 : Int32))) _ e448 _ _ (fun rv rh he => ?_) (fun _ he => by cases he)
      cases he
      obtain ⟨rfl, rfl⟩ := qinj2 hf
      exact ⟨rfl, rfl⟩
    · dsimp only at hf
      refine t_X3_readThing_L61 (N := N) (by omega) _ a1 (1 : Int32) (qup (qup h434 50 a1.toNatClampNeg (6 : Int32)) 48 1 (((qup h434 50 a1.toNatClampNeg (6 : Int32)) 48 1) + (1 : Int32))) _ e448 _ _ (fun _ _ he => by cases he) (fun z0 he => ?_)
      cases he
      refine R_I rfl ?_
      obtain ⟨rfl, rfl⟩ := qinj2 hf
      exact R_retZ rfl (by decide)
  · refine R_CmNe_t rfl c437 ?_
    refine R_ldI rfl rfl ?_
    refine R_I rfl ?_
    rcases qite hf with ⟨c451, hf⟩ | ⟨c451, hf⟩
    · refine R_CmLt_t rfl c451 ?_
      refine R_I rfl ?_
      obtain ⟨rfl, rfl⟩ := qinj2 hf
      exact R_retZ rfl (by decide)
    · refine R_CmLt_f rfl c451 ?_
      refine R_ldI rfl rfl ?_
      refine R_I rfl ?_
      rcases qite hf with ⟨c452, hf⟩ | ⟨c452, hf⟩
      · refine R_CmGe_t rfl c452 ?_
        refine R_I rfl ?_
        obtain ⟨rfl, rfl⟩ := qinj2 hf
        exact R_retZ rfl (by decide)
      · refine R_CmGe_f rfl c452 ?_
        refine R_ldA rfl rfl ?_
        refine R_get rfl sh_48 rfl rfl ?_
        refine R_ldI rfl rfl ?_
        refine R_ldI rfl rfl ?_
        refine R_I rfl ?_
        refine R_bin rfl ?_
        obtain ⟨c453, hf⟩ := qchk hf
        refine R_ast rfl sh_50 c453 ?_
        refine R_goto rfl ?_
        refine R_ldA rfl rfl ?_
        refine R_dup rfl rfl ?_
        refine R_get rfl sh_48 rfl rfl ?_
        refine R_I rfl ?_
        refine R_bin rfl ?_
        refine R_putI rfl sh_48 rfl ?_
        refine R_I rfl ?_
        refine R_stI (ls' := [.ref 48, .int a1, .int x435, .int (1 : Int32)]) rfl rfl rfl rfl ?_
        refine R_drop [true, true, false, true] (ls' := [.ref 48, .int a1, qU, .int (1 : Int32)]) rfl ?_
        obtain ⟨⟨x456, h457⟩ | h454, e455, hf⟩ := qbind_some hf
        · dsimp only at hf
          refine t_X3_readThing_L61 (N := N) (by omega) _ a1 (1 : Int32) (qup (qup h434 50 a1.toNatClampNeg (x435 - (48 : Int32))) 48 1 (((qup h434 50 a1.toNatClampNeg (x435 - (48 : Int32))) 48 1) + (1 : Int32))) _ e455 _ _ (fun rv rh he => ?_) (fun _ he => by cases he)
          cases he
          obtain ⟨rfl, rfl⟩ := qinj2 hf
          exact ⟨rfl, rfl⟩
        · dsimp only at hf
          refine t_X3_readThing_L61 (N := N) (by omega) _ a1 (1 : Int32) (qup (qup h434 50 a1.toNatClampNeg (x435 - (48 : Int32))) 48 1 (((qup h434 50 a1.toNatClampNeg (x435 - (48 : Int32))) 48 1) + (1 : Int32))) _ e455 _ _ (fun _ _ he => by cases he) (fun z0 he => ?_)
          cases he
          refine R_I rfl ?_
          obtain ⟨rfl, rfl⟩ := qinj2 hf
          exact R_retZ rfl (by decide)
def f_X3_readThings_L7 (N : Nat) : Nat → Int32 → qN → Option ((Int32 × qN) ⊕ (qN))
  | 0, _, _ => none
  | n + 1, l1, h =>
    if (8 : Int32) ≤ l1 then
      some (.inr h)
    else
      qbind (f_X3_readThing N (l1 * (7 : Int32)) h) fun (x460, h459) =>
      if x460 = 0 then
        some (.inr h459)
      else
        qbind (f_X3_nextSign N  h459) fun (x464, h463) =>
        if x464 = (-1 : Int32) then
          some (.inl ((l1 + (1 : Int32)), h463))
        else
          if x464 = (59 : Int32) then
            if (l1 + (1 : Int32)) = (8 : Int32) then
              qbind (f_X3_fault  h463) fun (x470, h469) =>
              some (.inl (x470, h469))
            else
              f_X3_readThings_L7 N n (l1 + (1 : Int32)) (qup h463 48 1 ((h463 48 1) + (1 : Int32)))
          else
            qbind (f_X3_fault  h463) fun (x473, h472) =>
            some (.inl (x473, h472))
set_option maxRecDepth 100000 in
theorem t_X3_readThings_L7 {d N : Nat} (hd : 2 ≤ d) : ∀ (n : Nat) (l1 : Int32) (h : qN) (res : (Int32 × qN) ⊕ (qN)), f_X3_readThings_L7 N n l1 h = some res → ∀ (v : Option Value) (h1 : qN), (∀ (rv : Int32) (rh : qN), res = .inl (rv, rh) → v = some (.int rv) ∧ h1 = rh) → (∀ (h2 : qN), res = .inr h2 → RR d cd_X3_readThings (0, 0) 69 [.ref 48, qU, qU] [] h2 v h1) → RR d cd_X3_readThings (0, 0) 7 [.ref 48, .int l1, qU] [] h v h1 := by
  intro n
  induction n with
  | zero =>
    intro l1 h res hf v h1 hR hE
    exact absurd hf (by simp [f_X3_readThings_L7])
  | succ n ih =>
    intro l1 h res hf v h1 hR hE
    unfold f_X3_readThings_L7 at hf
    refine R_ldI rfl rfl ?_
    refine R_I rfl ?_
    rcases qite hf with ⟨c458, hf⟩ | ⟨c458, hf⟩
    · refine R_CmGe_t rfl c458 ?_
      refine R_drop [true, false, true] (ls' := [.ref 48, qU, qU]) rfl ?_
      obtain rfl := Option.some.inj hf
      exact hE _ rfl
    · refine R_CmGe_f rfl c458 ?_
      refine R_ldA rfl rfl ?_
      refine R_ldI rfl rfl ?_
      refine R_I rfl ?_
      refine R_bin rfl ?_
      obtain ⟨⟨x460, h459⟩, e461, hf⟩ := qbind_some hf
      dsimp only at hf
      refine R_callVi (as := [.ref 48, .int (l1 * (7 : Int32))]) (rest := []) rfl rfl sh_48 rfl rfl rfl rfl (t_X3_readThing (N := N) (by omega) (l1 * (7 : Int32)) h e461) ?_
      rcases qite hf with ⟨c462, hf⟩ | ⟨c462, hf⟩
      · refine R_IfEq_t rfl c462 ?_
        refine R_drop [true, false, true] (ls' := [.ref 48, qU, qU]) rfl ?_
        obtain rfl := Option.some.inj hf
        exact hE _ rfl
      · refine R_IfEq_f rfl c462 ?_
        refine R_inc (ls' := [.ref 48, .int (l1 + (1 : Int32)), qU]) rfl rfl rfl rfl ?_
        refine R_ldA rfl rfl ?_
        obtain ⟨⟨x464, h463⟩, e465, hf⟩ := qbind_some hf
        dsimp only at hf
        refine R_callVi (as := [.ref 48]) (rest := []) rfl rfl sh_48 rfl rfl rfl rfl (t_X3_nextSign (N := N) (by omega)  h459 e465) ?_
        refine R_stI (ls' := [.ref 48, .int (l1 + (1 : Int32)), .int x464]) rfl rfl rfl rfl ?_
        refine R_ldI rfl rfl ?_
        refine R_I rfl ?_
        rcases qite hf with ⟨c466, hf⟩ | ⟨c466, hf⟩
        · refine R_CmNe_f rfl c466 ?_
          refine R_ldI rfl rfl ?_
          obtain rfl := Option.some.inj hf
          obtain ⟨rfl, rfl⟩ := hR _ _ rfl
          exact R_retI rfl
        · refine R_CmNe_t rfl c466 ?_
          refine R_ldI rfl rfl ?_
          refine R_I rfl ?_
          rcases qite hf with ⟨c467, hf⟩ | ⟨c467, hf⟩
          · refine R_CmNe_f rfl c467 ?_
            refine R_ldI rfl rfl ?_
            refine R_I rfl ?_
            rcases qite hf with ⟨c468, hf⟩ | ⟨c468, hf⟩
            · refine R_CmNe_f rfl c468 ?_
              refine R_ldA rfl rfl ?_
              obtain ⟨⟨x470, h469⟩, e471, hf⟩ := qbind_some hf
              dsimp only at hf
              refine R_callVi (as := [.ref 48]) (rest := []) rfl rfl sh_48 rfl rfl rfl rfl (t_X3_fault (by omega)  h463 e471) ?_
              obtain rfl := Option.some.inj hf
              obtain ⟨rfl, rfl⟩ := hR _ _ rfl
              exact R_retI rfl
            · refine R_CmNe_t rfl c468 ?_
              refine R_ldA rfl rfl ?_
              refine R_dup rfl rfl ?_
              refine R_get rfl sh_48 rfl rfl ?_
              refine R_I rfl ?_
              refine R_bin rfl ?_
              refine R_putI rfl sh_48 rfl ?_
              refine R_goto rfl ?_
              refine R_drop [true, true, false] (ls' := [.ref 48, .int (l1 + (1 : Int32)), qU]) rfl ?_
              exact ih  (l1 + (1 : Int32)) (qup h463 48 1 ((h463 48 1) + (1 : Int32))) _ hf _ _ hR hE
          · refine R_CmNe_t rfl c467 ?_
            refine R_ldA rfl rfl ?_
            obtain ⟨⟨x473, h472⟩, e474, hf⟩ := qbind_some hf
            dsimp only at hf
            refine R_callVi (as := [.ref 48]) (rest := []) rfl rfl sh_48 rfl rfl rfl rfl (t_X3_fault (by omega)  h463 e474) ?_
            obtain rfl := Option.some.inj hf
            obtain ⟨rfl, rfl⟩ := hR _ _ rfl
            exact R_retI rfl
def f_X3_readThings (N : Nat) (h : qN) : Option (Int32 × qN) :=
  qbind (f_X3_readThings_L7 N N (0 : Int32) (qup h 48 1 (0 : Int32))) fun
    | .inl (x481, h482) => some (x481, h482)
    | .inr h476 =>
      qbind (f_X3_fault  h476) fun (x479, h478) =>
      some (x479, h478)
set_option maxRecDepth 100000 in
theorem t_X3_readThings {d N : Nat} (hd : 3 ≤ d)   (h : qN) {v0 : Int32} {h1 : qN} (hf : f_X3_readThings N  h = some (v0, h1)) : EE d 42 [.ref 48] h (some (.int v0)) h1 := by
  obtain ⟨d, rfl⟩ : ∃ d0, d = d0 + 1 := ⟨d - 1, by omega⟩
  unfold f_X3_readThings at hf
  refine E_intro qm_42 qc_42 (Nat.le_of_ble_eq_true rfl) rfl rfl ?_
  show RR d cd_X3_readThings (0, 0) 0 [.ref 48, qU, qU] [] h (some (.int v0)) h1
  refine R_ldA rfl rfl ?_
  refine R_I rfl ?_
  refine R_putI rfl sh_48 rfl ?_
  refine R_I rfl ?_
  refine R_stI (ls' := [.ref 48, .int (0 : Int32), qU]) rfl rfl rfl rfl ?_
  obtain ⟨⟨x481, h482⟩ | h476, e477, hf⟩ := qbind_some hf
  · dsimp only at hf
    refine t_X3_readThings_L7 (N := N) (by omega) _  (0 : Int32) (qup h 48 1 (0 : Int32)) _ e477 _ _ (fun rv rh he => ?_) (fun _ he => by cases he)
    cases he
    obtain ⟨rfl, rfl⟩ := qinj2 hf
    exact ⟨rfl, rfl⟩
  · dsimp only at hf
    refine t_X3_readThings_L7 (N := N) (by omega) _  (0 : Int32) (qup h 48 1 (0 : Int32)) _ e477 _ _ (fun _ _ he => by cases he) (fun z0 he => ?_)
    cases he
    refine R_ldA rfl rfl ?_
    obtain ⟨⟨x479, h478⟩, e480, hf⟩ := qbind_some hf
    dsimp only at hf
    refine R_callVi (as := [.ref 48]) (rest := []) rfl rfl sh_48 rfl rfl rfl rfl (t_X3_fault (by omega)  h476 e480) ?_
    obtain ⟨rfl, rfl⟩ := qinj2 hf
    exact R_retI rfl
def f_X3_sideOf (a0 : Int32) (a1 : Int32) (h : qN) : Option (Int32 × qN) :=
  if a0 < (97 : Int32) then
    if a0 < (48 : Int32) then
      some ((-1 : Int32), h)
    else
      if (54 : Int32) ≤ a0 then
        some ((-1 : Int32), h)
      else
        some ((((10 : Int32) + a0) - (48 : Int32)), h)
  else
    if ((97 : Int32) + a1) ≤ a0 then
      if a0 < (48 : Int32) then
        some ((-1 : Int32), h)
      else
        if (54 : Int32) ≤ a0 then
          some ((-1 : Int32), h)
        else
          some ((((10 : Int32) + a0) - (48 : Int32)), h)
    else
      some ((a0 - (97 : Int32)), h)
set_option maxRecDepth 100000 in
theorem t_X3_sideOf {d : Nat} (hd : 1 ≤ d) (a0 : Int32) (a1 : Int32)  (h : qN) {v0 : Int32} {h1 : qN} (hf : f_X3_sideOf a0 a1 h = some (v0, h1)) : EE d 46 [.int a0, .int a1] h (some (.int v0)) h1 := by
  obtain ⟨d, rfl⟩ : ∃ d0, d = d0 + 1 := ⟨d - 1, by omega⟩
  unfold f_X3_sideOf at hf
  refine E_intro qm_46 qc_46 (Nat.le_of_ble_eq_true rfl) rfl rfl ?_
  show RR d cd_X3_sideOf (0, 0) 0 [.int a0, .int a1] [] h (some (.int v0)) h1
  refine R_ldI rfl rfl ?_
  refine R_I rfl ?_
  rcases qite hf with ⟨c483, hf⟩ | ⟨c483, hf⟩
  · refine R_CmLt_t rfl c483 ?_
    refine R_ldI rfl rfl ?_
    refine R_I rfl ?_
    rcases qite hf with ⟨c484, hf⟩ | ⟨c484, hf⟩
    · refine R_CmLt_t rfl c484 ?_
      refine R_I rfl ?_
      obtain ⟨rfl, rfl⟩ := qinj2 hf
      exact R_retI rfl
    · refine R_CmLt_f rfl c484 ?_
      refine R_ldI rfl rfl ?_
      refine R_I rfl ?_
      rcases qite hf with ⟨c485, hf⟩ | ⟨c485, hf⟩
      · refine R_CmGe_t rfl c485 ?_
        refine R_I rfl ?_
        obtain ⟨rfl, rfl⟩ := qinj2 hf
        exact R_retI rfl
      · refine R_CmGe_f rfl c485 ?_
        refine R_I rfl ?_
        refine R_ldI rfl rfl ?_
        refine R_bin rfl ?_
        refine R_I rfl ?_
        refine R_bin rfl ?_
        obtain ⟨rfl, rfl⟩ := qinj2 hf
        exact R_retI rfl
  · refine R_CmLt_f rfl c483 ?_
    refine R_ldI rfl rfl ?_
    refine R_I rfl ?_
    refine R_ldI rfl rfl ?_
    refine R_bin rfl ?_
    rcases qite hf with ⟨c486, hf⟩ | ⟨c486, hf⟩
    · refine R_CmGe_t rfl c486 ?_
      refine R_ldI rfl rfl ?_
      refine R_I rfl ?_
      rcases qite hf with ⟨c487, hf⟩ | ⟨c487, hf⟩
      · refine R_CmLt_t rfl c487 ?_
        refine R_I rfl ?_
        obtain ⟨rfl, rfl⟩ := qinj2 hf
        exact R_retI rfl
      · refine R_CmLt_f rfl c487 ?_
        refine R_ldI rfl rfl ?_
        refine R_I rfl ?_
        rcases qite hf with ⟨c488, hf⟩ | ⟨c488, hf⟩
        · refine R_CmGe_t rfl c488 ?_
          refine R_I rfl ?_
          obtain ⟨rfl, rfl⟩ := qinj2 hf
          exact R_retI rfl
        · refine R_CmGe_f rfl c488 ?_
          refine R_I rfl ?_
          refine R_ldI rfl rfl ?_
          refine R_bin rfl ?_
          refine R_I rfl ?_
          refine R_bin rfl ?_
          obtain ⟨rfl, rfl⟩ := qinj2 hf
          exact R_retI rfl
    · refine R_CmGe_f rfl c486 ?_
      refine R_ldI rfl rfl ?_
      refine R_I rfl ?_
      refine R_bin rfl ?_
      obtain ⟨rfl, rfl⟩ := qinj2 hf
      exact R_retI rfl
def f_X3_readSuit (N : Nat) (a1 : Int32) (a2 : Int32) (h : qN) : Option (Int32 × qN) :=
  qbind (f_X3_nextSign N  h) fun (x490, h489) =>
  qbind (f_X3_sideOf x490 a2 h489) fun (x493, h492) =>
  if 0 ≤ x493 then
    qbind (f_X3_nextSign N  (qup h492 48 1 ((h492 48 1) + (1 : Int32)))) fun (x497, h496) =>
    qbind (f_X3_sideOf x497 a2 h496) fun (x500, h499) =>
    if x500 < 0 then
      some ((0 : Int32), h499)
    else
      if x500 = x493 then
        some ((0 : Int32), h499)
      else
        if a1 < 0 ∨ 56 ≤ a1.toNatClampNeg then none else
        if (a1 + (1 : Int32)) < 0 ∨ 56 ≤ (a1 + (1 : Int32)).toNatClampNeg then none else
        some ((1 : Int32), (qup (qup (qup h499 48 1 ((h499 48 1) + (1 : Int32))) 50 a1.toNatClampNeg x493) 50 (a1 + (1 : Int32)).toNatClampNeg x500))
  else
    some ((0 : Int32), h492)
set_option maxRecDepth 100000 in
theorem t_X3_readSuit {d N : Nat} (hd : 2 ≤ d) (a1 : Int32) (a2 : Int32)  (h : qN) {v0 : Int32} {h1 : qN} (hf : f_X3_readSuit N a1 a2 h = some (v0, h1)) : EE d 45 [.ref 48, .int a1, .int a2] h (some (.int v0)) h1 := by
  obtain ⟨d, rfl⟩ : ∃ d0, d = d0 + 1 := ⟨d - 1, by omega⟩
  unfold f_X3_readSuit at hf
  refine E_intro qm_45 qc_45 (Nat.le_of_ble_eq_true rfl) rfl rfl ?_
  show RR d cd_X3_readSuit (0, 0) 0 [.ref 48, .int a1, .int a2, qU, qU] [] h (some (.int v0)) h1
  refine R_ldA rfl rfl ?_
  obtain ⟨⟨x490, h489⟩, e491, hf⟩ := qbind_some hf
  dsimp only at hf
  refine R_callVi (as := [.ref 48]) (rest := []) rfl rfl sh_48 rfl rfl rfl rfl (t_X3_nextSign (N := N) (by omega)  h e491) ?_
  refine R_ldI rfl rfl ?_
  obtain ⟨⟨x493, h492⟩, e494, hf⟩ := qbind_some hf
  dsimp only at hf
  refine R_callSi (as := [.int x490, .int a2]) (rest := []) rfl rfl rfl rfl rfl rfl (t_X3_sideOf (by omega) x490 a2 h489 e494) ?_
  refine R_stI (ls' := [.ref 48, .int a1, .int a2, .int x493, qU]) rfl rfl rfl rfl ?_
  refine R_ldI rfl rfl ?_
  rcases qite hf with ⟨c495, hf⟩ | ⟨c495, hf⟩
  · refine R_IfGe_t rfl c495 ?_
    refine R_ldA rfl rfl ?_
    refine R_dup rfl rfl ?_
    refine R_get rfl sh_48 rfl rfl ?_
    refine R_I rfl ?_
    refine R_bin rfl ?_
    refine R_putI rfl sh_48 rfl ?_
    refine R_ldA rfl rfl ?_
    obtain ⟨⟨x497, h496⟩, e498, hf⟩ := qbind_some hf
    dsimp only at hf
    refine R_callVi (as := [.ref 48]) (rest := []) rfl rfl sh_48 rfl rfl rfl rfl (t_X3_nextSign (N := N) (by omega)  (qup h492 48 1 ((h492 48 1) + (1 : Int32))) e498) ?_
    refine R_ldI rfl rfl ?_
    obtain ⟨⟨x500, h499⟩, e501, hf⟩ := qbind_some hf
    dsimp only at hf
    refine R_callSi (as := [.int x497, .int a2]) (rest := []) rfl rfl rfl rfl rfl rfl (t_X3_sideOf (by omega) x497 a2 h496 e501) ?_
    refine R_stI (ls' := [.ref 48, .int a1, .int a2, .int x493, .int x500]) rfl rfl rfl rfl ?_
    refine R_ldI rfl rfl ?_
    rcases qite hf with ⟨c502, hf⟩ | ⟨c502, hf⟩
    · refine R_IfLt_t rfl c502 ?_
      refine R_I rfl ?_
      obtain ⟨rfl, rfl⟩ := qinj2 hf
      exact R_retZ rfl (by decide)
    · refine R_IfLt_f rfl c502 ?_
      refine R_ldI rfl rfl ?_
      refine R_ldI rfl rfl ?_
      rcases qite hf with ⟨c503, hf⟩ | ⟨c503, hf⟩
      · refine R_CmNe_f rfl c503 ?_
        refine R_I rfl ?_
        obtain ⟨rfl, rfl⟩ := qinj2 hf
        exact R_retZ rfl (by decide)
      · refine R_CmNe_t rfl c503 ?_
        refine R_ldA rfl rfl ?_
        refine R_dup rfl rfl ?_
        refine R_get rfl sh_48 rfl rfl ?_
        refine R_I rfl ?_
        refine R_bin rfl ?_
        refine R_putI rfl sh_48 rfl ?_
        refine R_ldA rfl rfl ?_
        refine R_get rfl sh_48 rfl rfl ?_
        refine R_ldI rfl rfl ?_
        refine R_ldI rfl rfl ?_
        obtain ⟨c504, hf⟩ := qchk hf
        refine R_ast rfl sh_50 c504 ?_
        refine R_ldA rfl rfl ?_
        refine R_get rfl sh_48 rfl rfl ?_
        refine R_ldI rfl rfl ?_
        refine R_I rfl ?_
        refine R_bin rfl ?_
        refine R_ldI rfl rfl ?_
        obtain ⟨c505, hf⟩ := qchk hf
        refine R_ast rfl sh_50 c505 ?_
        refine R_I rfl ?_
        obtain ⟨rfl, rfl⟩ := qinj2 hf
        exact R_retZ rfl (by decide)
  · refine R_IfGe_f rfl c495 ?_
    refine R_I rfl ?_
    obtain ⟨rfl, rfl⟩ := qinj2 hf
    exact R_retZ rfl (by decide)
def f_X3_readSuits_L7 (N : Nat) (l1 : Int32) : Nat → Int32 → qN → Option ((Int32 × qN) ⊕ (qN))
  | 0, _, _ => none
  | n + 1, l2, h =>
    if (12 : Int32) ≤ l2 then
      some (.inr h)
    else
      qbind (f_X3_readSuit N ((2 : Int32) * l2) l1 h) fun (x508, h507) =>
      if x508 = 0 then
        some (.inr h507)
      else
        qbind (f_X3_nextSign N  h507) fun (x512, h511) =>
        if x512 = (-1 : Int32) then
          some (.inl ((l2 + (1 : Int32)), h511))
        else
          if x512 = (44 : Int32) then
            if (l2 + (1 : Int32)) = (12 : Int32) then
              qbind (f_X3_fault  h511) fun (x518, h517) =>
              some (.inl (x518, h517))
            else
              f_X3_readSuits_L7 N l1 n (l2 + (1 : Int32)) (qup h511 48 1 ((h511 48 1) + (1 : Int32)))
          else
            qbind (f_X3_fault  h511) fun (x521, h520) =>
            some (.inl (x521, h520))
set_option maxRecDepth 100000 in
theorem t_X3_readSuits_L7 {d N : Nat} (hd : 2 ≤ d) : ∀ (n : Nat) (l1 : Int32) (l2 : Int32) (h : qN) (res : (Int32 × qN) ⊕ (qN)), f_X3_readSuits_L7 N l1 n l2 h = some res → ∀ (v : Option Value) (h1 : qN), (∀ (rv : Int32) (rh : qN), res = .inl (rv, rh) → v = some (.int rv) ∧ h1 = rh) → (∀ (h2 : qN), res = .inr h2 → RR d cd_X3_readSuits (0, 0) 69 [.ref 48, qU, qU, qU] [] h2 v h1) → RR d cd_X3_readSuits (0, 0) 7 [.ref 48, .int l1, .int l2, qU] [] h v h1 := by
  intro n
  induction n with
  | zero =>
    intro l1 l2 h res hf v h1 hR hE
    exact absurd hf (by simp [f_X3_readSuits_L7])
  | succ n ih =>
    intro l1 l2 h res hf v h1 hR hE
    unfold f_X3_readSuits_L7 at hf
    refine R_ldI rfl rfl ?_
    refine R_I rfl ?_
    rcases qite hf with ⟨c506, hf⟩ | ⟨c506, hf⟩
    · refine R_CmGe_t rfl c506 ?_
      refine R_drop [true, false, false, true] (ls' := [.ref 48, qU, qU, qU]) rfl ?_
      obtain rfl := Option.some.inj hf
      exact hE _ rfl
    · refine R_CmGe_f rfl c506 ?_
      refine R_ldA rfl rfl ?_
      refine R_I rfl ?_
      refine R_ldI rfl rfl ?_
      refine R_bin rfl ?_
      refine R_ldI rfl rfl ?_
      obtain ⟨⟨x508, h507⟩, e509, hf⟩ := qbind_some hf
      dsimp only at hf
      refine R_callVi (as := [.ref 48, .int ((2 : Int32) * l2), .int l1]) (rest := []) rfl rfl sh_48 rfl rfl rfl rfl (t_X3_readSuit (N := N) (by omega) ((2 : Int32) * l2) l1 h e509) ?_
      rcases qite hf with ⟨c510, hf⟩ | ⟨c510, hf⟩
      · refine R_IfEq_t rfl c510 ?_
        refine R_drop [true, false, false, true] (ls' := [.ref 48, qU, qU, qU]) rfl ?_
        obtain rfl := Option.some.inj hf
        exact hE _ rfl
      · refine R_IfEq_f rfl c510 ?_
        refine R_inc (ls' := [.ref 48, .int l1, .int (l2 + (1 : Int32)), qU]) rfl rfl rfl rfl ?_
        refine R_ldA rfl rfl ?_
        obtain ⟨⟨x512, h511⟩, e513, hf⟩ := qbind_some hf
        dsimp only at hf
        refine R_callVi (as := [.ref 48]) (rest := []) rfl rfl sh_48 rfl rfl rfl rfl (t_X3_nextSign (N := N) (by omega)  h507 e513) ?_
        refine R_stI (ls' := [.ref 48, .int l1, .int (l2 + (1 : Int32)), .int x512]) rfl rfl rfl rfl ?_
        refine R_ldI rfl rfl ?_
        refine R_I rfl ?_
        rcases qite hf with ⟨c514, hf⟩ | ⟨c514, hf⟩
        · refine R_CmNe_f rfl c514 ?_
          refine R_ldI rfl rfl ?_
          obtain rfl := Option.some.inj hf
          obtain ⟨rfl, rfl⟩ := hR _ _ rfl
          exact R_retI rfl
        · refine R_CmNe_t rfl c514 ?_
          refine R_ldI rfl rfl ?_
          refine R_I rfl ?_
          rcases qite hf with ⟨c515, hf⟩ | ⟨c515, hf⟩
          · refine R_CmNe_f rfl c515 ?_
            refine R_ldI rfl rfl ?_
            refine R_I rfl ?_
            rcases qite hf with ⟨c516, hf⟩ | ⟨c516, hf⟩
            · refine R_CmNe_f rfl c516 ?_
              refine R_ldA rfl rfl ?_
              obtain ⟨⟨x518, h517⟩, e519, hf⟩ := qbind_some hf
              dsimp only at hf
              refine R_callVi (as := [.ref 48]) (rest := []) rfl rfl sh_48 rfl rfl rfl rfl (t_X3_fault (by omega)  h511 e519) ?_
              obtain rfl := Option.some.inj hf
              obtain ⟨rfl, rfl⟩ := hR _ _ rfl
              exact R_retI rfl
            · refine R_CmNe_t rfl c516 ?_
              refine R_ldA rfl rfl ?_
              refine R_dup rfl rfl ?_
              refine R_get rfl sh_48 rfl rfl ?_
              refine R_I rfl ?_
              refine R_bin rfl ?_
              refine R_putI rfl sh_48 rfl ?_
              refine R_goto rfl ?_
              refine R_drop [true, true, true, false] (ls' := [.ref 48, .int l1, .int (l2 + (1 : Int32)), qU]) rfl ?_
              exact ih l1 (l2 + (1 : Int32)) (qup h511 48 1 ((h511 48 1) + (1 : Int32))) _ hf _ _ hR hE
          · refine R_CmNe_t rfl c515 ?_
            refine R_ldA rfl rfl ?_
            obtain ⟨⟨x521, h520⟩, e522, hf⟩ := qbind_some hf
            dsimp only at hf
            refine R_callVi (as := [.ref 48]) (rest := []) rfl rfl sh_48 rfl rfl rfl rfl (t_X3_fault (by omega)  h511 e522) ?_
            obtain rfl := Option.some.inj hf
            obtain ⟨rfl, rfl⟩ := hR _ _ rfl
            exact R_retI rfl
def f_X3_readSuits (N : Nat) (a1 : Int32) (h : qN) : Option (Int32 × qN) :=
  qbind (f_X3_readSuits_L7 N a1 N (0 : Int32) (qup h 48 1 (0 : Int32))) fun
    | .inl (x529, h530) => some (x529, h530)
    | .inr h524 =>
      qbind (f_X3_fault  h524) fun (x527, h526) =>
      some (x527, h526)
set_option maxRecDepth 100000 in
theorem t_X3_readSuits {d N : Nat} (hd : 3 ≤ d) (a1 : Int32)  (h : qN) {v0 : Int32} {h1 : qN} (hf : f_X3_readSuits N a1 h = some (v0, h1)) : EE d 44 [.ref 48, .int a1] h (some (.int v0)) h1 := by
  obtain ⟨d, rfl⟩ : ∃ d0, d = d0 + 1 := ⟨d - 1, by omega⟩
  unfold f_X3_readSuits at hf
  refine E_intro qm_44 qc_44 (Nat.le_of_ble_eq_true rfl) rfl rfl ?_
  show RR d cd_X3_readSuits (0, 0) 0 [.ref 48, .int a1, qU, qU] [] h (some (.int v0)) h1
  refine R_ldA rfl rfl ?_
  refine R_I rfl ?_
  refine R_putI rfl sh_48 rfl ?_
  refine R_I rfl ?_
  refine R_stI (ls' := [.ref 48, .int a1, .int (0 : Int32), qU]) rfl rfl rfl rfl ?_
  obtain ⟨⟨x529, h530⟩ | h524, e525, hf⟩ := qbind_some hf
  · dsimp only at hf
    refine t_X3_readSuits_L7 (N := N) (by omega) _ a1 (0 : Int32) (qup h 48 1 (0 : Int32)) _ e525 _ _ (fun rv rh he => ?_) (fun _ he => by cases he)
    cases he
    obtain ⟨rfl, rfl⟩ := qinj2 hf
    exact ⟨rfl, rfl⟩
  · dsimp only at hf
    refine t_X3_readSuits_L7 (N := N) (by omega) _ a1 (0 : Int32) (qup h 48 1 (0 : Int32)) _ e525 _ _ (fun _ _ he => by cases he) (fun z0 he => ?_)
    cases he
    refine R_ldA rfl rfl ?_
    obtain ⟨⟨x527, h526⟩, e528, hf⟩ := qbind_some hf
    dsimp only at hf
    refine R_callVi (as := [.ref 48]) (rest := []) rfl rfl sh_48 rfl rfl rfl rfl (t_X3_fault (by omega)  h524 e528) ?_
    obtain ⟨rfl, rfl⟩ := qinj2 hf
    exact R_retI rfl
def f_X4_become (w : Nat) (r1 : Nat) (h : qN) : Option (qN) :=
  qbind (f_X0_become (w + 1) (r1 + 1) h) fun h531 =>
  some (qup (qrow (qrow (qrow h531 (w + 6) (va_cpy (h531 (r1 + 6)) (h531 (w + 6)) 0 0 6)) (w + 7) (va_cpy ((qrow h531 (w + 6) (va_cpy (h531 (r1 + 6)) (h531 (w + 6)) 0 0 6)) (r1 + 7)) ((qrow h531 (w + 6) (va_cpy (h531 (r1 + 6)) (h531 (w + 6)) 0 0 6)) (w + 7)) 0 0 6)) (w + 8) (va_cpy ((qrow (qrow h531 (w + 6) (va_cpy (h531 (r1 + 6)) (h531 (w + 6)) 0 0 6)) (w + 7) (va_cpy ((qrow h531 (w + 6) (va_cpy (h531 (r1 + 6)) (h531 (w + 6)) 0 0 6)) (r1 + 7)) ((qrow h531 (w + 6) (va_cpy (h531 (r1 + 6)) (h531 (w + 6)) 0 0 6)) (w + 7)) 0 0 6)) (r1 + 8)) ((qrow (qrow h531 (w + 6) (va_cpy (h531 (r1 + 6)) (h531 (w + 6)) 0 0 6)) (w + 7) (va_cpy ((qrow h531 (w + 6) (va_cpy (h531 (r1 + 6)) (h531 (w + 6)) 0 0 6)) (r1 + 7)) ((qrow h531 (w + 6) (va_cpy (h531 (r1 + 6)) (h531 (w + 6)) 0 0 6)) (w + 7)) 0 0 6)) (w + 8)) 0 0 48)) w 4 ((qrow (qrow (qrow h531 (w + 6) (va_cpy (h531 (r1 + 6)) (h531 (w + 6)) 0 0 6)) (w + 7) (va_cpy ((qrow h531 (w + 6) (va_cpy (h531 (r1 + 6)) (h531 (w + 6)) 0 0 6)) (r1 + 7)) ((qrow h531 (w + 6) (va_cpy (h531 (r1 + 6)) (h531 (w + 6)) 0 0 6)) (w + 7)) 0 0 6)) (w + 8) (va_cpy ((qrow (qrow h531 (w + 6) (va_cpy (h531 (r1 + 6)) (h531 (w + 6)) 0 0 6)) (w + 7) (va_cpy ((qrow h531 (w + 6) (va_cpy (h531 (r1 + 6)) (h531 (w + 6)) 0 0 6)) (r1 + 7)) ((qrow h531 (w + 6) (va_cpy (h531 (r1 + 6)) (h531 (w + 6)) 0 0 6)) (w + 7)) 0 0 6)) (r1 + 8)) ((qrow (qrow h531 (w + 6) (va_cpy (h531 (r1 + 6)) (h531 (w + 6)) 0 0 6)) (w + 7) (va_cpy ((qrow h531 (w + 6) (va_cpy (h531 (r1 + 6)) (h531 (w + 6)) 0 0 6)) (r1 + 7)) ((qrow h531 (w + 6) (va_cpy (h531 (r1 + 6)) (h531 (w + 6)) 0 0 6)) (w + 7)) 0 0 6)) (w + 8)) 0 0 48)) r1 4))
set_option maxRecDepth 100000 in
theorem t_X4_become {d : Nat} (hd : 2 ≤ d) (w : Nat) (r1 : Nat) (hw : isV w) (hr1 : isV r1) (h : qN) {h1 : qN} (hf : f_X4_become w r1 h = some h1) : EE d 48 [.ref w, .ref r1] h none h1 := by
  obtain ⟨d, rfl⟩ : ∃ d0, d = d0 + 1 := ⟨d - 1, by omega⟩
  unfold f_X4_become at hf
  refine E_intro qm_48 qc_48 (Nat.le_of_ble_eq_true rfl) rfl rfl ?_
  show RR d cd_X4_become (0, 0) 0 [.ref w, .ref r1] [] h none h1
  refine R_ldA rfl rfl ?_
  refine R_get rfl hw.1 rfl rfl ?_
  refine R_ldA rfl rfl ?_
  refine R_get rfl hr1.1 rfl rfl ?_
  obtain ⟨h531, e532, hf⟩ := qbind_some hf
  refine R_callVv (as := [.ref (w + 1), .ref (r1 + 1)]) (rest := []) rfl rfl hw.2.1.1 rfl rfl rfl rfl (t_X0_become (by omega) (w + 1) (r1 + 1) hw.2.1 hr1.2.1 h e532) ?_
  refine R_ldA rfl rfl ?_
  refine R_get rfl hr1.1 rfl rfl ?_
  refine R_I rfl ?_
  refine R_ldA rfl rfl ?_
  refine R_get rfl hw.1 rfl rfl ?_
  refine R_I rfl ?_
  refine R_ldA rfl rfl ?_
  refine R_get rfl hw.1 rfl rfl ?_
  refine R_len (z := (6 : Int32)) rfl hw.2.2.1 rfl ?_
  refine R_copyN (s' := 0) (d' := 0) (z' := 6) rfl hr1.2.2.1 hw.2.2.1 rfl rfl rfl (by decide) (by decide) ?_
  refine R_ldA rfl rfl ?_
  refine R_get rfl hr1.1 rfl rfl ?_
  refine R_I rfl ?_
  refine R_ldA rfl rfl ?_
  refine R_get rfl hw.1 rfl rfl ?_
  refine R_I rfl ?_
  refine R_ldA rfl rfl ?_
  refine R_get rfl hw.1 rfl rfl ?_
  refine R_len (z := (6 : Int32)) rfl hw.2.2.2.1 rfl ?_
  refine R_copyN (s' := 0) (d' := 0) (z' := 6) rfl hr1.2.2.2.1 hw.2.2.2.1 rfl rfl rfl (by decide) (by decide) ?_
  refine R_ldA rfl rfl ?_
  refine R_get rfl hr1.1 rfl rfl ?_
  refine R_I rfl ?_
  refine R_ldA rfl rfl ?_
  refine R_get rfl hw.1 rfl rfl ?_
  refine R_I rfl ?_
  refine R_ldA rfl rfl ?_
  refine R_get rfl hw.1 rfl rfl ?_
  refine R_len (z := (48 : Int32)) rfl hw.2.2.2.2 rfl ?_
  refine R_copyN (s' := 0) (d' := 0) (z' := 48) rfl hr1.2.2.2.2 hw.2.2.2.2 rfl rfl rfl (by decide) (by decide) ?_
  refine R_ldA rfl rfl ?_
  refine R_ldA rfl rfl ?_
  refine R_get rfl hr1.1 rfl rfl ?_
  refine R_putI rfl hw.1 rfl ?_
  obtain rfl := Option.some.inj hf
  exact R_retV rfl
def f_X4_addThing_L11 (N : Nat) (r0 : Nat) (l2 : Int32) : Nat → Int32 → qN → Option (qN)
  | 0, _, _ => none
  | n + 1, l3, h =>
    if (6 : Int32) ≤ l3 then
      some h
    else
      if ((l2 * (6 : Int32)) + l3) < 0 ∨ 48 ≤ ((l2 * (6 : Int32)) + l3).toNatClampNeg then none else
      f_X4_addThing_L11 N r0 l2 n (l3 + (1 : Int32)) (qup h (r0 + 8) ((l2 * (6 : Int32)) + l3).toNatClampNeg (5 : Int32))
set_option maxRecDepth 100000 in
theorem t_X4_addThing_L11 {d N : Nat} (hd : 1 ≤ d) : ∀ (n : Nat) (r0 : Nat) (l2 : Int32) (hr0 : isV r0) (l3 : Int32) (h : qN) (h2 : qN), f_X4_addThing_L11 N r0 l2 n l3 h = some h2 → ∀ (v : Option Value) (h1 : qN), RR d cd_X4_addThing (0, 0) 35 [qU, qU, .int l2, qU] [] h2 v h1 → RR d cd_X4_addThing (0, 0) 11 [.ref r0, qU, .int l2, .int l3] [] h v h1 := by
  intro n
  induction n with
  | zero =>
    intro r0 l2 hr0 l3 h h2 hf v h1 hE
    exact absurd hf (by simp [f_X4_addThing_L11])
  | succ n ih =>
    intro r0 l2 hr0 l3 h h2 hf v h1 hE
    unfold f_X4_addThing_L11 at hf
    refine R_ldI rfl rfl ?_
    refine R_I rfl ?_
    rcases qite hf with ⟨c536, hf⟩ | ⟨c536, hf⟩
    · refine R_CmGe_t rfl c536 ?_
      refine R_drop [false, true, true, false] (ls' := [qU, qU, .int l2, qU]) rfl ?_
      obtain rfl := Option.some.inj hf
      exact hE
    · refine R_CmGe_f rfl c536 ?_
      refine R_ldA rfl rfl ?_
      refine R_get rfl hr0.1 rfl rfl ?_
      refine R_ldI rfl rfl ?_
      refine R_I rfl ?_
      refine R_bin rfl ?_
      refine R_ldI rfl rfl ?_
      refine R_bin rfl ?_
      refine R_I rfl ?_
      obtain ⟨c537, hf⟩ := qchk hf
      refine R_ast rfl hr0.2.2.2.2 c537 ?_
      refine R_inc (ls' := [.ref r0, qU, .int l2, .int (l3 + (1 : Int32))]) rfl rfl rfl rfl ?_
      refine R_goto rfl ?_
      exact ih r0 l2 hr0 (l3 + (1 : Int32)) (qup h (r0 + 8) ((l2 * (6 : Int32)) + l3).toNatClampNeg (5 : Int32)) _ hf _ _ hE
def f_X4_addThing (N : Nat) (w : Nat) (a1 : Int32) (h : qN) : Option (Int32 × qN) :=
  qbind (f_X0_addThing (w + 1) a1 h) fun (x534, h533) =>
  qbind (f_X4_addThing_L11 N w x534 N (0 : Int32) h533) fun h539 =>
  some (x534, h539)
set_option maxRecDepth 100000 in
theorem t_X4_addThing {d N : Nat} (hd : 2 ≤ d) (w : Nat) (a1 : Int32) (hw : isV w) (h : qN) {v0 : Int32} {h1 : qN} (hf : f_X4_addThing N w a1 h = some (v0, h1)) : EE d 49 [.ref w, .int a1] h (some (.int v0)) h1 := by
  obtain ⟨d, rfl⟩ : ∃ d0, d = d0 + 1 := ⟨d - 1, by omega⟩
  unfold f_X4_addThing at hf
  refine E_intro qm_49 qc_49 (Nat.le_of_ble_eq_true rfl) rfl rfl ?_
  show RR d cd_X4_addThing (0, 0) 0 [.ref w, .int a1, qU, qU] [] h (some (.int v0)) h1
  refine R_ldA rfl rfl ?_
  refine R_get rfl hw.1 rfl rfl ?_
  refine R_ldI rfl rfl ?_
  obtain ⟨⟨x534, h533⟩, e535, hf⟩ := qbind_some hf
  dsimp only at hf
  refine R_callVi (as := [.ref (w + 1), .int a1]) (rest := []) rfl rfl hw.2.1.1 rfl rfl rfl rfl (t_X0_addThing (by omega) (w + 1) a1 hw.2.1 h e535) ?_
  refine R_stI (ls' := [.ref w, .int a1, .int x534, qU]) rfl rfl rfl rfl ?_
  refine R_I rfl ?_
  refine R_stI (ls' := [.ref w, .int a1, .int x534, .int (0 : Int32)]) rfl rfl rfl rfl ?_
  refine R_drop [true, false, true, true] (ls' := [.ref w, qU, .int x534, .int (0 : Int32)]) rfl ?_
  obtain ⟨h539, e540, hf⟩ := qbind_some hf
  refine t_X4_addThing_L11 (N := N) (by omega) _ w x534 hw (0 : Int32) h533 h539 e540 _ _ ?_
  refine R_ldI rfl rfl ?_
  obtain ⟨rfl, rfl⟩ := qinj2 hf
  exact R_retI rfl
def f_X4_takeThings_L26 (N : Nat) (r0 : Nat) (r1 : Nat) (n1 : Nat) (l2 : Int32) : Nat → Int32 → qN → Option (qN)
  | 0, _, _ => none
  | n + 1, l3, h =>
    if l2 ≤ l3 then
      some h
    else
      if (l3 * (7 : Int32)) < 0 ∨ n1 ≤ (l3 * (7 : Int32)).toNatClampNeg then none else
      qbind (f_X0_addThing (r0 + 1) (h r1 (l3 * (7 : Int32)).toNatClampNeg) h) fun (x546, h545) =>
      if ¬ ((l3 * (7 : Int32)) + (1 : Int32)) < 0 ∧ ¬ (l3 * (6 : Int32)) < 0 ∧ ¬ (6 : Int32) < 0 ∧ ((l3 * (7 : Int32)) + (1 : Int32)).toNatClampNeg + 6 ≤ n1 ∧ (l3 * (6 : Int32)).toNatClampNeg + 6 ≤ 48 then
        f_X4_takeThings_L26 N r0 r1 n1 l2 n (l3 + (1 : Int32)) (qrow h545 (r0 + 8) (va_cpy (h545 r1) (h545 (r0 + 8)) ((l3 * (7 : Int32)) + (1 : Int32)).toNatClampNeg (l3 * (6 : Int32)).toNatClampNeg 6))
      else none
set_option maxRecDepth 100000 in
theorem t_X4_takeThings_L26 {d N : Nat} (hd : 1 ≤ d) : ∀ (n : Nat) (r0 : Nat) (r1 : Nat) (n1 : Nat) (l2 : Int32) (hr0 : isV r0) (hr1 : isA r1 n1) (l3 : Int32) (h : qN) (h2 : qN), f_X4_takeThings_L26 N r0 r1 n1 l2 n l3 h = some h2 → ∀ (v : Option Value) (h1 : qN), RR d cd_X4_takeThings (0, 0) 71 [qU, qU, qU, qU] [] h2 v h1 → RR d cd_X4_takeThings (0, 0) 26 [.ref r0, .ref r1, .int l2, .int l3] [] h v h1 := by
  intro n
  induction n with
  | zero =>
    intro r0 r1 n1 l2 hr0 hr1 l3 h h2 hf v h1 hE
    exact absurd hf (by simp [f_X4_takeThings_L26])
  | succ n ih =>
    intro r0 r1 n1 l2 hr0 hr1 l3 h h2 hf v h1 hE
    unfold f_X4_takeThings_L26 at hf
    refine R_ldI rfl rfl ?_
    refine R_ldI rfl rfl ?_
    rcases qite hf with ⟨c543, hf⟩ | ⟨c543, hf⟩
    · refine R_CmGe_t rfl c543 ?_
      refine R_drop [false, false, false, false] (ls' := [qU, qU, qU, qU]) rfl ?_
      obtain rfl := Option.some.inj hf
      exact hE
    · refine R_CmGe_f rfl c543 ?_
      refine R_ldA rfl rfl ?_
      refine R_get rfl hr0.1 rfl rfl ?_
      refine R_ldA rfl rfl ?_
      refine R_ldI rfl rfl ?_
      refine R_I rfl ?_
      refine R_bin rfl ?_
      obtain ⟨c544, hf⟩ := qchk hf
      refine R_ald rfl hr1 c544 ?_
      obtain ⟨⟨x546, h545⟩, e547, hf⟩ := qbind_some hf
      dsimp only at hf
      refine R_callVi (as := [.ref (r0 + 1), .int (h r1 (l3 * (7 : Int32)).toNatClampNeg)]) (rest := []) rfl rfl hr0.2.1.1 rfl rfl rfl rfl (t_X0_addThing (by omega) (r0 + 1) (h r1 (l3 * (7 : Int32)).toNatClampNeg) hr0.2.1 h e547) ?_
      refine R_pop rfl rfl ?_
      refine R_ldA rfl rfl ?_
      refine R_ldI rfl rfl ?_
      refine R_I rfl ?_
      refine R_bin rfl ?_
      refine R_I rfl ?_
      refine R_bin rfl ?_
      refine R_ldA rfl rfl ?_
      refine R_get rfl hr0.1 rfl rfl ?_
      refine R_ldI rfl rfl ?_
      refine R_I rfl ?_
      refine R_bin rfl ?_
      refine R_I rfl ?_
      obtain ⟨c548, hf⟩ := qreq hf
      refine R_copyN (s' := ((l3 * (7 : Int32)) + (1 : Int32)).toNatClampNeg) (d' := (l3 * (6 : Int32)).toNatClampNeg) (z' := 6) rfl hr1 hr0.2.2.2.2 rfl rfl rfl c548 (by decide) ?_
      refine R_inc (ls' := [.ref r0, .ref r1, .int l2, .int (l3 + (1 : Int32))]) rfl rfl rfl rfl ?_
      refine R_goto rfl ?_
      exact ih r0 r1 n1 l2 hr0 hr1 (l3 + (1 : Int32)) (qrow h545 (r0 + 8) (va_cpy (h545 r1) (h545 (r0 + 8)) ((l3 * (7 : Int32)) + (1 : Int32)).toNatClampNeg (l3 * (6 : Int32)).toNatClampNeg 6)) _ hf _ _ hE
def f_X4_takeThings (N : Nat) (w : Nat) (r1 : Nat) (n1 : Nat) (a2 : Int32) (h : qN) : Option (qN) :=
  qbind (f_X4_takeThings_L26 N w r1 n1 a2 N (0 : Int32) (qup (qup (qup h (w + 1) 4 (0 : Int32)) (w + 1) 5 (0 : Int32)) (w + 1) 6 (0 : Int32))) fun h550 =>
  some h550
set_option maxRecDepth 100000 in
theorem t_X4_takeThings {d N : Nat} (hd : 2 ≤ d) (w : Nat) (r1 : Nat) (n1 : Nat) (a2 : Int32) (hw : isV w) (hr1 : isA r1 n1) (h : qN) {h1 : qN} (hf : f_X4_takeThings N w r1 n1 a2 h = some h1) : EE d 50 [.ref w, .ref r1, .int a2] h none h1 := by
  obtain ⟨d, rfl⟩ : ∃ d0, d = d0 + 1 := ⟨d - 1, by omega⟩
  unfold f_X4_takeThings at hf
  refine E_intro qm_50 qc_50 (Nat.le_of_ble_eq_true rfl) rfl rfl ?_
  show RR d cd_X4_takeThings (0, 0) 0 [.ref w, .ref r1, .int a2, qU] [] h none h1
  refine R_ldA rfl rfl ?_
  refine R_get rfl hw.1 rfl rfl ?_
  refine R_I rfl ?_
  refine R_putI rfl hw.2.1.1 rfl ?_
  refine R_ldA rfl rfl ?_
  refine R_get rfl hw.1 rfl rfl ?_
  refine R_I rfl ?_
  refine R_putI rfl hw.2.1.1 rfl ?_
  refine R_ldA rfl rfl ?_
  refine R_get rfl hw.1 rfl rfl ?_
  refine R_I rfl ?_
  refine R_putI rfl hw.2.1.1 rfl ?_
  refine R_I rfl ?_
  refine R_stI (ls' := [.ref w, .ref r1, .int a2, .int (0 : Int32)]) rfl rfl rfl rfl ?_
  obtain ⟨h550, e551, hf⟩ := qbind_some hf
  refine t_X4_takeThings_L26 (N := N) (by omega) _ w r1 n1 a2 hw hr1 (0 : Int32) (qup (qup (qup h (w + 1) 4 (0 : Int32)) (w + 1) 5 (0 : Int32)) (w + 1) 6 (0 : Int32)) h550 e551 _ _ ?_
  obtain rfl := Option.some.inj hf
  exact R_retV rfl
def f_X4_sell (N : Nat) (w : Nat) (a1 : Int32) (a2 : Int32) (a3 : Int32) (h : qN) : Option (Int32 × qN) :=
  if a1 < 0 ∨ 8 ≤ a1.toNatClampNeg then none else
  if a2 < 0 ∨ 6 ≤ a2.toNatClampNeg then none else
  if a2 < 0 ∨ 6 ≤ a2.toNatClampNeg then none else
  qbind (
      if (h ((w + 1) + 2) a1.toNatClampNeg) = (6 : Int32) then
        some (qup h (w + 6) a2.toNatClampNeg ((h (w + 6) a2.toNatClampNeg) - a3))
      else
        if (h ((w + 1) + 2) a1.toNatClampNeg) < 0 ∨ 6 ≤ (h ((w + 1) + 2) a1.toNatClampNeg).toNatClampNeg then none else
        if (h ((w + 1) + 2) a1.toNatClampNeg) < 0 ∨ 6 ≤ (h ((w + 1) + 2) a1.toNatClampNeg).toNatClampNeg then none else
        some (qup (qup h (w + 6) a2.toNatClampNeg ((h (w + 6) a2.toNatClampNeg) - a3)) (w + 6) (h ((w + 1) + 2) a1.toNatClampNeg).toNatClampNeg (if (((qup h (w + 6) a2.toNatClampNeg ((h (w + 6) a2.toNatClampNeg) - a3)) (w + 6) (h ((w + 1) + 2) a1.toNatClampNeg).toNatClampNeg) + a3) < (9999 : Int32) then (((qup h (w + 6) a2.toNatClampNeg ((h (w + 6) a2.toNatClampNeg) - a3)) (w + 6) (h ((w + 1) + 2) a1.toNatClampNeg).toNatClampNeg) + a3) else (9999 : Int32))) : Option (qN)) fun h560 =>
  qbind (f_X0_move N (w + 1) a1 a2 (qup h560 w 4 ((h560 w 4) + (1 : Int32)))) fun (x562, h561) =>
  some (x562, h561)
set_option maxRecDepth 100000 in
theorem t_X4_sell {d N : Nat} (hd : 4 ≤ d) (w : Nat) (a1 : Int32) (a2 : Int32) (a3 : Int32) (hw : isV w) (h : qN) {v0 : Int32} {h1 : qN} (hf : f_X4_sell N w a1 a2 a3 h = some (v0, h1)) : EE d 51 [.ref w, .int a1, .int a2, .int a3] h (some (.int v0)) h1 := by
  obtain ⟨d, rfl⟩ : ∃ d0, d = d0 + 1 := ⟨d - 1, by omega⟩
  unfold f_X4_sell at hf
  refine E_intro qm_51 qc_51 (Nat.le_of_ble_eq_true rfl) rfl rfl ?_
  show RR d cd_X4_sell (0, 0) 0 [.ref w, .int a1, .int a2, .int a3, qU] [] h (some (.int v0)) h1
  refine R_ldA rfl rfl ?_
  refine R_get rfl hw.1 rfl rfl ?_
  refine R_get rfl hw.2.1.1 rfl rfl ?_
  refine R_ldI rfl rfl ?_
  obtain ⟨c554, hf⟩ := qchk hf
  refine R_ald rfl hw.2.1.2.2.1 c554 ?_
  refine R_stI (ls' := [.ref w, .int a1, .int a2, .int a3, .int (h ((w + 1) + 2) a1.toNatClampNeg)]) rfl rfl rfl rfl ?_
  refine R_ldA rfl rfl ?_
  refine R_get rfl hw.1 rfl rfl ?_
  refine R_ldI rfl rfl ?_
  refine R_dup2 rfl rfl rfl ?_
  obtain ⟨c555, hf⟩ := qchk hf
  refine R_ald rfl hw.2.2.1 c555 ?_
  refine R_ldI rfl rfl ?_
  refine R_bin rfl ?_
  obtain ⟨c556, hf⟩ := qchk hf
  refine R_ast rfl hw.2.2.1 c556 ?_
  refine R_ldI rfl rfl ?_
  refine R_I rfl ?_
  obtain ⟨h560, e564, hf⟩ := qbind_some hf
  have key : RR d cd_X4_sell (0, 0) 50 [.ref w, .int a1, .int a2, qU, qU] [] h560 (some (.int v0)) h1 := by
    clear e564
    refine R_ldA rfl rfl ?_
    refine R_dup rfl rfl ?_
    refine R_get rfl hw.1 rfl rfl ?_
    refine R_I rfl ?_
    refine R_bin rfl ?_
    refine R_putI rfl hw.1 rfl ?_
    refine R_ldA rfl rfl ?_
    refine R_get rfl hw.1 rfl rfl ?_
    refine R_ldI rfl rfl ?_
    refine R_ldI rfl rfl ?_
    obtain ⟨⟨x562, h561⟩, e563, hf⟩ := qbind_some hf
    dsimp only at hf
    refine R_callVi (as := [.ref (w + 1), .int a1, .int a2]) (rest := []) rfl rfl hw.2.1.1 rfl rfl rfl rfl (t_X0_move (N := N) (by omega) (w + 1) a1 a2 hw.2.1 (qup h560 w 4 ((h560 w 4) + (1 : Int32))) e563) ?_
    obtain ⟨rfl, rfl⟩ := qinj2 hf
    exact R_retI rfl
  clear hf
  have hf := e564
  clear e564
  rcases qite hf with ⟨c557, hf⟩ | ⟨c557, hf⟩
  · refine R_CmEq_t rfl c557 ?_
    refine R_drop [true, true, true, false, false] (ls' := [.ref w, .int a1, .int a2, qU, qU]) rfl ?_
    obtain rfl := Option.some.inj hf
    exact key
  · refine R_CmEq_f rfl c557 ?_
    refine R_ldA rfl rfl ?_
    refine R_get rfl hw.1 rfl rfl ?_
    refine R_ldI rfl rfl ?_
    refine R_I rfl ?_
    refine R_ldA rfl rfl ?_
    refine R_get rfl hw.1 rfl rfl ?_
    refine R_ldI rfl rfl ?_
    obtain ⟨c558, hf⟩ := qchk hf
    refine R_ald rfl hw.2.2.1 c558 ?_
    refine R_ldI rfl rfl ?_
    refine R_bin rfl ?_
    refine R_min rfl rfl rfl ?_
    obtain ⟨c559, hf⟩ := qchk hf
    refine R_ast rfl hw.2.2.1 c559 ?_
    refine R_drop [true, true, true, false, false] (ls' := [.ref w, .int a1, .int a2, qU, qU]) rfl ?_
    obtain rfl := Option.some.inj hf
    exact key
