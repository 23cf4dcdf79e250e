def f_X6_copy_L101 (N : Nat) (l1 : Int32) (l2 : Int32) (l3 : Int32) (l4 : Int32) (l5 : Int32) : Nat → Int32 → qN → Option (qN)
  | 0, _, _ => none
  | n + 1, l6, h =>
    if l5 ≤ l6 then
      some h
    else
      if ((((24 : Int32) * l1) + l2) + l6) < 0 ∨ 96 ≤ ((((24 : Int32) * l1) + l2) + l6).toNatClampNeg then none else
      if l6 < 0 ∨ 24 ≤ l6.toNatClampNeg then none else
      f_X6_copy_L101 N l1 l2 l3 l4 l5 n (l6 + (1 : Int32)) (qup h 79 l6.toNatClampNeg (h 78 ((((24 : Int32) * l1) + l2) + l6).toNatClampNeg))
set_option maxRecDepth 100000 in
theorem t_X6_copy_L101 {d N : Nat} (hd : 2 ≤ d) : ∀ (n : Nat) (l1 : Int32) (l2 : Int32) (l3 : Int32) (l4 : Int32) (l5 : Int32) (l6 : Int32) (h : qN) (h2 : qN), f_X6_copy_L101 N l1 l2 l3 l4 l5 n l6 h = some h2 → ∀ (v : Option Value) (h1 : qN), RR d cd_X6_copy (0, 0) 135 [.ref 60, qU, qU, .int l3, .int l4, .int l5, qU] [] h2 v h1 → RR d cd_X6_copy (0, 0) 101 [.ref 60, .int l1, .int l2, .int l3, .int l4, .int l5, .int l6] [] h v h1 := by
  intro n
  induction n with
  | zero =>
    intro l1 l2 l3 l4 l5 l6 h h2 hf v h1 hE
    exact absurd hf (by simp [f_X6_copy_L101])
  | succ n ih =>
    intro l1 l2 l3 l4 l5 l6 h h2 hf v h1 hE
    unfold f_X6_copy_L101 at hf
    refine R_ldI rfl rfl ?_
    refine R_ldI rfl rfl ?_
    rcases qite hf with ⟨c2437, hf⟩ | ⟨c2437, hf⟩
    · refine R_CmGe_t rfl c2437 ?_
      refine R_drop [true, false, false, true, true, true, false] (ls' := [.ref 60, qU, qU, .int l3, .int l4, .int l5, qU]) rfl ?_
      obtain rfl := Option.some.inj hf
      exact hE
    · refine R_CmGe_f rfl c2437 ?_
      refine R_ldA rfl rfl ?_
      refine R_get rfl sh_60 rfl rfl ?_
      refine R_ldI rfl rfl ?_
      refine R_ldA rfl rfl ?_
      refine R_get rfl sh_60 rfl rfl ?_
      refine R_I rfl ?_
      refine R_ldI rfl rfl ?_
      refine R_bin rfl ?_
      refine R_ldI rfl rfl ?_
      refine R_bin rfl ?_
      refine R_ldI rfl rfl ?_
      refine R_bin rfl ?_
      obtain ⟨c2438, hf⟩ := qchk hf
      refine R_ald rfl sh_78 c2438 ?_
      obtain ⟨c2439, hf⟩ := qchk hf
      refine R_ast rfl sh_79 c2439 ?_
      refine R_inc (ls' := [.ref 60, .int l1, .int l2, .int l3, .int l4, .int l5, .int (l6 + (1 : Int32))]) rfl rfl rfl rfl ?_
      refine R_goto rfl ?_
      exact ih l1 l2 l3 l4 l5 (l6 + (1 : Int32)) (qup h 79 l6.toNatClampNeg (h 78 ((((24 : Int32) * l1) + l2) + l6).toNatClampNeg)) _ hf _ _ hE
def f_X6_copy_L138 (N : Nat) (l3 : Int32) (l4 : Int32) (l5 : Int32) : Nat → Int32 → qN → Option (qN)
  | 0, _, _ => none
  | n + 1, l6, h =>
    if l5 ≤ l6 then
      some h
    else
      if l6 < 0 ∨ 24 ≤ l6.toNatClampNeg then none else
      if ((((24 : Int32) * l3) + l4) + l6) < 0 ∨ 96 ≤ ((((24 : Int32) * l3) + l4) + l6).toNatClampNeg then none else
      f_X6_copy_L138 N l3 l4 l5 n (l6 + (1 : Int32)) (qup h 78 ((((24 : Int32) * l3) + l4) + l6).toNatClampNeg (h 79 l6.toNatClampNeg))
set_option maxRecDepth 100000 in
theorem t_X6_copy_L138 {d N : Nat} (hd : 2 ≤ d) : ∀ (n : Nat) (l3 : Int32) (l4 : Int32) (l5 : Int32) (l6 : Int32) (h : qN) (h2 : qN), f_X6_copy_L138 N l3 l4 l5 n l6 h = some h2 → ∀ (v : Option Value) (h1 : qN), RR d cd_X6_copy (0, 0) 173 [qU, qU, qU, qU, qU, .int l5, qU] [] h2 v h1 → RR d cd_X6_copy (0, 0) 138 [.ref 60, qU, qU, .int l3, .int l4, .int l5, .int l6] [] h v h1 := by
  intro n
  induction n with
  | zero =>
    intro l3 l4 l5 l6 h h2 hf v h1 hE
    exact absurd hf (by simp [f_X6_copy_L138])
  | succ n ih =>
    intro l3 l4 l5 l6 h h2 hf v h1 hE
    unfold f_X6_copy_L138 at hf
    refine R_ldI rfl rfl ?_
    refine R_ldI rfl rfl ?_
    rcases qite hf with ⟨c2443, hf⟩ | ⟨c2443, hf⟩
    · refine R_CmGe_t rfl c2443 ?_
      refine R_drop [false, true, true, false, false, true, false] (ls' := [qU, qU, qU, qU, qU, .int l5, qU]) rfl ?_
      obtain rfl := Option.some.inj hf
      exact hE
    · refine R_CmGe_f rfl c2443 ?_
      refine R_ldA rfl rfl ?_
      refine R_get rfl sh_60 rfl rfl ?_
      refine R_I rfl ?_
      refine R_ldI rfl rfl ?_
      refine R_bin rfl ?_
      refine R_ldI rfl rfl ?_
      refine R_bin rfl ?_
      refine R_ldI rfl rfl ?_
      refine R_bin rfl ?_
      refine R_ldA rfl rfl ?_
      refine R_get rfl sh_60 rfl rfl ?_
      refine R_ldI rfl rfl ?_
      obtain ⟨c2444, hf⟩ := qchk hf
      refine R_ald rfl sh_79 c2444 ?_
      obtain ⟨c2445, hf⟩ := qchk hf
      refine R_ast rfl sh_78 c2445 ?_
      refine R_inc (ls' := [.ref 60, qU, qU, .int l3, .int l4, .int l5, .int (l6 + (1 : Int32))]) rfl rfl rfl rfl ?_
      refine R_goto rfl ?_
      exact ih l3 l4 l5 (l6 + (1 : Int32)) (qup h 78 ((((24 : Int32) * l3) + l4) + l6).toNatClampNeg (h 79 l6.toNatClampNeg)) _ hf _ _ hE
def f_X6_copy (N : Nat) (a1 : Int32) (a2 : Int32) (a3 : Int32) (a4 : Int32) (a5 : Int32) (h : qN) : Option (Int32 × qN) :=
  qbind (f_X6_isSheet a1 h) fun (x2412, h2411) =>
  if x2412 = 0 then
    some ((-1 : Int32), h2411)
  else
    qbind (f_X6_isSheet a3 h2411) fun (x2416, h2415) =>
    if x2416 = 0 then
      some ((-1 : Int32), h2415)
    else
      if a1 < 0 ∨ 4 ≤ a1.toNatClampNeg then none else
      if (h2415 76 a1.toNatClampNeg) < 0 then
        some ((-11 : Int32), h2415)
      else
        if a3 < 0 ∨ 4 ≤ a3.toNatClampNeg then none else
        if 0 ≤ (h2415 76 a3.toNatClampNeg) then
          if a1 < 0 ∨ 4 ≤ a1.toNatClampNeg then none else
          if a3 < 0 ∨ 4 ≤ a3.toNatClampNeg then none else
          if (h2415 76 a1.toNatClampNeg) = (h2415 76 a3.toNatClampNeg) then
            if a5 < 0 then
              some ((-13 : Int32), h2415)
            else
              if a1 < 0 ∨ 4 ≤ a1.toNatClampNeg then none else
              qbind (f_X6_finds a1 (h2415 76 a1.toNatClampNeg) a2 a5 h2415) fun (x2429, h2428) =>
              if x2429 < 0 then
                some ((-13 : Int32), h2428)
              else
                if a3 < 0 ∨ 4 ≤ a3.toNatClampNeg then none else
                qbind (f_X6_finds a3 (h2428 76 a3.toNatClampNeg) a4 a5 h2428) fun (x2434, h2433) =>
                if 0 ≤ x2434 then
                  qbind (f_X6_copy_L101 N a1 a2 a3 a4 a5 N (0 : Int32) h2433) fun h2441 =>
                  qbind (f_X6_copy_L138 N a3 a4 a5 N (0 : Int32) h2441) fun h2447 =>
                  some (a5, h2447)
                else
                  some ((-13 : Int32), h2433)
          else
            some ((-12 : Int32), h2415)
        else
          some ((-11 : Int32), h2415)
set_option maxRecDepth 100000 in
theorem t_X6_copy {d N : Nat} (hd : 3 ≤ d) (a1 : Int32) (a2 : Int32) (a3 : Int32) (a4 : Int32) (a5 : Int32)  (h : qN) {v0 : Int32} {h1 : qN} (hf : f_X6_copy N a1 a2 a3 a4 a5 h = some (v0, h1)) : EE d 177 [.ref 60, .int a1, .int a2, .int a3, .int a4, .int a5] h (some (.int v0)) h1 := by
  obtain ⟨d, rfl⟩ : ∃ d0, d = d0 + 1 := ⟨d - 1, by omega⟩
  unfold f_X6_copy at hf
  refine E_intro qm_177 qc_177 (Nat.le_of_ble_eq_true rfl) rfl rfl ?_
  show RR d cd_X6_copy (0, 0) 0 [.ref 60, .int a1, .int a2, .int a3, .int a4, .int a5, qU] [] h (some (.int v0)) h1
  refine R_ldI rfl rfl ?_
  obtain ⟨⟨x2412, h2411⟩, e2413, hf⟩ := qbind_some hf
  dsimp only at hf
  refine R_callSi (as := [.int a1]) (rest := []) rfl rfl rfl rfl rfl rfl (t_X6_isSheet (by omega) a1 h e2413) ?_
  rcases qite hf with ⟨c2414, hf⟩ | ⟨c2414, hf⟩
  · refine R_IfEq_t rfl c2414 ?_
    refine R_I rfl ?_
    obtain ⟨rfl, rfl⟩ := qinj2 hf
    exact R_retI rfl
  · refine R_IfEq_f rfl c2414 ?_
    refine R_ldI rfl rfl ?_
    obtain ⟨⟨x2416, h2415⟩, e2417, hf⟩ := qbind_some hf
    dsimp only at hf
    refine R_callSi (as := [.int a3]) (rest := []) rfl rfl rfl rfl rfl rfl (t_X6_isSheet (by omega) a3 h2411 e2417) ?_
    rcases qite hf with ⟨c2418, hf⟩ | ⟨c2418, hf⟩
    · refine R_IfNe_f rfl c2418 ?_
      refine R_I rfl ?_
      obtain ⟨rfl, rfl⟩ := qinj2 hf
      exact R_retI rfl
    · refine R_IfNe_t rfl c2418 ?_
      refine R_ldA rfl rfl ?_
      refine R_get rfl sh_60 rfl rfl ?_
      refine R_ldI rfl rfl ?_
      obtain ⟨c2419, hf⟩ := qchk hf
      refine R_ald rfl sh_76 c2419 ?_
      rcases qite hf with ⟨c2420, hf⟩ | ⟨c2420, hf⟩
      · refine R_IfLt_t rfl c2420 ?_
        refine R_I rfl ?_
        obtain ⟨rfl, rfl⟩ := qinj2 hf
        exact R_retI rfl
      · refine R_IfLt_f rfl c2420 ?_
        refine R_ldA rfl rfl ?_
        refine R_get rfl sh_60 rfl rfl ?_
        refine R_ldI rfl rfl ?_
        obtain ⟨c2421, hf⟩ := qchk hf
        refine R_ald rfl sh_76 c2421 ?_
        rcases qite hf with ⟨c2422, hf⟩ | ⟨c2422, hf⟩
        · refine R_IfGe_t rfl c2422 ?_
          refine R_ldA rfl rfl ?_
          refine R_get rfl sh_60 rfl rfl ?_
          refine R_ldI rfl rfl ?_
          obtain ⟨c2423, hf⟩ := qchk hf
          refine R_ald rfl sh_76 c2423 ?_
          refine R_ldA rfl rfl ?_
          refine R_get rfl sh_60 rfl rfl ?_
          refine R_ldI rfl rfl ?_
          obtain ⟨c2424, hf⟩ := qchk hf
          refine R_ald rfl sh_76 c2424 ?_
          rcases qite hf with ⟨c2425, hf⟩ | ⟨c2425, hf⟩
          · refine R_CmEq_t rfl c2425 ?_
            refine R_ldI rfl rfl ?_
            rcases qite hf with ⟨c2426, hf⟩ | ⟨c2426, hf⟩
            · refine R_IfLt_t rfl c2426 ?_
              refine R_I rfl ?_
              obtain ⟨rfl, rfl⟩ := qinj2 hf
              exact R_retI rfl
            · refine R_IfLt_f rfl c2426 ?_
              refine R_ldA rfl rfl ?_
              refine R_ldI rfl rfl ?_
              refine R_ldA rfl rfl ?_
              refine R_get rfl sh_60 rfl rfl ?_
              refine R_ldI rfl rfl ?_
              obtain ⟨c2427, hf⟩ := qchk hf
              refine R_ald rfl sh_76 c2427 ?_
              refine R_ldI rfl rfl ?_
              refine R_ldI rfl rfl ?_
              obtain ⟨⟨x2429, h2428⟩, e2430, hf⟩ := qbind_some hf
              dsimp only at hf
              refine R_callVi (as := [.ref 60, .int a1, .int (h2415 76 a1.toNatClampNeg), .int a2, .int a5]) (rest := []) rfl rfl sh_60 rfl rfl rfl rfl (t_X6_finds (by omega) a1 (h2415 76 a1.toNatClampNeg) a2 a5 h2415 e2430) ?_
              rcases qite hf with ⟨c2431, hf⟩ | ⟨c2431, hf⟩
              · refine R_IfLt_t rfl c2431 ?_
                refine R_I rfl ?_
                obtain ⟨rfl, rfl⟩ := qinj2 hf
                exact R_retI rfl
              · refine R_IfLt_f rfl c2431 ?_
                refine R_ldA rfl rfl ?_
                refine R_ldI rfl rfl ?_
                refine R_ldA rfl rfl ?_
                refine R_get rfl sh_60 rfl rfl ?_
                refine R_ldI rfl rfl ?_
                obtain ⟨c2432, hf⟩ := qchk hf
                refine R_ald rfl sh_76 c2432 ?_
                refine R_ldI rfl rfl ?_
                refine R_ldI rfl rfl ?_
                obtain ⟨⟨x2434, h2433⟩, e2435, hf⟩ := qbind_some hf
                dsimp only at hf
                refine R_callVi (as := [.ref 60, .int a3, .int (h2428 76 a3.toNatClampNeg), .int a4, .int a5]) (rest := []) rfl rfl sh_60 rfl rfl rfl rfl (t_X6_finds (by omega) a3 (h2428 76 a3.toNatClampNeg) a4 a5 h2428 e2435) ?_
                rcases qite hf with ⟨c2436, hf⟩ | ⟨c2436, hf⟩
                · refine R_IfGe_t rfl c2436 ?_
                  refine R_I rfl ?_
                  refine R_stI (ls' := [.ref 60, .int a1, .int a2, .int a3, .int a4, .int a5, .int (0 : Int32)]) rfl rfl rfl rfl ?_
                  obtain ⟨h2441, e2442, hf⟩ := qbind_some hf
                  refine t_X6_copy_L101 (N := N) (by omega) _ a1 a2 a3 a4 a5 (0 : Int32) h2433 h2441 e2442 _ _ ?_
                  refine R_I rfl ?_
                  refine R_stI (ls' := [.ref 60, qU, qU, .int a3, .int a4, .int a5, .int (0 : Int32)]) rfl rfl rfl rfl ?_
                  obtain ⟨h2447, e2448, hf⟩ := qbind_some hf
                  refine t_X6_copy_L138 (N := N) (by omega) _ a3 a4 a5 (0 : Int32) h2441 h2447 e2448 _ _ ?_
                  refine R_ldI rfl rfl ?_
                  obtain ⟨rfl, rfl⟩ := qinj2 hf
                  exact R_retI rfl
                · refine R_IfGe_f rfl c2436 ?_
                  refine R_I rfl ?_
                  obtain ⟨rfl, rfl⟩ := qinj2 hf
                  exact R_retI rfl
          · refine R_CmEq_f rfl c2425 ?_
            refine R_I rfl ?_
            obtain ⟨rfl, rfl⟩ := qinj2 hf
            exact R_retI rfl
        · refine R_IfGe_f rfl c2422 ?_
          refine R_I rfl ?_
          obtain ⟨rfl, rfl⟩ := qinj2 hf
          exact R_retI rfl
