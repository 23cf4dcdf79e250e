def f_X5_gain (N : Nat) (a1 : Int32) (a2 : Int32) (a3 : Int32) (h : qN) : Option (Int32 × qN) :=
  qbind (f_X5_isThing a1 h) fun (x849, h848) =>
  if x849 = 0 then
    some ((-100001 : Int32), h848)
  else
    qbind (f_X5_isPerson a2 h848) fun (x853, h852) =>
    if x853 = 0 then
      some ((-100001 : Int32), h852)
    else
      qbind (f_X5_isWithin a3 (1 : Int32) h852) fun (x857, h856) =>
      if x857 = 0 then
        some ((-100001 : Int32), h856)
      else
        if a1 < 0 ∨ 8 ≤ a1.toNatClampNeg then none else
        if (h856 4 a1.toNatClampNeg) = a2 then
          some ((-100002 : Int32), h856)
        else
          qbind (f_X5_trySale N a1 a2 h856) fun h862 =>
          if a3 = 0 then
            qbind (f_X5_gainOf N (h856 4 a1.toNatClampNeg) h862) fun (x866, h865) =>
            some (x866, h865)
          else
            qbind (f_X5_gainOf N a2 h862) fun (x869, h868) =>
            some (x869, h868)
set_option maxRecDepth 100000 in
theorem t_X5_gain {d N : Nat} (hd : 5 ≤ d) (a1 : Int32) (a2 : Int32) (a3 : Int32)  (h : qN) {v0 : Int32} {h1 : qN} (hf : f_X5_gain N a1 a2 a3 h = some (v0, h1)) : EE d 73 [.ref 0, .int a1, .int a2, .int a3] h (some (.int v0)) h1 := by
  obtain ⟨d, rfl⟩ : ∃ d0, d = d0 + 1 := ⟨d - 1, by omega⟩
  unfold f_X5_gain at hf
  refine E_intro qm_73 qc_73 (Nat.le_of_ble_eq_true rfl) rfl rfl ?_
  show RR d cd_X5_gain (0, 0) 0 [.ref 0, .int a1, .int a2, .int a3, qU] [] h (some (.int v0)) h1
  refine R_ldA rfl rfl ?_
  refine R_ldI rfl rfl ?_
  obtain ⟨⟨x849, h848⟩, e850, hf⟩ := qbind_some hf
  dsimp only at hf
  refine R_callVi (as := [.ref 0, .int a1]) (rest := []) rfl rfl sh_0 rfl rfl rfl rfl (t_X5_isThing (by omega) a1 h e850) ?_
  rcases qite hf with ⟨c851, hf⟩ | ⟨c851, hf⟩
  · refine R_IfEq_t rfl c851 ?_
    refine R_I rfl ?_
    obtain ⟨rfl, rfl⟩ := qinj2 hf
    exact R_retI rfl
  · refine R_IfEq_f rfl c851 ?_
    refine R_ldI rfl rfl ?_
    obtain ⟨⟨x853, h852⟩, e854, hf⟩ := qbind_some hf
    dsimp only at hf
    refine R_callSi (as := [.int a2]) (rest := []) rfl rfl rfl rfl rfl rfl (t_X5_isPerson (by omega) a2 h848 e854) ?_
    rcases qite hf with ⟨c855, hf⟩ | ⟨c855, hf⟩
    · refine R_IfEq_t rfl c855 ?_
      refine R_I rfl ?_
      obtain ⟨rfl, rfl⟩ := qinj2 hf
      exact R_retI rfl
    · refine R_IfEq_f rfl c855 ?_
      refine R_ldI rfl rfl ?_
      refine R_I rfl ?_
      obtain ⟨⟨x857, h856⟩, e858, hf⟩ := qbind_some hf
      dsimp only at hf
      refine R_callSi (as := [.int a3, .int (1 : Int32)]) (rest := []) rfl rfl rfl rfl rfl rfl (t_X5_isWithin (by omega) a3 (1 : Int32) h852 e858) ?_
      rcases qite hf with ⟨c859, hf⟩ | ⟨c859, hf⟩
      · refine R_IfNe_f rfl c859 ?_
        refine R_I rfl ?_
        obtain ⟨rfl, rfl⟩ := qinj2 hf
        exact R_retI rfl
      · refine R_IfNe_t rfl c859 ?_
        refine R_ldA rfl rfl ?_
        refine R_get rfl sh_0 rfl rfl ?_
        refine R_get rfl sh_1 rfl rfl ?_
        refine R_get rfl sh_2 rfl rfl ?_
        refine R_ldI rfl rfl ?_
        obtain ⟨c860, hf⟩ := qchk hf
        refine R_ald rfl sh_4 c860 ?_
        refine R_stI (ls' := [.ref 0, .int a1, .int a2, .int a3, .int (h856 4 a1.toNatClampNeg)]) rfl rfl rfl rfl ?_
        refine R_ldI rfl rfl ?_
        refine R_ldI rfl rfl ?_
        rcases qite hf with ⟨c861, hf⟩ | ⟨c861, hf⟩
        · refine R_CmNe_f rfl c861 ?_
          refine R_I rfl ?_
          obtain ⟨rfl, rfl⟩ := qinj2 hf
          exact R_retI rfl
        · refine R_CmNe_t rfl c861 ?_
          refine R_ldA rfl rfl ?_
          refine R_ldI rfl rfl ?_
          refine R_ldI rfl rfl ?_
          obtain ⟨h862, e863, hf⟩ := qbind_some hf
          refine R_callVv (as := [.ref 0, .int a1, .int a2]) (rest := []) rfl rfl sh_0 rfl rfl rfl rfl (t_X5_trySale (N := N) (by omega) a1 a2 h856 e863) ?_
          refine R_ldA rfl rfl ?_
          refine R_ldI rfl rfl ?_
          rcases qite hf with ⟨c864, hf⟩ | ⟨c864, hf⟩
          · refine R_IfNe_f rfl c864 ?_
            refine R_ldI rfl rfl ?_
            refine R_goto rfl ?_
            obtain ⟨⟨x866, h865⟩, e867, hf⟩ := qbind_some hf
            dsimp only at hf
            refine R_callVi (as := [.ref 0, .int (h856 4 a1.toNatClampNeg)]) (rest := []) rfl rfl sh_0 rfl rfl rfl rfl (t_X5_gainOf (N := N) (by omega) (h856 4 a1.toNatClampNeg) h862 e867) ?_
            obtain ⟨rfl, rfl⟩ := qinj2 hf
            exact R_retI rfl
          · refine R_IfNe_t rfl c864 ?_
            refine R_ldI rfl rfl ?_
            obtain ⟨⟨x869, h868⟩, e870, hf⟩ := qbind_some hf
            dsimp only at hf
            refine R_callVi (as := [.ref 0, .int a2]) (rest := []) rfl rfl sh_0 rfl rfl rfl rfl (t_X5_gainOf (N := N) (by omega) a2 h862 e870) ?_
            obtain ⟨rfl, rfl⟩ := qinj2 hf
            exact R_retI rfl
def f_X5_agreed (N : Nat) (a1 : Int32) (a2 : Int32) (h : qN) : Option (Int32 × qN) :=
  qbind (f_X5_isThing a1 h) fun (x872, h871) =>
  if x872 = 0 then
    some ((-1 : Int32), h871)
  else
    qbind (f_X5_isPerson a2 h871) fun (x876, h875) =>
    if x876 = 0 then
      some ((-1 : Int32), h875)
    else
      if a1 < 0 ∨ 8 ≤ a1.toNatClampNeg then none else
      if (h875 4 a1.toNatClampNeg) = (6 : Int32) then
        some ((-2 : Int32), h875)
      else
        if (h875 4 a1.toNatClampNeg) = a2 then
          some ((-2 : Int32), h875)
        else
          qbind (f_X5_trySale N a1 a2 h875) fun h882 =>
          qbind (f_X5_gainOf N (h875 4 a1.toNatClampNeg) h882) fun (x885, h884) =>
          qbind (
              if (999 : Int32) < (if (0 : Int32) < ((1 : Int32) - x885) then ((1 : Int32) - x885) else (0 : Int32)) then
                some ((0 : Int32), h884)
              else
                if a2 < 0 ∨ 6 ≤ a2.toNatClampNeg then none else
                if (h884 7 a2.toNatClampNeg) < (if (0 : Int32) < ((1 : Int32) - x885) then ((1 : Int32) - x885) else (0 : Int32)) then
                  some ((0 : Int32), h884)
                else
                  qbind (f_X5_gainOf N a2 h884) fun (x891, h890) =>
                  if x891 ≤ (if (0 : Int32) < ((1 : Int32) - x885) then ((1 : Int32) - x885) else (0 : Int32)) then
                    some ((0 : Int32), h890)
                  else
                    some ((1 : Int32), h890) : Option (Int32 × qN)) fun (x894, h895) =>
          if x894 = 0 then
            some ((-4 : Int32), h895)
          else
            some ((if (0 : Int32) < ((1 : Int32) - x885) then ((1 : Int32) - x885) else (0 : Int32)), h895)
set_option maxRecDepth 100000 in
theorem t_X5_agreed {d N : Nat} (hd : 5 ≤ d) (a1 : Int32) (a2 : Int32)  (h : qN) {v0 : Int32} {h1 : qN} (hf : f_X5_agreed N a1 a2 h = some (v0, h1)) : EE d 74 [.ref 0, .int a1, .int a2] h (some (.int v0)) h1 := by
  obtain ⟨d, rfl⟩ : ∃ d0, d = d0 + 1 := ⟨d - 1, by omega⟩
  unfold f_X5_agreed at hf
  refine E_intro qm_74 qc_74 (Nat.le_of_ble_eq_true rfl) rfl rfl ?_
  show RR d cd_X5_agreed (0, 0) 0 [.ref 0, .int a1, .int a2, qU, qU, qU] [] h (some (.int v0)) h1
  refine R_ldA rfl rfl ?_
  refine R_ldI rfl rfl ?_
  obtain ⟨⟨x872, h871⟩, e873, hf⟩ := qbind_some hf
  dsimp only at hf
  refine R_callVi (as := [.ref 0, .int a1]) (rest := []) rfl rfl sh_0 rfl rfl rfl rfl (t_X5_isThing (by omega) a1 h e873) ?_
  rcases qite hf with ⟨c874, hf⟩ | ⟨c874, hf⟩
  · refine R_IfEq_t rfl c874 ?_
    refine R_I rfl ?_
    obtain ⟨rfl, rfl⟩ := qinj2 hf
    exact R_retI rfl
  · refine R_IfEq_f rfl c874 ?_
    refine R_ldI rfl rfl ?_
    obtain ⟨⟨x876, h875⟩, e877, hf⟩ := qbind_some hf
    dsimp only at hf
    refine R_callSi (as := [.int a2]) (rest := []) rfl rfl rfl rfl rfl rfl (t_X5_isPerson (by omega) a2 h871 e877) ?_
    rcases qite hf with ⟨c878, hf⟩ | ⟨c878, hf⟩
    · refine R_IfNe_f rfl c878 ?_
      refine R_I rfl ?_
      obtain ⟨rfl, rfl⟩ := qinj2 hf
      exact R_retI rfl
    · refine R_IfNe_t rfl c878 ?_
      refine R_ldA rfl rfl ?_
      refine R_get rfl sh_0 rfl rfl ?_
      refine R_get rfl sh_1 rfl rfl ?_
      refine R_get rfl sh_2 rfl rfl ?_
      refine R_ldI rfl rfl ?_
      obtain ⟨c879, hf⟩ := qchk hf
      refine R_ald rfl sh_4 c879 ?_
      refine R_stI (ls' := [.ref 0, .int a1, .int a2, .int (h875 4 a1.toNatClampNeg), qU, qU]) rfl rfl rfl rfl ?_
      refine R_ldI rfl rfl ?_
      refine R_I rfl ?_
      rcases qite hf with ⟨c880, hf⟩ | ⟨c880, hf⟩
      · refine R_CmEq_t rfl c880 ?_
        refine R_I rfl ?_
        obtain ⟨rfl, rfl⟩ := qinj2 hf
        exact R_retI rfl
      · refine R_CmEq_f rfl c880 ?_
        refine R_ldI rfl rfl ?_
        refine R_ldI rfl rfl ?_
        rcases qite hf with ⟨c881, hf⟩ | ⟨c881, hf⟩
        · refine R_CmNe_f rfl c881 ?_
          refine R_I rfl ?_
          obtain ⟨rfl, rfl⟩ := qinj2 hf
          exact R_retI rfl
        · refine R_CmNe_t rfl c881 ?_
          refine R_ldA rfl rfl ?_
          refine R_ldI rfl rfl ?_
          refine R_ldI rfl rfl ?_
          obtain ⟨h882, e883, hf⟩ := qbind_some hf
          refine R_callVv (as := [.ref 0, .int a1, .int a2]) (rest := []) rfl rfl sh_0 rfl rfl rfl rfl (t_X5_trySale (N := N) (by omega) a1 a2 h875 e883) ?_
          refine R_I rfl ?_
          refine R_I rfl ?_
          refine R_ldA rfl rfl ?_
          refine R_ldI rfl rfl ?_
          obtain ⟨⟨x885, h884⟩, e886, hf⟩ := qbind_some hf
          dsimp only at hf
          refine R_callVi (as := [.ref 0, .int (h875 4 a1.toNatClampNeg)]) (rest := [.int (1 : Int32), .int (0 : Int32)]) rfl rfl sh_0 rfl rfl rfl rfl (t_X5_gainOf (N := N) (by omega) (h875 4 a1.toNatClampNeg) h882 e886) ?_
          refine R_bin rfl ?_
          refine R_max rfl rfl rfl ?_
          refine R_stI (ls' := [.ref 0, .int a1, .int a2, .int (h875 4 a1.toNatClampNeg), .int (if (0 : Int32) < ((1 : Int32) - x885) then ((1 : Int32) - x885) else (0 : Int32)), qU]) rfl rfl rfl rfl ?_
          refine R_ldI rfl rfl ?_
          refine R_I rfl ?_
          obtain ⟨⟨x894, h895⟩, e897, hf⟩ := qbind_some hf
          dsimp only at hf
          have key : RR d cd_X5_agreed (0, 0) 100 [qU, qU, qU, qU, .int (if (0 : Int32) < ((1 : Int32) - x885) then ((1 : Int32) - x885) else (0 : Int32)), qU] [.int x894] h895 (some (.int v0)) h1 := by
            clear e897
            refine R_stI (ls' := [qU, qU, qU, qU, .int (if (0 : Int32) < ((1 : Int32) - x885) then ((1 : Int32) - x885) else (0 : Int32)), .int x894]) rfl rfl rfl rfl ?_
            refine R_ldI rfl rfl ?_
            rcases qite hf with ⟨c896, hf⟩ | ⟨c896, hf⟩
            · refine R_IfEq_t rfl c896 ?_
              refine R_I rfl ?_
              obtain ⟨rfl, rfl⟩ := qinj2 hf
              exact R_retI rfl
            · refine R_IfEq_f rfl c896 ?_
              refine R_ldI rfl rfl ?_
              refine R_goto rfl ?_
              obtain ⟨rfl, rfl⟩ := qinj2 hf
              exact R_retI rfl
          clear hf
          have hf := e897
          clear e897
          rcases qite hf with ⟨c887, hf⟩ | ⟨c887, hf⟩
          · refine R_CmGt_t rfl c887 ?_
            refine R_I rfl ?_
            refine R_drop [false, false, false, false, true, true] (ls' := [qU, qU, qU, qU, .int (if (0 : Int32) < ((1 : Int32) - x885) then ((1 : Int32) - x885) else (0 : Int32)), qU]) rfl ?_
            obtain ⟨rfl, rfl⟩ := qinj2 hf
            exact key
          · refine R_CmGt_f rfl c887 ?_
            refine R_ldI rfl rfl ?_
            refine R_ldA rfl rfl ?_
            refine R_get rfl sh_0 rfl rfl ?_
            refine R_get rfl sh_1 rfl rfl ?_
            refine R_ldI rfl rfl ?_
            obtain ⟨c888, hf⟩ := qchk hf
            refine R_ald rfl sh_7 c888 ?_
            rcases qite hf with ⟨c889, hf⟩ | ⟨c889, hf⟩
            · refine R_CmGt_t rfl c889 ?_
              refine R_I rfl ?_
              refine R_drop [false, false, false, false, true, true] (ls' := [qU, qU, qU, qU, .int (if (0 : Int32) < ((1 : Int32) - x885) then ((1 : Int32) - x885) else (0 : Int32)), qU]) rfl ?_
              obtain ⟨rfl, rfl⟩ := qinj2 hf
              exact key
            · refine R_CmGt_f rfl c889 ?_
              refine R_ldA rfl rfl ?_
              refine R_ldI rfl rfl ?_
              obtain ⟨⟨x891, h890⟩, e892, hf⟩ := qbind_some hf
              dsimp only at hf
              refine R_callVi (as := [.ref 0, .int a2]) (rest := []) rfl rfl sh_0 rfl rfl rfl rfl (t_X5_gainOf (N := N) (by omega) a2 h884 e892) ?_
              refine R_ldI rfl rfl ?_
              rcases qite hf with ⟨c893, hf⟩ | ⟨c893, hf⟩
              · refine R_CmLe_t rfl c893 ?_
                refine R_I rfl ?_
                refine R_drop [false, false, false, false, true, true] (ls' := [qU, qU, qU, qU, .int (if (0 : Int32) < ((1 : Int32) - x885) then ((1 : Int32) - x885) else (0 : Int32)), qU]) rfl ?_
                obtain ⟨rfl, rfl⟩ := qinj2 hf
                exact key
              · refine R_CmLe_f rfl c893 ?_
                refine R_I rfl ?_
                refine R_goto rfl ?_
                refine R_drop [false, false, false, false, true, true] (ls' := [qU, qU, qU, qU, .int (if (0 : Int32) < ((1 : Int32) - x885) then ((1 : Int32) - x885) else (0 : Int32)), qU]) rfl ?_
                obtain ⟨rfl, rfl⟩ := qinj2 hf
                exact key
def f_X5_makeFirstAgreed_L18 (N : Nat) (l1 : Int32) : Nat → Int32 → qN → Option ((Int32 × qN) ⊕ (qN))
  | 0, _, _ => none
  | n + 1, l2, h =>
    if (6 : Int32) ≤ l2 then
      some (.inr h)
    else
      qbind (f_X5_agreed N l1 l2 h) fun (x901, h900) =>
      if x901 < 0 then
        f_X5_makeFirstAgreed_L18 N l1 n (l2 + (1 : Int32)) h900
      else
        qbind (f_X4_sell N 1 l1 l2 x901 h900) fun (x905, h904) =>
        some (.inl ((1 : Int32), h904))
set_option maxRecDepth 100000 in
theorem t_X5_makeFirstAgreed_L18 {d N : Nat} (hd : 5 ≤ d) : ∀ (n : Nat) (l1 : Int32) (l2 : Int32) (h : qN) (res : (Int32 × qN) ⊕ (qN)), f_X5_makeFirstAgreed_L18 N l1 n l2 h = some res → ∀ (v : Option Value) (h1 : qN), (∀ (rv : Int32) (rh : qN), res = .inl (rv, rh) → v = some (.int rv) ∧ h1 = rh) → (∀ (h2 : qN), res = .inr h2 → RR d cd_X5_makeFirstAgreed (0, 0) 54 [.ref 0, .int l1, qU, qU] [] h2 v h1) → RR d cd_X5_makeFirstAgreed (0, 0) 18 [.ref 0, .int l1, .int l2, qU] [] h v h1 := by
  intro n
  induction n with
  | zero =>
    intro l1 l2 h res hf v h1 hR hE
    exact absurd hf (by simp [f_X5_makeFirstAgreed_L18])
  | succ n ih =>
    intro l1 l2 h res hf v h1 hR hE
    unfold f_X5_makeFirstAgreed_L18 at hf
    refine R_ldI rfl rfl ?_
    refine R_I rfl ?_
    rcases qite hf with ⟨c899, hf⟩ | ⟨c899, hf⟩
    · refine R_CmGe_t rfl c899 ?_
      refine R_drop [true, true, false, true] (ls' := [.ref 0, .int l1, qU, qU]) rfl ?_
      obtain rfl := Option.some.inj hf
      exact hE _ rfl
    · refine R_CmGe_f rfl c899 ?_
      refine R_ldA rfl rfl ?_
      refine R_ldI rfl rfl ?_
      refine R_ldI rfl rfl ?_
      obtain ⟨⟨x901, h900⟩, e902, hf⟩ := qbind_some hf
      dsimp only at hf
      refine R_callVi (as := [.ref 0, .int l1, .int l2]) (rest := []) rfl rfl sh_0 rfl rfl rfl rfl (t_X5_agreed (N := N) (by omega) l1 l2 h e902) ?_
      refine R_stI (ls' := [.ref 0, .int l1, .int l2, .int x901]) rfl rfl rfl rfl ?_
      refine R_ldI rfl rfl ?_
      rcases qite hf with ⟨c903, hf⟩ | ⟨c903, hf⟩
      · refine R_IfLt_t rfl c903 ?_
        refine R_inc (ls' := [.ref 0, .int l1, .int (l2 + (1 : Int32)), .int x901]) rfl rfl rfl rfl ?_
        refine R_goto rfl ?_
        refine R_drop [true, true, true, false] (ls' := [.ref 0, .int l1, .int (l2 + (1 : Int32)), qU]) rfl ?_
        exact ih l1 (l2 + (1 : Int32)) h900 _ hf _ _ hR hE
      · refine R_IfLt_f rfl c903 ?_
        refine R_ldA rfl rfl ?_
        refine R_get rfl sh_0 rfl rfl ?_
        refine R_ldI rfl rfl ?_
        refine R_ldI rfl rfl ?_
        refine R_ldI rfl rfl ?_
        obtain ⟨⟨x905, h904⟩, e906, hf⟩ := qbind_some hf
        dsimp only at hf
        refine R_callVi (as := [.ref 1, .int l1, .int l2, .int x901]) (rest := []) rfl rfl sh_1 rfl rfl rfl rfl (t_X4_sell (N := N) (by omega) 1 l1 l2 x901 isV_1 h900 e906) ?_
        refine R_pop rfl rfl ?_
        refine R_I rfl ?_
        obtain rfl := Option.some.inj hf
        obtain ⟨rfl, rfl⟩ := hR _ _ rfl
        exact R_retZ rfl (by decide)
def f_X5_makeFirstAgreed_L2 (N : Nat) : Nat → Int32 → qN → Option ((Int32 × qN) ⊕ (qN))
  | 0, _, _ => none
  | n + 1, l1, h =>
    if (h 2 4) ≤ l1 then
      some (.inr h)
    else
      qbind (f_X5_makeFirstAgreed_L18 N l1 N (0 : Int32) h) fun
        | .inl (x910, h911) => some (.inl (x910, h911))
        | .inr h908 =>
          f_X5_makeFirstAgreed_L2 N n (l1 + (1 : Int32)) h908
set_option maxRecDepth 100000 in
theorem t_X5_makeFirstAgreed_L2 {d N : Nat} (hd : 5 ≤ d) : ∀ (n : Nat) (l1 : Int32) (h : qN) (res : (Int32 × qN) ⊕ (qN)), f_X5_makeFirstAgreed_L2 N n l1 h = some res → ∀ (v : Option Value) (h1 : qN), (∀ (rv : Int32) (rh : qN), res = .inl (rv, rh) → v = some (.int rv) ∧ h1 = rh) → (∀ (h2 : qN), res = .inr h2 → RR d cd_X5_makeFirstAgreed (0, 0) 60 [qU, qU, qU, qU] [] h2 v h1) → RR d cd_X5_makeFirstAgreed (0, 0) 2 [.ref 0, .int l1, qU, qU] [] h v h1 := by
  intro n
  induction n with
  | zero =>
    intro l1 h res hf v h1 hR hE
    exact absurd hf (by simp [f_X5_makeFirstAgreed_L2])
  | succ n ih =>
    intro l1 h res hf v h1 hR hE
    unfold f_X5_makeFirstAgreed_L2 at hf
    refine R_ldI rfl rfl ?_
    refine R_ldA rfl rfl ?_
    refine R_get rfl sh_0 rfl rfl ?_
    refine R_get rfl sh_1 rfl rfl ?_
    refine R_get rfl sh_2 rfl rfl ?_
    rcases qite hf with ⟨c898, hf⟩ | ⟨c898, hf⟩
    · refine R_CmGe_t rfl c898 ?_
      refine R_drop [false, false, true, true] (ls' := [qU, qU, qU, qU]) rfl ?_
      obtain rfl := Option.some.inj hf
      exact hE _ rfl
    · refine R_CmGe_f rfl c898 ?_
      refine R_I rfl ?_
      refine R_stI (ls' := [.ref 0, .int l1, .int (0 : Int32), qU]) rfl rfl rfl rfl ?_
      obtain ⟨⟨x910, h911⟩ | h908, e909, hf⟩ := qbind_some hf
      · dsimp only at hf
        refine t_X5_makeFirstAgreed_L18 (N := N) (by omega) _ l1 (0 : Int32) h _ e909 _ _ (fun rv rh he => ?_) (fun _ he => by cases he)
        cases he
        obtain rfl := Option.some.inj hf
        exact hR _ _ rfl
      · dsimp only at hf
        refine t_X5_makeFirstAgreed_L18 (N := N) (by omega) _ l1 (0 : Int32) h _ e909 _ _ (fun _ _ he => by cases he) (fun z0 he => ?_)
        cases he
        refine R_inc (ls' := [.ref 0, .int (l1 + (1 : Int32)), qU, qU]) rfl rfl rfl rfl ?_
        refine R_goto rfl ?_
        exact ih  (l1 + (1 : Int32)) h908 _ hf _ _ hR hE
def f_X5_makeFirstAgreed (N : Nat) (h : qN) : Option (Int32 × qN) :=
  qbind (f_X5_makeFirstAgreed_L2 N N (0 : Int32) h) fun
    | .inl (x915, h916) => some (x915, h916)
    | .inr h913 =>
      some ((0 : Int32), h913)
set_option maxRecDepth 100000 in
theorem t_X5_makeFirstAgreed {d N : Nat} (hd : 6 ≤ d)   (h : qN) {v0 : Int32} {h1 : qN} (hf : f_X5_makeFirstAgreed N  h = some (v0, h1)) : EE d 100 [.ref 0] h (some (.int v0)) h1 := by
  obtain ⟨d, rfl⟩ : ∃ d0, d = d0 + 1 := ⟨d - 1, by omega⟩
  unfold f_X5_makeFirstAgreed at hf
  refine E_intro qm_100 qc_100 (Nat.le_of_ble_eq_true rfl) rfl rfl ?_
  show RR d cd_X5_makeFirstAgreed (0, 0) 0 [.ref 0, qU, qU, qU] [] h (some (.int v0)) h1
  refine R_I rfl ?_
  refine R_stI (ls' := [.ref 0, .int (0 : Int32), qU, qU]) rfl rfl rfl rfl ?_
  obtain ⟨⟨x915, h916⟩ | h913, e914, hf⟩ := qbind_some hf
  · dsimp only at hf
    refine t_X5_makeFirstAgreed_L2 (N := N) (by omega) _  (0 : Int32) h _ e914 _ _ (fun rv rh he => ?_) (fun _ he => by cases he)
    cases he
    obtain ⟨rfl, rfl⟩ := qinj2 hf
    exact ⟨rfl, rfl⟩
  · dsimp only at hf
    refine t_X5_makeFirstAgreed_L2 (N := N) (by omega) _  (0 : Int32) h _ e914 _ _ (fun _ _ he => by cases he) (fun z0 he => ?_)
    cases he
    refine R_I rfl ?_
    obtain ⟨rfl, rfl⟩ := qinj2 hf
    exact R_retZ rfl (by decide)
def f_X5_rest_L15 (N : Nat) (l1 : Int32) : Nat → Int32 → qN → Option (Int32 × qN)
  | 0, _, _ => none
  | n + 1, l2, h =>
    if l1 ≤ l2 then
      some (l2, h)
    else
      qbind (f_X5_makeFirstAgreed N  h) fun (x921, h920) =>
      if x921 = 0 then
        some (l2, h920)
      else
        f_X5_rest_L15 N l1 n (l2 + (1 : Int32)) h920
set_option maxRecDepth 100000 in
theorem t_X5_rest_L15 {d N : Nat} (hd : 6 ≤ d) : ∀ (n : Nat) (l1 : Int32) (l2 : Int32) (h : qN) (y2 : Int32) (h2 : qN), f_X5_rest_L15 N l1 n l2 h = some (y2, h2) → ∀ (v : Option Value) (h1 : qN), RR d cd_X5_rest (0, 0) 33 [qU, qU, .int y2] [] h2 v h1 → RR d cd_X5_rest (0, 0) 15 [.ref 0, .int l1, .int l2] [] h v h1 := by
  intro n
  induction n with
  | zero =>
    intro l1 l2 h y2 h2 hf v h1 hE
    exact absurd hf (by simp [f_X5_rest_L15])
  | succ n ih =>
    intro l1 l2 h y2 h2 hf v h1 hE
    unfold f_X5_rest_L15 at hf
    refine R_ldI rfl rfl ?_
    refine R_ldI rfl rfl ?_
    rcases qite hf with ⟨c919, hf⟩ | ⟨c919, hf⟩
    · refine R_CmGe_t rfl c919 ?_
      refine R_drop [false, false, true] (ls' := [qU, qU, .int l2]) rfl ?_
      obtain ⟨rfl, rfl⟩ := qinj2 hf
      exact hE
    · refine R_CmGe_f rfl c919 ?_
      refine R_ldA rfl rfl ?_
      obtain ⟨⟨x921, h920⟩, e922, hf⟩ := qbind_some hf
      dsimp only at hf
      refine R_callVi (as := [.ref 0]) (rest := []) rfl rfl sh_0 rfl rfl rfl rfl (t_X5_makeFirstAgreed (N := N) (by omega)  h e922) ?_
      rcases qite hf with ⟨c923, hf⟩ | ⟨c923, hf⟩
      · refine R_IfEq_t rfl c923 ?_
        refine R_drop [false, false, true] (ls' := [qU, qU, .int l2]) rfl ?_
        obtain ⟨rfl, rfl⟩ := qinj2 hf
        exact hE
      · refine R_IfEq_f rfl c923 ?_
        refine R_inc (ls' := [.ref 0, .int l1, .int (l2 + (1 : Int32))]) rfl rfl rfl rfl ?_
        refine R_goto rfl ?_
        exact ih l1 (l2 + (1 : Int32)) h920 _ _ hf _ _ hE
def f_X5_rest (N : Nat) (a1 : Int32) (h : qN) : Option (Int32 × qN) :=
  if a1 < (1 : Int32) then
    some ((-1 : Int32), h)
  else
    if a1 ≤ (60 : Int32) then
      qbind (f_X5_rest_L15 N a1 N (0 : Int32) h) fun (x925, h926) =>
      some (x925, h926)
    else
      some ((-1 : Int32), h)
set_option maxRecDepth 100000 in
theorem t_X5_rest {d N : Nat} (hd : 7 ≤ d) (a1 : Int32)  (h : qN) {v0 : Int32} {h1 : qN} (hf : f_X5_rest N a1 h = some (v0, h1)) : EE d 75 [.ref 0, .int a1] h (some (.int v0)) h1 := by
  obtain ⟨d, rfl⟩ : ∃ d0, d = d0 + 1 := ⟨d - 1, by omega⟩
  unfold f_X5_rest at hf
  refine E_intro qm_75 qc_75 (Nat.le_of_ble_eq_true rfl) rfl rfl ?_
  show RR d cd_X5_rest (0, 0) 0 [.ref 0, .int a1, qU] [] h (some (.int v0)) h1
  refine R_ldI rfl rfl ?_
  refine R_I rfl ?_
  rcases qite hf with ⟨c917, hf⟩ | ⟨c917, hf⟩
  · refine R_CmLt_t rfl c917 ?_
    refine R_I rfl ?_
    obtain ⟨rfl, rfl⟩ := qinj2 hf
    exact R_retI rfl
  · refine R_CmLt_f rfl c917 ?_
    refine R_ldI rfl rfl ?_
    refine R_I rfl ?_
    rcases qite hf with ⟨c918, hf⟩ | ⟨c918, hf⟩
    · refine R_CmLe_t rfl c918 ?_
      refine R_I rfl ?_
      refine R_stI (ls' := [.ref 0, .int a1, .int (0 : Int32)]) rfl rfl rfl rfl ?_
      obtain ⟨⟨x925, h926⟩, e927, hf⟩ := qbind_some hf
      dsimp only at hf
      refine t_X5_rest_L15 (N := N) (by omega) _ a1 (0 : Int32) h x925 h926 e927 _ _ ?_
      refine R_ldI rfl rfl ?_
      obtain ⟨rfl, rfl⟩ := qinj2 hf
      exact R_retI rfl
    · refine R_CmLe_f rfl c918 ?_
      refine R_I rfl ?_
      obtain ⟨rfl, rfl⟩ := qinj2 hf
      exact R_retI rfl
def f_X5_group (N : Nat) (a1 : Int32) (h : qN) : Option (Int32 × qN) :=
  if a1 = (-1 : Int32) then
    qbind (f_X0_countGroups N 2 h) fun (x932, h931) =>
    some (x932, h931)
  else
    qbind (f_X5_isThing a1 h) fun (x935, h934) =>
    if x935 = 0 then
      some ((-1 : Int32), h934)
    else
      qbind (f_X0_groupOf N 2 a1 h934) fun (x939, h938) =>
      some (x939, h938)
set_option maxRecDepth 100000 in
theorem t_X5_group {d N : Nat} (hd : 5 ≤ d) (a1 : Int32)  (h : qN) {v0 : Int32} {h1 : qN} (hf : f_X5_group N a1 h = some (v0, h1)) : EE d 76 [.ref 0, .int a1] h (some (.int v0)) h1 := by
  obtain ⟨d, rfl⟩ : ∃ d0, d = d0 + 1 := ⟨d - 1, by omega⟩
  unfold f_X5_group at hf
  refine E_intro qm_76 qc_76 (Nat.le_of_ble_eq_true rfl) rfl rfl ?_
  show RR d cd_X5_group (0, 0) 0 [.ref 0, .int a1] [] h (some (.int v0)) h1
  refine R_ldI rfl rfl ?_
  refine R_I rfl ?_
  rcases qite hf with ⟨c930, hf⟩ | ⟨c930, hf⟩
  · refine R_CmNe_f rfl c930 ?_
    refine R_ldA rfl rfl ?_
    refine R_get rfl sh_0 rfl rfl ?_
    refine R_get rfl sh_1 rfl rfl ?_
    obtain ⟨⟨x932, h931⟩, e933, hf⟩ := qbind_some hf
    dsimp only at hf
    refine R_callVi (as := [.ref 2]) (rest := []) rfl rfl sh_2 rfl rfl rfl rfl (t_X0_countGroups (N := N) (by omega) 2 isC_2 h e933) ?_
    obtain ⟨rfl, rfl⟩ := qinj2 hf
    exact R_retI rfl
  · refine R_CmNe_t rfl c930 ?_
    refine R_ldA rfl rfl ?_
    refine R_ldI rfl rfl ?_
    obtain ⟨⟨x935, h934⟩, e936, hf⟩ := qbind_some hf
    dsimp only at hf
    refine R_callVi (as := [.ref 0, .int a1]) (rest := []) rfl rfl sh_0 rfl rfl rfl rfl (t_X5_isThing (by omega) a1 h e936) ?_
    rcases qite hf with ⟨c937, hf⟩ | ⟨c937, hf⟩
    · refine R_IfEq_t rfl c937 ?_
      refine R_I rfl ?_
      obtain ⟨rfl, rfl⟩ := qinj2 hf
      exact R_retI rfl
    · refine R_IfEq_f rfl c937 ?_
      refine R_ldA rfl rfl ?_
      refine R_get rfl sh_0 rfl rfl ?_
      refine R_get rfl sh_1 rfl rfl ?_
      refine R_ldI rfl rfl ?_
      obtain ⟨⟨x939, h938⟩, e940, hf⟩ := qbind_some hf
      dsimp only at hf
      refine R_callVi (as := [.ref 2, .int a1]) (rest := []) rfl rfl sh_2 rfl rfl rfl rfl (t_X0_groupOf (N := N) (by omega) 2 a1 isC_2 h934 e940) ?_
      refine R_goto rfl ?_
      obtain ⟨rfl, rfl⟩ := qinj2 hf
      exact R_retI rfl
def f_X5_never (N : Nat) (h : qN) : Option (Int32 × qN) :=
  qbind (f_X0_neverEnding N 2 h) fun (x942, h941) =>
  some (x942, h941)
set_option maxRecDepth 100000 in
theorem t_X5_never {d N : Nat} (hd : 3 ≤ d)   (h : qN) {v0 : Int32} {h1 : qN} (hf : f_X5_never N  h = some (v0, h1)) : EE d 77 [.ref 0] h (some (.int v0)) h1 := by
  obtain ⟨d, rfl⟩ : ∃ d0, d = d0 + 1 := ⟨d - 1, by omega⟩
  unfold f_X5_never at hf
  refine E_intro qm_77 qc_77 (Nat.le_of_ble_eq_true rfl) rfl rfl ?_
  show RR d cd_X5_never (0, 0) 0 [.ref 0] [] h (some (.int v0)) h1
  refine R_ldA rfl rfl ?_
  refine R_get rfl sh_0 rfl rfl ?_
  refine R_get rfl sh_1 rfl rfl ?_
  obtain ⟨⟨x942, h941⟩, e943, hf⟩ := qbind_some hf
  dsimp only at hf
  refine R_callVi (as := [.ref 2]) (rest := []) rfl rfl sh_2 rfl rfl rfl rfl (t_X0_neverEnding (N := N) (by omega) 2 isC_2 h e943) ?_
  obtain ⟨rfl, rfl⟩ := qinj2 hf
  exact R_retI rfl
def f_X5_fewest (N : Nat) (a1 : Int32) (h : qN) : Option (Int32 × qN) :=
  if a1 < (-1 : Int32) then
    some ((-1 : Int32), h)
  else
    if a1 < (3 : Int32) then
      qbind (f_X1_seekFewest N 2 h) fun (x947, h946) =>
      if a1 = (-1 : Int32) then
        some (x947, h946)
      else
        if x947 ≤ a1 then
          some ((-4 : Int32), h946)
        else
          if a1 < 0 ∨ 3 ≤ a1.toNatClampNeg then none else
          some ((h946 27 a1.toNatClampNeg), h946)
    else
      some ((-1 : Int32), h)
set_option maxRecDepth 100000 in
theorem t_X5_fewest {d N : Nat} (hd : 17 ≤ d) (a1 : Int32)  (h : qN) {v0 : Int32} {h1 : qN} (hf : f_X5_fewest N a1 h = some (v0, h1)) : EE d 78 [.ref 0, .int a1] h (some (.int v0)) h1 := by
  obtain ⟨d, rfl⟩ : ∃ d0, d = d0 + 1 := ⟨d - 1, by omega⟩
  unfold f_X5_fewest at hf
  refine E_intro qm_78 qc_78 (Nat.le_of_ble_eq_true rfl) rfl rfl ?_
  show RR d cd_X5_fewest (0, 0) 0 [.ref 0, .int a1, qU] [] h (some (.int v0)) h1
  refine R_ldI rfl rfl ?_
  refine R_I rfl ?_
  rcases qite hf with ⟨c944, hf⟩ | ⟨c944, hf⟩
  · refine R_CmLt_t rfl c944 ?_
    refine R_I rfl ?_
    obtain ⟨rfl, rfl⟩ := qinj2 hf
    exact R_retI rfl
  · refine R_CmLt_f rfl c944 ?_
    refine R_ldI rfl rfl ?_
    refine R_I rfl ?_
    rcases qite hf with ⟨c945, hf⟩ | ⟨c945, hf⟩
    · refine R_CmLt_t rfl c945 ?_
      refine R_ldA rfl rfl ?_
      refine R_get rfl sh_0 rfl rfl ?_
      refine R_ldA rfl rfl ?_
      refine R_get rfl sh_0 rfl rfl ?_
      refine R_get rfl sh_1 rfl rfl ?_
      obtain ⟨⟨x947, h946⟩, e948, hf⟩ := qbind_some hf
      dsimp only at hf
      refine R_callVi (as := [.ref 24, .ref 2]) (rest := []) rfl rfl sh_24 rfl rfl rfl rfl (t_X1_seekFewest (N := N) (by omega) 2 isC_2 h e948) ?_
      refine R_stI (ls' := [.ref 0, .int a1, .int x947]) rfl rfl rfl rfl ?_
      refine R_ldI rfl rfl ?_
      refine R_I rfl ?_
      rcases qite hf with ⟨c949, hf⟩ | ⟨c949, hf⟩
      · refine R_CmNe_f rfl c949 ?_
        refine R_ldI rfl rfl ?_
        obtain ⟨rfl, rfl⟩ := qinj2 hf
        exact R_retI rfl
      · refine R_CmNe_t rfl c949 ?_
        refine R_ldI rfl rfl ?_
        refine R_ldI rfl rfl ?_
        rcases qite hf with ⟨c950, hf⟩ | ⟨c950, hf⟩
        · refine R_CmGe_t rfl c950 ?_
          refine R_I rfl ?_
          obtain ⟨rfl, rfl⟩ := qinj2 hf
          exact R_retI rfl
        · refine R_CmGe_f rfl c950 ?_
          refine R_ldA rfl rfl ?_
          refine R_get rfl sh_0 rfl rfl ?_
          refine R_get rfl sh_24 rfl rfl ?_
          refine R_ldI rfl rfl ?_
          obtain ⟨c951, hf⟩ := qchk hf
          refine R_ald rfl sh_27 c951 ?_
          refine R_goto rfl ?_
          obtain ⟨rfl, rfl⟩ := qinj2 hf
          exact R_retI rfl
    · refine R_CmLt_f rfl c945 ?_
      refine R_I rfl ?_
      obtain ⟨rfl, rfl⟩ := qinj2 hf
      exact R_retI rfl
def f_X5_best (N : Nat) (a1 : Int32) (a2 : Int32) (h : qN) : Option (Int32 × qN) :=
  if a1 < (1 : Int32) then
    some ((-1 : Int32), h)
  else
    if (9 : Int32) < a1 then
      some ((-1 : Int32), h)
    else
      if a2 < (-2 : Int32) then
        some ((-1 : Int32), h)
      else
        if a2 < (2 : Int32) then
          qbind (f_X1_seekBest N 2 8 6 a1 h) fun h956 =>
          if a2 = (-2 : Int32) then
            some ((h956 24 4), h956)
          else
            if a2 = (-1 : Int32) then
              some ((h956 24 3), h956)
            else
              if (h956 24 3) ≤ a2 then
                some ((-4 : Int32), h956)
              else
                if a2 < 0 ∨ 3 ≤ a2.toNatClampNeg then none else
                some ((h956 27 a2.toNatClampNeg), h956)
        else
          some ((-1 : Int32), h)
set_option maxRecDepth 100000 in
theorem t_X5_best {d N : Nat} (hd : 17 ≤ d) (a1 : Int32) (a2 : Int32)  (h : qN) {v0 : Int32} {h1 : qN} (hf : f_X5_best N a1 a2 h = some (v0, h1)) : EE d 79 [.ref 0, .int a1, .int a2] h (some (.int v0)) h1 := by
  obtain ⟨d, rfl⟩ : ∃ d0, d = d0 + 1 := ⟨d - 1, by omega⟩
  unfold f_X5_best at hf
  refine E_intro qm_79 qc_79 (Nat.le_of_ble_eq_true rfl) rfl rfl ?_
  show RR d cd_X5_best (0, 0) 0 [.ref 0, .int a1, .int a2] [] h (some (.int v0)) h1
  refine R_ldI rfl rfl ?_
  refine R_I rfl ?_
  rcases qite hf with ⟨c952, hf⟩ | ⟨c952, hf⟩
  · refine R_CmLt_t rfl c952 ?_
    refine R_I rfl ?_
    obtain ⟨rfl, rfl⟩ := qinj2 hf
    exact R_retI rfl
  · refine R_CmLt_f rfl c952 ?_
    refine R_ldI rfl rfl ?_
    refine R_I rfl ?_
    rcases qite hf with ⟨c953, hf⟩ | ⟨c953, hf⟩
    · refine R_CmGt_t rfl c953 ?_
      refine R_I rfl ?_
      obtain ⟨rfl, rfl⟩ := qinj2 hf
      exact R_retI rfl
    · refine R_CmGt_f rfl c953 ?_
      refine R_ldI rfl rfl ?_
      refine R_I rfl ?_
      rcases qite hf with ⟨c954, hf⟩ | ⟨c954, hf⟩
      · refine R_CmLt_t rfl c954 ?_
        refine R_I rfl ?_
        obtain ⟨rfl, rfl⟩ := qinj2 hf
        exact R_retI rfl
      · refine R_CmLt_f rfl c954 ?_
        refine R_ldI rfl rfl ?_
        refine R_I rfl ?_
        rcases qite hf with ⟨c955, hf⟩ | ⟨c955, hf⟩
        · refine R_CmLt_t rfl c955 ?_
          refine R_ldA rfl rfl ?_
          refine R_get rfl sh_0 rfl rfl ?_
          refine R_ldA rfl rfl ?_
          refine R_get rfl sh_0 rfl rfl ?_
          refine R_get rfl sh_1 rfl rfl ?_
          refine R_ldA rfl rfl ?_
          refine R_get rfl sh_0 rfl rfl ?_
          refine R_get rfl sh_1 rfl rfl ?_
          refine R_ldI rfl rfl ?_
          obtain ⟨h956, e957, hf⟩ := qbind_some hf
          refine R_callVv (as := [.ref 24, .ref 2, .ref 8, .int a1]) (rest := []) rfl rfl sh_24 rfl rfl rfl rfl (t_X1_seekBest (N := N) (by omega) 2 8 6 a1 isC_2 sh_8 h e957) ?_
          refine R_ldI rfl rfl ?_
          refine R_I rfl ?_
          rcases qite hf with ⟨c958, hf⟩ | ⟨c958, hf⟩
          · refine R_CmNe_f rfl c958 ?_
            refine R_ldA rfl rfl ?_
            refine R_get rfl sh_0 rfl rfl ?_
            refine R_get rfl sh_24 rfl rfl ?_
            obtain ⟨rfl, rfl⟩ := qinj2 hf
            exact R_retI rfl
          · refine R_CmNe_t rfl c958 ?_
            refine R_ldI rfl rfl ?_
            refine R_I rfl ?_
            rcases qite hf with ⟨c959, hf⟩ | ⟨c959, hf⟩
            · refine R_CmNe_f rfl c959 ?_
              refine R_ldA rfl rfl ?_
              refine R_get rfl sh_0 rfl rfl ?_
              refine R_get rfl sh_24 rfl rfl ?_
              obtain ⟨rfl, rfl⟩ := qinj2 hf
              exact R_retI rfl
            · refine R_CmNe_t rfl c959 ?_
              refine R_ldI rfl rfl ?_
              refine R_ldA rfl rfl ?_
              refine R_get rfl sh_0 rfl rfl ?_
              refine R_get rfl sh_24 rfl rfl ?_
              rcases qite hf with ⟨c960, hf⟩ | ⟨c960, hf⟩
              · refine R_CmGe_t rfl c960 ?_
                refine R_I rfl ?_
                obtain ⟨rfl, rfl⟩ := qinj2 hf
                exact R_retI rfl
              · refine R_CmGe_f rfl c960 ?_
                refine R_ldA rfl rfl ?_
                refine R_get rfl sh_0 rfl rfl ?_
                refine R_get rfl sh_24 rfl rfl ?_
                refine R_ldI rfl rfl ?_
                obtain ⟨c961, hf⟩ := qchk hf
                refine R_ald rfl sh_27 c961 ?_
                refine R_goto rfl ?_
                obtain ⟨rfl, rfl⟩ := qinj2 hf
                exact R_retI rfl
        · refine R_CmLt_f rfl c955 ?_
          refine R_I rfl ?_
          obtain ⟨rfl, rfl⟩ := qinj2 hf
          exact R_retI rfl
def f_X5_saves (N : Nat) (a1 : Int32) (a2 : Int32) (h : qN) : Option (Int32 × qN) :=
  qbind (f_X5_isPerson a1 h) fun (x963, h962) =>
  if x963 = 0 then
    some ((-100001 : Int32), h962)
  else
    qbind (f_X5_isPerson a2 h962) fun (x967, h966) =>
    if x967 = 0 then
      some ((-100001 : Int32), h966)
    else
      if a1 = a2 then
        some ((-100001 : Int32), h966)
      else
        qbind (f_X0_become 19 2 h966) fun h971 =>
        qbind (f_X0_marry N 19 a1 a2 h971) fun (x974, h973) =>
        qbind (f_X0_costOfAll N 2 8 6 h973) fun (x977, h976) =>
        qbind (f_X0_costOfAll N 19 8 6 h976) fun (x980, h979) =>
        some ((x977 - x980), h979)
set_option maxRecDepth 100000 in
theorem t_X5_saves {d N : Nat} (hd : 4 ≤ d) (a1 : Int32) (a2 : Int32)  (h : qN) {v0 : Int32} {h1 : qN} (hf : f_X5_saves N a1 a2 h = some (v0, h1)) : EE d 80 [.ref 0, .int a1, .int a2] h (some (.int v0)) h1 := by
  obtain ⟨d, rfl⟩ : ∃ d0, d = d0 + 1 := ⟨d - 1, by omega⟩
  unfold f_X5_saves at hf
  refine E_intro qm_80 qc_80 (Nat.le_of_ble_eq_true rfl) rfl rfl ?_
  show RR d cd_X5_saves (0, 0) 0 [.ref 0, .int a1, .int a2] [] h (some (.int v0)) h1
  refine R_ldI rfl rfl ?_
  obtain ⟨⟨x963, h962⟩, e964, hf⟩ := qbind_some hf
  dsimp only at hf
  refine R_callSi (as := [.int a1]) (rest := []) rfl rfl rfl rfl rfl rfl (t_X5_isPerson (by omega) a1 h e964) ?_
  rcases qite hf with ⟨c965, hf⟩ | ⟨c965, hf⟩
  · refine R_IfEq_t rfl c965 ?_
    refine R_I rfl ?_
    obtain ⟨rfl, rfl⟩ := qinj2 hf
    exact R_retI rfl
  · refine R_IfEq_f rfl c965 ?_
    refine R_ldI rfl rfl ?_
    obtain ⟨⟨x967, h966⟩, e968, hf⟩ := qbind_some hf
    dsimp only at hf
    refine R_callSi (as := [.int a2]) (rest := []) rfl rfl rfl rfl rfl rfl (t_X5_isPerson (by omega) a2 h962 e968) ?_
    rcases qite hf with ⟨c969, hf⟩ | ⟨c969, hf⟩
    · refine R_IfEq_t rfl c969 ?_
      refine R_I rfl ?_
      obtain ⟨rfl, rfl⟩ := qinj2 hf
      exact R_retI rfl
    · refine R_IfEq_f rfl c969 ?_
      refine R_ldI rfl rfl ?_
      refine R_ldI rfl rfl ?_
      rcases qite hf with ⟨c970, hf⟩ | ⟨c970, hf⟩
      · refine R_CmNe_f rfl c970 ?_
        refine R_I rfl ?_
        obtain ⟨rfl, rfl⟩ := qinj2 hf
        exact R_retI rfl
      · refine R_CmNe_t rfl c970 ?_
        refine R_ldA rfl rfl ?_
        refine R_get rfl sh_0 rfl rfl ?_
        refine R_ldA rfl rfl ?_
        refine R_get rfl sh_0 rfl rfl ?_
        refine R_get rfl sh_1 rfl rfl ?_
        obtain ⟨h971, e972, hf⟩ := qbind_some hf
        refine R_callVv (as := [.ref 19, .ref 2]) (rest := []) rfl rfl sh_19 rfl rfl rfl rfl (t_X0_become (by omega) 19 2 isC_19 isC_2 h966 e972) ?_
        refine R_ldA rfl rfl ?_
        refine R_get rfl sh_0 rfl rfl ?_
        refine R_ldI rfl rfl ?_
        refine R_ldI rfl rfl ?_
        obtain ⟨⟨x974, h973⟩, e975, hf⟩ := qbind_some hf
        dsimp only at hf
        refine R_callVi (as := [.ref 19, .int a1, .int a2]) (rest := []) rfl rfl sh_19 rfl rfl rfl rfl (t_X0_marry (N := N) (by omega) 19 a1 a2 isC_19 h971 e975) ?_
        refine R_pop rfl rfl ?_
        refine R_ldA rfl rfl ?_
        refine R_get rfl sh_0 rfl rfl ?_
        refine R_get rfl sh_1 rfl rfl ?_
        refine R_ldA rfl rfl ?_
        refine R_get rfl sh_0 rfl rfl ?_
        refine R_get rfl sh_1 rfl rfl ?_
        obtain ⟨⟨x977, h976⟩, e978, hf⟩ := qbind_some hf
        dsimp only at hf
        refine R_callVi (as := [.ref 2, .ref 8]) (rest := []) rfl rfl sh_2 rfl rfl rfl rfl (t_X0_costOfAll (N := N) (by omega) 2 8 6 isC_2 sh_8 h973 e978) ?_
        refine R_ldA rfl rfl ?_
        refine R_get rfl sh_0 rfl rfl ?_
        refine R_ldA rfl rfl ?_
        refine R_get rfl sh_0 rfl rfl ?_
        refine R_get rfl sh_1 rfl rfl ?_
        obtain ⟨⟨x980, h979⟩, e981, hf⟩ := qbind_some hf
        dsimp only at hf
        refine R_callVi (as := [.ref 19, .ref 8]) (rest := [.int x977]) rfl rfl sh_19 rfl rfl rfl rfl (t_X0_costOfAll (N := N) (by omega) 19 8 6 isC_19 sh_8 h976 e981) ?_
        refine R_bin rfl ?_
        obtain ⟨rfl, rfl⟩ := qinj2 hf
        exact R_retI rfl
def f_X5_match_L22 (N : Nat) (l3 : Int32) : Nat → Int32 → Int32 → Int32 → qN → Option (Int32 × Int32 × qN)
  | 0, _, _, _, _ => none
  | n + 1, l1, l2, l4, h =>
    if (6 : Int32) ≤ l4 then
      some (l1, l2, h)
    else
      qbind (f_X5_saves N l3 l4 h) fun (x988, h987) =>
      qbind (
          if x988 ≤ l2 then
            some (l1, l2)
          else
            some ((((10 : Int32) * l3) + l4), x988) : Option (Int32 × Int32)) fun (x991, x992) =>
      f_X5_match_L22 N l3 n x991 x992 (l4 + (1 : Int32)) h987
set_option maxRecDepth 100000 in
theorem t_X5_match_L22 {d N : Nat} (hd : 4 ≤ d) : ∀ (n : Nat) (l3 : Int32) (l1 : Int32) (l2 : Int32) (l4 : Int32) (h : qN) (y1 : Int32) (y2 : Int32) (h2 : qN), f_X5_match_L22 N l3 n l1 l2 l4 h = some (y1, y2, h2) → ∀ (v : Option Value) (h1 : qN), RR d cd_X5_match (0, 0) 61 [.ref 0, .int y1, .int y2, .int l3, qU, qU] [] h2 v h1 → RR d cd_X5_match (0, 0) 22 [.ref 0, .int l1, .int l2, .int l3, .int l4, qU] [] h v h1 := by
  intro n
  induction n with
  | zero =>
    intro l3 l1 l2 l4 h y1 y2 h2 hf v h1 hE
    exact absurd hf (by simp [f_X5_match_L22])
  | succ n ih =>
    intro l3 l1 l2 l4 h y1 y2 h2 hf v h1 hE
    unfold f_X5_match_L22 at hf
    refine R_ldI rfl rfl ?_
    refine R_I rfl ?_
    rcases qite hf with ⟨c986, hf⟩ | ⟨c986, hf⟩
    · refine R_CmGe_t rfl c986 ?_
      refine R_drop [true, true, true, true, false, true] (ls' := [.ref 0, .int l1, .int l2, .int l3, qU, qU]) rfl ?_
      obtain ⟨rfl, rfl, rfl⟩ := qinj3 hf
      exact hE
    · refine R_CmGe_f rfl c986 ?_
      refine R_ldA rfl rfl ?_
      refine R_ldI rfl rfl ?_
      refine R_ldI rfl rfl ?_
      obtain ⟨⟨x988, h987⟩, e989, hf⟩ := qbind_some hf
      dsimp only at hf
      refine R_callVi (as := [.ref 0, .int l3, .int l4]) (rest := []) rfl rfl sh_0 rfl rfl rfl rfl (t_X5_saves (N := N) (by omega) l3 l4 h e989) ?_
      refine R_stI (ls' := [.ref 0, .int l1, .int l2, .int l3, .int l4, .int x988]) rfl rfl rfl rfl ?_
      refine R_ldI rfl rfl ?_
      refine R_ldI rfl rfl ?_
      obtain ⟨⟨x991, x992⟩, e993, hf⟩ := qbind_some hf
      dsimp only at hf
      have key : RR d cd_X5_match (0, 0) 55 [.ref 0, .int x991, .int x992, .int l3, .int l4, qU] [] h987 v h1 := by
        clear e993
        refine R_inc (ls' := [.ref 0, .int x991, .int x992, .int l3, .int (l4 + (1 : Int32)), qU]) rfl rfl rfl rfl ?_
        refine R_goto rfl ?_
        exact ih l3 x991 x992 (l4 + (1 : Int32)) h987 _ _ _ hf _ _ hE
      clear hf
      have hf := e993
      clear e993
      rcases qite hf with ⟨c990, hf⟩ | ⟨c990, hf⟩
      · refine R_CmLe_t rfl c990 ?_
        refine R_drop [true, true, true, true, true, false] (ls' := [.ref 0, .int l1, .int l2, .int l3, .int l4, qU]) rfl ?_
        obtain ⟨rfl, rfl⟩ := qinj2 hf
        exact key
      · refine R_CmLe_f rfl c990 ?_
        refine R_ldI rfl rfl ?_
        refine R_stI (ls' := [.ref 0, .int l1, .int x988, .int l3, .int l4, .int x988]) rfl rfl rfl rfl ?_
        refine R_I rfl ?_
        refine R_ldI rfl rfl ?_
        refine R_bin rfl ?_
        refine R_ldI rfl rfl ?_
        refine R_bin rfl ?_
        refine R_stI (ls' := [.ref 0, .int (((10 : Int32) * l3) + l4), .int x988, .int l3, .int l4, .int x988]) rfl rfl rfl rfl ?_
        refine R_drop [true, true, true, true, true, false] (ls' := [.ref 0, .int (((10 : Int32) * l3) + l4), .int x988, .int l3, .int l4, qU]) rfl ?_
        obtain ⟨rfl, rfl⟩ := qinj2 hf
        exact key
def f_X5_match_L11 (N : Nat) : Nat → Int32 → Int32 → Int32 → qN → Option (Int32 × qN)
  | 0, _, _, _, _ => none
  | n + 1, l1, l2, l3, h =>
    if (6 : Int32) ≤ l3 then
      some (l1, h)
    else
      qbind (f_X5_match_L22 N l3 N l1 l2 (l3 + (1 : Int32)) h) fun (x995, x996, h997) =>
      f_X5_match_L11 N n x995 x996 (l3 + (1 : Int32)) h997
set_option maxRecDepth 100000 in
theorem t_X5_match_L11 {d N : Nat} (hd : 4 ≤ d) : ∀ (n : Nat) (l1 : Int32) (l2 : Int32) (l3 : Int32) (h : qN) (y1 : Int32) (h2 : qN), f_X5_match_L11 N n l1 l2 l3 h = some (y1, h2) → ∀ (v : Option Value) (h1 : qN), RR d cd_X5_match (0, 0) 67 [qU, .int y1, qU, qU, qU, qU] [] h2 v h1 → RR d cd_X5_match (0, 0) 11 [.ref 0, .int l1, .int l2, .int l3, qU, qU] [] h v h1 := by
  intro n
  induction n with
  | zero =>
    intro l1 l2 l3 h y1 h2 hf v h1 hE
    exact absurd hf (by simp [f_X5_match_L11])
  | succ n ih =>
    intro l1 l2 l3 h y1 h2 hf v h1 hE
    unfold f_X5_match_L11 at hf
    refine R_ldI rfl rfl ?_
    refine R_I rfl ?_
    rcases qite hf with ⟨c985, hf⟩ | ⟨c985, hf⟩
    · refine R_CmGe_t rfl c985 ?_
      refine R_drop [false, true, false, false, true, true] (ls' := [qU, .int l1, qU, qU, qU, qU]) rfl ?_
      obtain ⟨rfl, rfl⟩ := qinj2 hf
      exact hE
    · refine R_CmGe_f rfl c985 ?_
      refine R_ldI rfl rfl ?_
      refine R_I rfl ?_
      refine R_bin rfl ?_
      refine R_stI (ls' := [.ref 0, .int l1, .int l2, .int l3, .int (l3 + (1 : Int32)), qU]) rfl rfl rfl rfl ?_
      obtain ⟨⟨x995, x996, h997⟩, e998, hf⟩ := qbind_some hf
      dsimp only at hf
      refine t_X5_match_L22 (N := N) (by omega) _ l3 l1 l2 (l3 + (1 : Int32)) h x995 x996 h997 e998 _ _ ?_
      refine R_inc (ls' := [.ref 0, .int x995, .int x996, .int (l3 + (1 : Int32)), qU, qU]) rfl rfl rfl rfl ?_
      refine R_goto rfl ?_
      exact ih  x995 x996 (l3 + (1 : Int32)) h997 _ _ hf _ _ hE
def f_X5_match (N : Nat) (h : qN) : Option (Int32 × qN) :=
  qbind (f_X5_saves N (0 : Int32) (1 : Int32) h) fun (x983, h982) =>
  qbind (f_X5_match_L11 N N (1 : Int32) x983 (0 : Int32) h982) fun (x1002, h1003) =>
  some (x1002, h1003)
set_option maxRecDepth 100000 in
theorem t_X5_match {d N : Nat} (hd : 5 ≤ d)   (h : qN) {v0 : Int32} {h1 : qN} (hf : f_X5_match N  h = some (v0, h1)) : EE d 81 [.ref 0] h (some (.int v0)) h1 := by
  obtain ⟨d, rfl⟩ : ∃ d0, d = d0 + 1 := ⟨d - 1, by omega⟩
  unfold f_X5_match at hf
  refine E_intro qm_81 qc_81 (Nat.le_of_ble_eq_true rfl) rfl rfl ?_
  show RR d cd_X5_match (0, 0) 0 [.ref 0, qU, qU, qU, qU, qU] [] h (some (.int v0)) h1
  refine R_I rfl ?_
  refine R_stI (ls' := [.ref 0, .int (1 : Int32), qU, qU, qU, qU]) rfl rfl rfl rfl ?_
  refine R_ldA rfl rfl ?_
  refine R_I rfl ?_
  refine R_I rfl ?_
  obtain ⟨⟨x983, h982⟩, e984, hf⟩ := qbind_some hf
  dsimp only at hf
  refine R_callVi (as := [.ref 0, .int (0 : Int32), .int (1 : Int32)]) (rest := []) rfl rfl sh_0 rfl rfl rfl rfl (t_X5_saves (N := N) (by omega) (0 : Int32) (1 : Int32) h e984) ?_
  refine R_stI (ls' := [.ref 0, .int (1 : Int32), .int x983, qU, qU, qU]) rfl rfl rfl rfl ?_
  refine R_I rfl ?_
  refine R_stI (ls' := [.ref 0, .int (1 : Int32), .int x983, .int (0 : Int32), qU, qU]) rfl rfl rfl rfl ?_
  obtain ⟨⟨x1002, h1003⟩, e1004, hf⟩ := qbind_some hf
  dsimp only at hf
  refine t_X5_match_L11 (N := N) (by omega) _  (1 : Int32) x983 (0 : Int32) h982 x1002 h1003 e1004 _ _ ?_
  refine R_ldI rfl rfl ?_
  obtain ⟨rfl, rfl⟩ := qinj2 hf
  exact R_retI rfl
def f_X5_against (N : Nat) (a1 : Int32) (a2 : Int32) (a3 : Int32) (h : qN) : Option (Int32 × qN) :=
  qbind (f_X5_isThing a1 h) fun (x1008, h1007) =>
  if x1008 = 0 then
    some ((-100001 : Int32), h1007)
  else
    qbind (f_X5_isPerson a2 h1007) fun (x1012, h1011) =>
    if x1012 = 0 then
      some ((-100001 : Int32), h1011)
    else
      qbind (f_X5_isPerson a3 h1011) fun (x1016, h1015) =>
      if x1016 = 0 then
        some ((-100001 : Int32), h1015)
      else
        if a1 < 0 ∨ 8 ≤ a1.toNatClampNeg then none else
        if a3 = (h1015 4 a1.toNatClampNeg) then
          some ((-100001 : Int32), h1015)
        else
          if a3 = a2 then
            some ((-100001 : Int32), h1015)
          else
            if (h1015 4 a1.toNatClampNeg) = a2 then
              some ((-100002 : Int32), h1015)
            else
              qbind (f_X5_trySale N a1 a2 h1015) fun h1023 =>
              qbind (f_X5_gainOf N a3 h1023) fun (x1026, h1025) =>
              some ((-x1026), h1025)
set_option maxRecDepth 100000 in
theorem t_X5_against {d N : Nat} (hd : 5 ≤ d) (a1 : Int32) (a2 : Int32) (a3 : Int32)  (h : qN) {v0 : Int32} {h1 : qN} (hf : f_X5_against N a1 a2 a3 h = some (v0, h1)) : EE d 82 [.ref 0, .int a1, .int a2, .int a3] h (some (.int v0)) h1 := by
  obtain ⟨d, rfl⟩ : ∃ d0, d = d0 + 1 := ⟨d - 1, by omega⟩
  unfold f_X5_against at hf
  refine E_intro qm_82 qc_82 (Nat.le_of_ble_eq_true rfl) rfl rfl ?_
  show RR d cd_X5_against (0, 0) 0 [.ref 0, .int a1, .int a2, .int a3, qU] [] h (some (.int v0)) h1
  refine R_ldA rfl rfl ?_
  refine R_ldI rfl rfl ?_
  obtain ⟨⟨x1008, h1007⟩, e1009, hf⟩ := qbind_some hf
  dsimp only at hf
  refine R_callVi (as := [.ref 0, .int a1]) (rest := []) rfl rfl sh_0 rfl rfl rfl rfl (t_X5_isThing (by omega) a1 h e1009) ?_
  rcases qite hf with ⟨c1010, hf⟩ | ⟨c1010, hf⟩
  · refine R_IfEq_t rfl c1010 ?_
    refine R_I rfl ?_
    obtain ⟨rfl, rfl⟩ := qinj2 hf
    exact R_retI rfl
  · refine R_IfEq_f rfl c1010 ?_
    refine R_ldI rfl rfl ?_
    obtain ⟨⟨x1012, h1011⟩, e1013, hf⟩ := qbind_some hf
    dsimp only at hf
    refine R_callSi (as := [.int a2]) (rest := []) rfl rfl rfl rfl rfl rfl (t_X5_isPerson (by omega) a2 h1007 e1013) ?_
    rcases qite hf with ⟨c1014, hf⟩ | ⟨c1014, hf⟩
    · refine R_IfEq_t rfl c1014 ?_
      refine R_I rfl ?_
      obtain ⟨rfl, rfl⟩ := qinj2 hf
      exact R_retI rfl
    · refine R_IfEq_f rfl c1014 ?_
      refine R_ldI rfl rfl ?_
      obtain ⟨⟨x1016, h1015⟩, e1017, hf⟩ := qbind_some hf
      dsimp only at hf
      refine R_callSi (as := [.int a3]) (rest := []) rfl rfl rfl rfl rfl rfl (t_X5_isPerson (by omega) a3 h1011 e1017) ?_
      rcases qite hf with ⟨c1018, hf⟩ | ⟨c1018, hf⟩
      · refine R_IfNe_f rfl c1018 ?_
        refine R_I rfl ?_
        obtain ⟨rfl, rfl⟩ := qinj2 hf
        exact R_retI rfl
      · refine R_IfNe_t rfl c1018 ?_
        refine R_ldA rfl rfl ?_
        refine R_get rfl sh_0 rfl rfl ?_
        refine R_get rfl sh_1 rfl rfl ?_
        refine R_get rfl sh_2 rfl rfl ?_
        refine R_ldI rfl rfl ?_
        obtain ⟨c1019, hf⟩ := qchk hf
        refine R_ald rfl sh_4 c1019 ?_
        refine R_stI (ls' := [.ref 0, .int a1, .int a2, .int a3, .int (h1015 4 a1.toNatClampNeg)]) rfl rfl rfl rfl ?_
        refine R_ldI rfl rfl ?_
        refine R_ldI rfl rfl ?_
        rcases qite hf with ⟨c1020, hf⟩ | ⟨c1020, hf⟩
        · refine R_CmEq_t rfl c1020 ?_
          refine R_I rfl ?_
          obtain ⟨rfl, rfl⟩ := qinj2 hf
          exact R_retI rfl
        · refine R_CmEq_f rfl c1020 ?_
          refine R_ldI rfl rfl ?_
          refine R_ldI rfl rfl ?_
          rcases qite hf with ⟨c1021, hf⟩ | ⟨c1021, hf⟩
          · refine R_CmNe_f rfl c1021 ?_
            refine R_I rfl ?_
            obtain ⟨rfl, rfl⟩ := qinj2 hf
            exact R_retI rfl
          · refine R_CmNe_t rfl c1021 ?_
            refine R_ldI rfl rfl ?_
            refine R_ldI rfl rfl ?_
            rcases qite hf with ⟨c1022, hf⟩ | ⟨c1022, hf⟩
            · refine R_CmNe_f rfl c1022 ?_
              refine R_I rfl ?_
              obtain ⟨rfl, rfl⟩ := qinj2 hf
              exact R_retI rfl
            · refine R_CmNe_t rfl c1022 ?_
              refine R_ldA rfl rfl ?_
              refine R_ldI rfl rfl ?_
              refine R_ldI rfl rfl ?_
              obtain ⟨h1023, e1024, hf⟩ := qbind_some hf
              refine R_callVv (as := [.ref 0, .int a1, .int a2]) (rest := []) rfl rfl sh_0 rfl rfl rfl rfl (t_X5_trySale (N := N) (by omega) a1 a2 h1015 e1024) ?_
              refine R_ldA rfl rfl ?_
              refine R_ldI rfl rfl ?_
              obtain ⟨⟨x1026, h1025⟩, e1027, hf⟩ := qbind_some hf
              dsimp only at hf
              refine R_callVi (as := [.ref 0, .int a3]) (rest := []) rfl rfl sh_0 rfl rfl rfl rfl (t_X5_gainOf (N := N) (by omega) a3 h1023 e1027) ?_
              refine R_un rfl ?_
              obtain ⟨rfl, rfl⟩ := qinj2 hf
              exact R_retI rfl
def f_X5_pays (N : Nat) (a1 : Int32) (a2 : Int32) (a3 : Int32) (a4 : Int32) (a5 : Int32) (h : qN) : Option (Int32 × qN) :=
  qbind (f_X5_isThing a1 h) fun (x1029, h1028) =>
  if x1029 = 0 then
    some ((-100001 : Int32), h1028)
  else
    qbind (f_X5_isPerson a2 h1028) fun (x1033, h1032) =>
    if x1033 = 0 then
      some ((-100001 : Int32), h1032)
    else
      qbind (f_X5_isWithin a3 (999 : Int32) h1032) fun (x1037, h1036) =>
      if x1037 = 0 then
        some ((-100001 : Int32), h1036)
      else
        if a4 < (1 : Int32) then
          some ((-100001 : Int32), h1036)
        else
          if (9 : Int32) < a4 then
            some ((-100001 : Int32), h1036)
          else
            qbind (f_X5_isWithin a5 (16 : Int32) h1036) fun (x1043, h1042) =>
            if x1043 = 0 then
              some ((-100001 : Int32), h1042)
            else
              if a1 < 0 ∨ 8 ≤ a1.toNatClampNeg then none else
              if (h1042 4 a1.toNatClampNeg) = a2 then
                some ((-100002 : Int32), h1042)
              else
                qbind (f_X5_trySale N a1 a2 h1042) fun h1048 =>
                qbind (f_X0_countStood N 19 a2 h1048) fun (x1051, h1050) =>
                qbind (f_X0_countStood N 2 a2 h1050) fun (x1054, h1053) =>
                if a2 < 0 ∨ 6 ≤ a2.toNatClampNeg then none else
                if ((a1 * (6 : Int32)) + a2) < 0 ∨ 48 ≤ ((a1 * (6 : Int32)) + a2).toNatClampNeg then none else
                some (((((16 : Int32) * ((h1053 9 ((a1 * (6 : Int32)) + a2).toNatClampNeg) - a3)) - (((16 : Int32) * (a4 * (h1053 8 a2.toNatClampNeg))) * (x1051 - x1054))) - (a5 * (a4 * (h1053 8 a2.toNatClampNeg)))), h1053)
set_option maxRecDepth 100000 in
theorem t_X5_pays {d N : Nat} (hd : 5 ≤ d) (a1 : Int32) (a2 : Int32) (a3 : Int32) (a4 : Int32) (a5 : Int32)  (h : qN) {v0 : Int32} {h1 : qN} (hf : f_X5_pays N a1 a2 a3 a4 a5 h = some (v0, h1)) : EE d 83 [.ref 0, .int a1, .int a2, .int a3, .int a4, .int a5] h (some (.int v0)) h1 := by
  obtain ⟨d, rfl⟩ : ∃ d0, d = d0 + 1 := ⟨d - 1, by omega⟩
  unfold f_X5_pays at hf
  refine E_intro qm_83 qc_83 (Nat.le_of_ble_eq_true rfl) rfl rfl ?_
  show RR d cd_X5_pays (0, 0) 0 [.ref 0, .int a1, .int a2, .int a3, .int a4, .int a5, qU, qU, qU] [] h (some (.int v0)) h1
  refine R_ldA rfl rfl ?_
  refine R_ldI rfl rfl ?_
  obtain ⟨⟨x1029, h1028⟩, e1030, hf⟩ := qbind_some hf
  dsimp only at hf
  refine R_callVi (as := [.ref 0, .int a1]) (rest := []) rfl rfl sh_0 rfl rfl rfl rfl (t_X5_isThing (by omega) a1 h e1030) ?_
  rcases qite hf with ⟨c1031, hf⟩ | ⟨c1031, hf⟩
  · refine R_IfEq_t rfl c1031 ?_
    refine R_I rfl ?_
    obtain ⟨rfl, rfl⟩ := qinj2 hf
    exact R_retI rfl
  · refine R_IfEq_f rfl c1031 ?_
    refine R_ldI rfl rfl ?_
    obtain ⟨⟨x1033, h1032⟩, e1034, hf⟩ := qbind_some hf
    dsimp only at hf
    refine R_callSi (as := [.int a2]) (rest := []) rfl rfl rfl rfl rfl rfl (t_X5_isPerson (by omega) a2 h1028 e1034) ?_
    rcases qite hf with ⟨c1035, hf⟩ | ⟨c1035, hf⟩
    · refine R_IfEq_t rfl c1035 ?_
      refine R_I rfl ?_
      obtain ⟨rfl, rfl⟩ := qinj2 hf
      exact R_retI rfl
    · refine R_IfEq_f rfl c1035 ?_
      refine R_ldI rfl rfl ?_
      refine R_I rfl ?_
      obtain ⟨⟨x1037, h1036⟩, e1038, hf⟩ := qbind_some hf
      dsimp only at hf
      refine R_callSi (as := [.int a3, .int (999 : Int32)]) (rest := []) rfl rfl rfl rfl rfl rfl (t_X5_isWithin (by omega) a3 (999 : Int32) h1032 e1038) ?_
      rcases qite hf with ⟨c1039, hf⟩ | ⟨c1039, hf⟩
      · refine R_IfNe_f rfl c1039 ?_
        refine R_I rfl ?_
        obtain ⟨rfl, rfl⟩ := qinj2 hf
        exact R_retI rfl
      · refine R_IfNe_t rfl c1039 ?_
        refine R_ldI rfl rfl ?_
        refine R_I rfl ?_
        rcases qite hf with ⟨c1040, hf⟩ | ⟨c1040, hf⟩
        · refine R_CmLt_t rfl c1040 ?_
          refine R_I rfl ?_
          obtain ⟨rfl, rfl⟩ := qinj2 hf
          exact R_retI rfl
        · refine R_CmLt_f rfl c1040 ?_
          refine R_ldI rfl rfl ?_
          refine R_I rfl ?_
          rcases qite hf with ⟨c1041, hf⟩ | ⟨c1041, hf⟩
          · refine R_CmGt_t rfl c1041 ?_
            refine R_I rfl ?_
            obtain ⟨rfl, rfl⟩ := qinj2 hf
            exact R_retI rfl
          · refine R_CmGt_f rfl c1041 ?_
            refine R_ldI rfl rfl ?_
            refine R_I rfl ?_
            obtain ⟨⟨x1043, h1042⟩, e1044, hf⟩ := qbind_some hf
            dsimp only at hf
            refine R_callSi (as := [.int a5, .int (16 : Int32)]) (rest := []) rfl rfl rfl rfl rfl rfl (t_X5_isWithin (by omega) a5 (16 : Int32) h1036 e1044) ?_
            rcases qite hf with ⟨c1045, hf⟩ | ⟨c1045, hf⟩
            · refine R_IfNe_f rfl c1045 ?_
              refine R_I rfl ?_
              obtain ⟨rfl, rfl⟩ := qinj2 hf
              exact R_retI rfl
            · refine R_IfNe_t rfl c1045 ?_
              refine R_ldA rfl rfl ?_
              refine R_get rfl sh_0 rfl rfl ?_
              refine R_get rfl sh_1 rfl rfl ?_
              refine R_get rfl sh_2 rfl rfl ?_
              refine R_ldI rfl rfl ?_
              obtain ⟨c1046, hf⟩ := qchk hf
              refine R_ald rfl sh_4 c1046 ?_
              refine R_ldI rfl rfl ?_
              rcases qite hf with ⟨c1047, hf⟩ | ⟨c1047, hf⟩
              · refine R_CmNe_f rfl c1047 ?_
                refine R_I rfl ?_
                obtain ⟨rfl, rfl⟩ := qinj2 hf
                exact R_retI rfl
              · refine R_CmNe_t rfl c1047 ?_
                refine R_ldA rfl rfl ?_
                refine R_ldI rfl rfl ?_
                refine R_ldI rfl rfl ?_
                obtain ⟨h1048, e1049, hf⟩ := qbind_some hf
                refine R_callVv (as := [.ref 0, .int a1, .int a2]) (rest := []) rfl rfl sh_0 rfl rfl rfl rfl (t_X5_trySale (N := N) (by omega) a1 a2 h1042 e1049) ?_
                refine R_ldA rfl rfl ?_
                refine R_get rfl sh_0 rfl rfl ?_
                refine R_ldI rfl rfl ?_
                obtain ⟨⟨x1051, h1050⟩, e1052, hf⟩ := qbind_some hf
                dsimp only at hf
                refine R_callVi (as := [.ref 19, .int a2]) (rest := []) rfl rfl sh_19 rfl rfl rfl rfl (t_X0_countStood (N := N) (by omega) 19 a2 isC_19 h1048 e1052) ?_
                refine R_ldA rfl rfl ?_
                refine R_get rfl sh_0 rfl rfl ?_
                refine R_get rfl sh_1 rfl rfl ?_
                refine R_ldI rfl rfl ?_
                obtain ⟨⟨x1054, h1053⟩, e1055, hf⟩ := qbind_some hf
                dsimp only at hf
                refine R_callVi (as := [.ref 2, .int a2]) (rest := [.int x1051]) rfl rfl sh_2 rfl rfl rfl rfl (t_X0_countStood (N := N) (by omega) 2 a2 isC_2 h1050 e1055) ?_
                refine R_bin rfl ?_
                refine R_stI (ls' := [.ref 0, .int a1, .int a2, .int a3, .int a4, .int a5, .int (x1051 - x1054), qU, qU]) rfl rfl rfl rfl ?_
                refine R_ldI rfl rfl ?_
                refine R_ldA rfl rfl ?_
                refine R_get rfl sh_0 rfl rfl ?_
                refine R_get rfl sh_1 rfl rfl ?_
                refine R_ldI rfl rfl ?_
                obtain ⟨c1056, hf⟩ := qchk hf
                refine R_ald rfl sh_8 c1056 ?_
                refine R_bin rfl ?_
                refine R_stI (ls' := [.ref 0, .int a1, .int a2, .int a3, .int a4, .int a5, .int (x1051 - x1054), .int (a4 * (h1053 8 a2.toNatClampNeg)), qU]) rfl rfl rfl rfl ?_
                refine R_ldA rfl rfl ?_
                refine R_get rfl sh_0 rfl rfl ?_
                refine R_get rfl sh_1 rfl rfl ?_
                refine R_ldI rfl rfl ?_
                refine R_I rfl ?_
                refine R_bin rfl ?_
                refine R_ldI rfl rfl ?_
                refine R_bin rfl ?_
                obtain ⟨c1057, hf⟩ := qchk hf
                refine R_ald rfl sh_9 c1057 ?_
                refine R_ldI rfl rfl ?_
                refine R_bin rfl ?_
                refine R_stI (ls' := [.ref 0, .int a1, .int a2, .int a3, .int a4, .int a5, .int (x1051 - x1054), .int (a4 * (h1053 8 a2.toNatClampNeg)), .int ((h1053 9 ((a1 * (6 : Int32)) + a2).toNatClampNeg) - a3)]) rfl rfl rfl rfl ?_
                refine R_I rfl ?_
                refine R_ldI rfl rfl ?_
                refine R_bin rfl ?_
                refine R_I rfl ?_
                refine R_ldI rfl rfl ?_
                refine R_bin rfl ?_
                refine R_ldI rfl rfl ?_
                refine R_bin rfl ?_
                refine R_bin rfl ?_
                refine R_ldI rfl rfl ?_
                refine R_ldI rfl rfl ?_
                refine R_bin rfl ?_
                refine R_bin rfl ?_
                obtain ⟨rfl, rfl⟩ := qinj2 hf
                exact R_retI rfl
def f_X5_image (h : qN) : Option (Int32 × qN) :=
  qbind (f_X4_become 10 1 h) fun h1058 =>
  some ((1 : Int32), (qup h1058 0 2 (1 : Int32)))
set_option maxRecDepth 100000 in
theorem t_X5_image {d : Nat} (hd : 3 ≤ d)   (h : qN) {v0 : Int32} {h1 : qN} (hf : f_X5_image  h = some (v0, h1)) : EE d 84 [.ref 0] h (some (.int v0)) h1 := by
  obtain ⟨d, rfl⟩ : ∃ d0, d = d0 + 1 := ⟨d - 1, by omega⟩
  unfold f_X5_image at hf
  refine E_intro qm_84 qc_84 (Nat.le_of_ble_eq_true rfl) rfl rfl ?_
  show RR d cd_X5_image (0, 0) 0 [.ref 0] [] h (some (.int v0)) h1
  refine R_ldA rfl rfl ?_
  refine R_get rfl sh_0 rfl rfl ?_
  refine R_ldA rfl rfl ?_
  refine R_get rfl sh_0 rfl rfl ?_
  obtain ⟨h1058, e1059, hf⟩ := qbind_some hf
  refine R_callVv (as := [.ref 10, .ref 1]) (rest := []) rfl rfl sh_10 rfl rfl rfl rfl (t_X4_become (by omega) 10 1 isV_10 isV_1 h e1059) ?_
  refine R_ldA rfl rfl ?_
  refine R_I rfl ?_
  refine R_putZ rfl sh_0 rfl (by decide) ?_
  refine R_I rfl ?_
  obtain ⟨rfl, rfl⟩ := qinj2 hf
  exact R_retI rfl
def f_X5_restore (h : qN) : Option (Int32 × qN) :=
  if (h 0 2) = 0 then
    some ((-4 : Int32), h)
  else
    qbind (f_X4_become 1 10 h) fun h1061 =>
    some ((1 : Int32), h1061)
set_option maxRecDepth 100000 in
theorem t_X5_restore {d : Nat} (hd : 3 ≤ d)   (h : qN) {v0 : Int32} {h1 : qN} (hf : f_X5_restore  h = some (v0, h1)) : EE d 85 [.ref 0] h (some (.int v0)) h1 := by
  obtain ⟨d, rfl⟩ : ∃ d0, d = d0 + 1 := ⟨d - 1, by omega⟩
  unfold f_X5_restore at hf
  refine E_intro qm_85 qc_85 (Nat.le_of_ble_eq_true rfl) rfl rfl ?_
  show RR d cd_X5_restore (0, 0) 0 [.ref 0] [] h (some (.int v0)) h1
  refine R_ldA rfl rfl ?_
  refine R_get rfl sh_0 rfl rfl ?_
  rcases qite hf with ⟨c1060, hf⟩ | ⟨c1060, hf⟩
  · refine R_IfNe_f rfl c1060 ?_
    refine R_I rfl ?_
    obtain ⟨rfl, rfl⟩ := qinj2 hf
    exact R_retI rfl
  · refine R_IfNe_t rfl c1060 ?_
    refine R_ldA rfl rfl ?_
    refine R_get rfl sh_0 rfl rfl ?_
    refine R_ldA rfl rfl ?_
    refine R_get rfl sh_0 rfl rfl ?_
    obtain ⟨h1061, e1062, hf⟩ := qbind_some hf
    refine R_callVv (as := [.ref 1, .ref 10]) (rest := []) rfl rfl sh_1 rfl rfl rfl rfl (t_X4_become (by omega) 1 10 isV_1 isV_10 h e1062) ?_
    refine R_I rfl ?_
    obtain ⟨rfl, rfl⟩ := qinj2 hf
    exact R_retI rfl
def f_X5_isSheet (a0 : Int32) (h : qN) : Option (Int32 × qN) :=
  if a0 < 0 then
    some ((0 : Int32), h)
  else
    if (4 : Int32) ≤ a0 then
      some ((0 : Int32), h)
    else
      some ((1 : Int32), h)
set_option maxRecDepth 100000 in
theorem t_X5_isSheet {d : Nat} (hd : 1 ≤ d) (a0 : Int32)  (h : qN) {v0 : Int32} {h1 : qN} (hf : f_X5_isSheet a0 h = some (v0, h1)) : EE d 93 [.int a0] h (some (.int v0)) h1 := by
  obtain ⟨d, rfl⟩ : ∃ d0, d = d0 + 1 := ⟨d - 1, by omega⟩
  unfold f_X5_isSheet at hf
  refine E_intro qm_93 qc_93 (Nat.le_of_ble_eq_true rfl) rfl rfl ?_
  show RR d cd_X5_isSheet (0, 0) 0 [.int a0] [] h (some (.int v0)) h1
  refine R_ldI rfl rfl ?_
  rcases qite hf with ⟨c1063, hf⟩ | ⟨c1063, hf⟩
  · refine R_IfLt_t rfl c1063 ?_
    refine R_I rfl ?_
    obtain ⟨rfl, rfl⟩ := qinj2 hf
    exact R_retZ rfl (by decide)
  · refine R_IfLt_f rfl c1063 ?_
    refine R_ldI rfl rfl ?_
    refine R_I rfl ?_
    rcases qite hf with ⟨c1064, hf⟩ | ⟨c1064, hf⟩
    · refine R_CmGe_t rfl c1064 ?_
      refine R_I rfl ?_
      obtain ⟨rfl, rfl⟩ := qinj2 hf
      exact R_retZ rfl (by decide)
    · refine R_CmGe_f rfl c1064 ?_
      refine R_I rfl ?_
      refine R_goto rfl ?_
      obtain ⟨rfl, rfl⟩ := qinj2 hf
      exact R_retZ rfl (by decide)
def f_X5_isLane (a0 : Int32) (h : qN) : Option (Int32 × qN) :=
  if a0 < 0 then
    some ((0 : Int32), h)
  else
    if (3 : Int32) ≤ a0 then
      some ((0 : Int32), h)
    else
      some ((1 : Int32), h)
set_option maxRecDepth 100000 in
theorem t_X5_isLane {d : Nat} (hd : 1 ≤ d) (a0 : Int32)  (h : qN) {v0 : Int32} {h1 : qN} (hf : f_X5_isLane a0 h = some (v0, h1)) : EE d 94 [.int a0] h (some (.int v0)) h1 := by
  obtain ⟨d, rfl⟩ : ∃ d0, d = d0 + 1 := ⟨d - 1, by omega⟩
  unfold f_X5_isLane at hf
  refine E_intro qm_94 qc_94 (Nat.le_of_ble_eq_true rfl) rfl rfl ?_
  show RR d cd_X5_isLane (0, 0) 0 [.int a0] [] h (some (.int v0)) h1
  refine R_ldI rfl rfl ?_
  rcases qite hf with ⟨c1065, hf⟩ | ⟨c1065, hf⟩
  · refine R_IfLt_t rfl c1065 ?_
    refine R_I rfl ?_
    obtain ⟨rfl, rfl⟩ := qinj2 hf
    exact R_retZ rfl (by decide)
  · refine R_IfLt_f rfl c1065 ?_
    refine R_ldI rfl rfl ?_
    refine R_I rfl ?_
    rcases qite hf with ⟨c1066, hf⟩ | ⟨c1066, hf⟩
    · refine R_CmGe_t rfl c1066 ?_
      refine R_I rfl ?_
      obtain ⟨rfl, rfl⟩ := qinj2 hf
      exact R_retZ rfl (by decide)
    · refine R_CmGe_f rfl c1066 ?_
      refine R_I rfl ?_
      refine R_goto rfl ?_
      obtain ⟨rfl, rfl⟩ := qinj2 hf
      exact R_retZ rfl (by decide)
def f_X5_dealOne (N : Nat) (r1 : Nat) (a2 : Int32) (h : qN) : Option (Int32 × qN) :=
  qbind (f_X2_holds r1 a2 (3 : Int32) h) fun (x1068, h1067) =>
  if x1068 = 0 then
    some ((0 : Int32), h1067)
  else
    if a2 < 0 ∨ 24 ≤ a2.toNatClampNeg then none else
    if (a2 + (1 : Int32)) < 0 ∨ 24 ≤ (a2 + (1 : Int32)).toNatClampNeg then none else
    if (a2 + (2 : Int32)) < 0 ∨ 24 ≤ (a2 + (2 : Int32)).toNatClampNeg then none else
    qbind (f_X5_sale N (h1067 (r1 + 1) a2.toNatClampNeg) (h1067 (r1 + 1) (a2 + (1 : Int32)).toNatClampNeg) (h1067 (r1 + 1) (a2 + (2 : Int32)).toNatClampNeg) h1067) fun (x1075, h1074) =>
    if x1075 < 0 then
      some ((0 : Int32), h1074)
    else
      some ((1 : Int32), h1074)
set_option maxRecDepth 100000 in
theorem t_X5_dealOne {d N : Nat} (hd : 6 ≤ d) (r1 : Nat) (a2 : Int32) (hr1 : isT r1) (h : qN) {v0 : Int32} {h1 : qN} (hf : f_X5_dealOne N r1 a2 h = some (v0, h1)) : EE d 101 [.ref 0, .ref r1, .int a2] h (some (.int v0)) h1 := by
  obtain ⟨d, rfl⟩ : ∃ d0, d = d0 + 1 := ⟨d - 1, by omega⟩
  unfold f_X5_dealOne at hf
  refine E_intro qm_101 qc_101 (Nat.le_of_ble_eq_true rfl) rfl rfl ?_
  show RR d cd_X5_dealOne (0, 0) 0 [.ref 0, .ref r1, .int a2] [] h (some (.int v0)) h1
  refine R_ldA rfl rfl ?_
  refine R_ldI rfl rfl ?_
  refine R_I rfl ?_
  obtain ⟨⟨x1068, h1067⟩, e1069, hf⟩ := qbind_some hf
  dsimp only at hf
  refine R_callVi (as := [.ref r1, .int a2, .int (3 : Int32)]) (rest := []) rfl rfl hr1.1 rfl rfl rfl rfl (t_X2_holds (by omega) r1 a2 (3 : Int32) hr1 h e1069) ?_
  rcases qite hf with ⟨c1070, hf⟩ | ⟨c1070, hf⟩
  · refine R_IfEq_t rfl c1070 ?_
    refine R_I rfl ?_
    obtain ⟨rfl, rfl⟩ := qinj2 hf
    exact R_retZ rfl (by decide)
  · refine R_IfEq_f rfl c1070 ?_
    refine R_ldA rfl rfl ?_
    refine R_ldA rfl rfl ?_
    refine R_get rfl hr1.1 rfl rfl ?_
    refine R_ldI rfl rfl ?_
    obtain ⟨c1071, hf⟩ := qchk hf
    refine R_ald rfl hr1.2 c1071 ?_
    refine R_ldA rfl rfl ?_
    refine R_get rfl hr1.1 rfl rfl ?_
    refine R_ldI rfl rfl ?_
    refine R_I rfl ?_
    refine R_bin rfl ?_
    obtain ⟨c1072, hf⟩ := qchk hf
    refine R_ald rfl hr1.2 c1072 ?_
    refine R_ldA rfl rfl ?_
    refine R_get rfl hr1.1 rfl rfl ?_
    refine R_ldI rfl rfl ?_
    refine R_I rfl ?_
    refine R_bin rfl ?_
    obtain ⟨c1073, hf⟩ := qchk hf
    refine R_ald rfl hr1.2 c1073 ?_
    obtain ⟨⟨x1075, h1074⟩, e1076, hf⟩ := qbind_some hf
    dsimp only at hf
    refine R_callVi (as := [.ref 0, .int (h1067 (r1 + 1) a2.toNatClampNeg), .int (h1067 (r1 + 1) (a2 + (1 : Int32)).toNatClampNeg), .int (h1067 (r1 + 1) (a2 + (2 : Int32)).toNatClampNeg)]) (rest := []) rfl rfl sh_0 rfl rfl rfl rfl (t_X5_sale (N := N) (by omega) (h1067 (r1 + 1) a2.toNatClampNeg) (h1067 (r1 + 1) (a2 + (1 : Int32)).toNatClampNeg) (h1067 (r1 + 1) (a2 + (2 : Int32)).toNatClampNeg) h1067 e1076) ?_
    rcases qite hf with ⟨c1077, hf⟩ | ⟨c1077, hf⟩
    · refine R_IfLt_t rfl c1077 ?_
      refine R_I rfl ?_
      obtain ⟨rfl, rfl⟩ := qinj2 hf
      exact R_retZ rfl (by decide)
    · refine R_IfLt_f rfl c1077 ?_
      refine R_I rfl ?_
      refine R_goto rfl ?_
      obtain ⟨rfl, rfl⟩ := qinj2 hf
      exact R_retZ rfl (by decide)
def f_X5_deal_L72 (N : Nat) (l3 : Int32) (l4 : Int32) (r5 : Nat) : Nat → Int32 → qN → Option (Int32 × qN)
  | 0, _, _ => none
  | n + 1, l7, h =>
    if l4 ≤ l7 then
      some (l7, h)
    else
      qbind (f_X5_dealOne N r5 (l3 + ((3 : Int32) * l7)) h) fun (x1099, h1098) =>
      if x1099 = 0 then
        some (l7, h1098)
      else
        f_X5_deal_L72 N l3 l4 r5 n (l7 + (1 : Int32)) h1098
set_option maxRecDepth 100000 in
theorem t_X5_deal_L72 {d N : Nat} (hd : 6 ≤ d) : ∀ (n : Nat) (l3 : Int32) (l4 : Int32) (r5 : Nat) (hr5 : isT r5) (l7 : Int32) (h : qN) (y7 : Int32) (h2 : qN), f_X5_deal_L72 N l3 l4 r5 n l7 h = some (y7, h2) → ∀ (v : Option Value) (h1 : qN), RR d cd_X5_deal (0, 0) 100 [qU, qU, qU, qU, qU, qU, qU, .int y7] [] h2 v h1 → RR d cd_X5_deal (0, 0) 72 [.ref 0, qU, qU, .int l3, .int l4, .ref r5, qU, .int l7] [] h v h1 := by
  intro n
  induction n with
  | zero =>
    intro l3 l4 r5 hr5 l7 h y7 h2 hf v h1 hE
    exact absurd hf (by simp [f_X5_deal_L72])
  | succ n ih =>
    intro l3 l4 r5 hr5 l7 h y7 h2 hf v h1 hE
    unfold f_X5_deal_L72 at hf
    refine R_ldI rfl rfl ?_
    refine R_ldI rfl rfl ?_
    rcases qite hf with ⟨c1097, hf⟩ | ⟨c1097, hf⟩
    · refine R_CmGe_t rfl c1097 ?_
      refine R_drop [false, true, true, false, false, false, true, true] (ls' := [qU, qU, qU, qU, qU, qU, qU, .int l7]) rfl ?_
      obtain ⟨rfl, rfl⟩ := qinj2 hf
      exact hE
    · refine R_CmGe_f rfl c1097 ?_
      refine R_ldA rfl rfl ?_
      refine R_ldA rfl rfl ?_
      refine R_ldI rfl rfl ?_
      refine R_I rfl ?_
      refine R_ldI rfl rfl ?_
      refine R_bin rfl ?_
      refine R_bin rfl ?_
      obtain ⟨⟨x1099, h1098⟩, e1100, hf⟩ := qbind_some hf
      dsimp only at hf
      refine R_callVi (as := [.ref 0, .ref r5, .int (l3 + ((3 : Int32) * l7))]) (rest := []) rfl rfl sh_0 rfl rfl rfl rfl (t_X5_dealOne (N := N) (by omega) r5 (l3 + ((3 : Int32) * l7)) hr5 h e1100) ?_
      rcases qite hf with ⟨c1101, hf⟩ | ⟨c1101, hf⟩
      · refine R_IfEq_t rfl c1101 ?_
        refine R_drop [false, true, true, false, false, false, true, true] (ls' := [qU, qU, qU, qU, qU, qU, qU, .int l7]) rfl ?_
        obtain ⟨rfl, rfl⟩ := qinj2 hf
        exact hE
      · refine R_IfEq_f rfl c1101 ?_
        refine R_inc (ls' := [.ref 0, qU, qU, .int l3, .int l4, .ref r5, qU, .int (l7 + (1 : Int32))]) rfl rfl rfl rfl ?_
        refine R_goto rfl ?_
        exact ih l3 l4 r5 hr5 (l7 + (1 : Int32)) h1098 _ _ hf _ _ hE
def f_X5_deal (N : Nat) (a1 : Int32) (a2 : Int32) (a3 : Int32) (a4 : Int32) (h : qN) : Option (Int32 × qN) :=
  qbind (f_X5_isSheet a1 h) fun (x1079, h1078) =>
  if x1079 = 0 then
    some ((-1 : Int32), h1078)
  else
    qbind (f_X5_isLane a2 h1078) fun (x1083, h1082) =>
    if x1083 = 0 then
      some ((-1 : Int32), h1082)
    else
      if a4 < (1 : Int32) then
        some ((-1 : Int32), h1082)
      else
        if a4 ≤ (8 : Int32) then
          if a1 < 0 ∨ 4 ≤ a1.toNatClampNeg then none else
          qbind (f_X2_refuses (52 + 2 * a1.toNatClampNeg) a2 h1082) fun (x1090, h1089) =>
          if x1090 = 0 then
            qbind (f_X2_holds (52 + 2 * a1.toNatClampNeg) a3 ((3 : Int32) * a4) h1089) fun (x1094, h1093) =>
            if x1094 = 0 then
              some ((-13 : Int32), h1093)
            else
              qbind (f_X5_deal_L72 N a3 a4 (52 + 2 * a1.toNatClampNeg) N (0 : Int32) h1093) fun (x1103, h1104) =>
              some (x1103, h1104)
          else
            some (x1090, h1089)
        else
          some ((-1 : Int32), h1082)
set_option maxRecDepth 100000 in
theorem t_X5_deal {d N : Nat} (hd : 7 ≤ d) (a1 : Int32) (a2 : Int32) (a3 : Int32) (a4 : Int32)  (h : qN) {v0 : Int32} {h1 : qN} (hf : f_X5_deal N a1 a2 a3 a4 h = some (v0, h1)) : EE d 86 [.ref 0, .int a1, .int a2, .int a3, .int a4] h (some (.int v0)) h1 := by
  obtain ⟨d, rfl⟩ : ∃ d0, d = d0 + 1 := ⟨d - 1, by omega⟩
  unfold f_X5_deal at hf
  refine E_intro qm_86 qc_86 (Nat.le_of_ble_eq_true rfl) rfl rfl ?_
  show RR d cd_X5_deal (0, 0) 0 [.ref 0, .int a1, .int a2, .int a3, .int a4, qU, qU, qU] [] h (some (.int v0)) h1
  refine R_ldI rfl rfl ?_
  obtain ⟨⟨x1079, h1078⟩, e1080, hf⟩ := qbind_some hf
  dsimp only at hf
  refine R_callSi (as := [.int a1]) (rest := []) rfl rfl rfl rfl rfl rfl (t_X5_isSheet (by omega) a1 h e1080) ?_
  rcases qite hf with ⟨c1081, hf⟩ | ⟨c1081, hf⟩
  · refine R_IfEq_t rfl c1081 ?_
    refine R_I rfl ?_
    obtain ⟨rfl, rfl⟩ := qinj2 hf
    exact R_retI rfl
  · refine R_IfEq_f rfl c1081 ?_
    refine R_ldI rfl rfl ?_
    obtain ⟨⟨x1083, h1082⟩, e1084, hf⟩ := qbind_some hf
    dsimp only at hf
    refine R_callSi (as := [.int a2]) (rest := []) rfl rfl rfl rfl rfl rfl (t_X5_isLane (by omega) a2 h1078 e1084) ?_
    rcases qite hf with ⟨c1085, hf⟩ | ⟨c1085, hf⟩
    · refine R_IfEq_t rfl c1085 ?_
      refine R_I rfl ?_
      obtain ⟨rfl, rfl⟩ := qinj2 hf
      exact R_retI rfl
    · refine R_IfEq_f rfl c1085 ?_
      refine R_ldI rfl rfl ?_
      refine R_I rfl ?_
      rcases qite hf with ⟨c1086, hf⟩ | ⟨c1086, hf⟩
      · refine R_CmLt_t rfl c1086 ?_
        refine R_I rfl ?_
        obtain ⟨rfl, rfl⟩ := qinj2 hf
        exact R_retI rfl
      · refine R_CmLt_f rfl c1086 ?_
        refine R_ldI rfl rfl ?_
        refine R_I rfl ?_
        rcases qite hf with ⟨c1087, hf⟩ | ⟨c1087, hf⟩
        · refine R_CmLe_t rfl c1087 ?_
          refine R_ldA rfl rfl ?_
          refine R_get rfl sh_0 rfl rfl ?_
          refine R_ldI rfl rfl ?_
          obtain ⟨c1088, hf⟩ := qchk hf
          refine R_aald rfl sh_51 c1088 (isT_sh c1088).2 ?_
          refine R_stA (ls' := [.ref 0, .int a1, .int a2, .int a3, .int a4, .ref (52 + 2 * a1.toNatClampNeg), qU, qU]) rfl rfl rfl rfl ?_
          refine R_ldA rfl rfl ?_
          refine R_ldI rfl rfl ?_
          obtain ⟨⟨x1090, h1089⟩, e1091, hf⟩ := qbind_some hf
          dsimp only at hf
          refine R_callVi (as := [.ref (52 + 2 * a1.toNatClampNeg), .int a2]) (rest := []) rfl rfl (isT_sh c1088).1.1 rfl rfl rfl rfl (t_X2_refuses (by omega) (52 + 2 * a1.toNatClampNeg) a2 (isT_sh c1088).1 h1082 e1091) ?_
          refine R_stI (ls' := [.ref 0, .int a1, .int a2, .int a3, .int a4, .ref (52 + 2 * a1.toNatClampNeg), .int x1090, qU]) rfl rfl rfl rfl ?_
          refine R_ldI rfl rfl ?_
          rcases qite hf with ⟨c1092, hf⟩ | ⟨c1092, hf⟩
          · refine R_IfEq_t rfl c1092 ?_
            refine R_ldA rfl rfl ?_
            refine R_ldI rfl rfl ?_
            refine R_I rfl ?_
            refine R_ldI rfl rfl ?_
            refine R_bin rfl ?_
            obtain ⟨⟨x1094, h1093⟩, e1095, hf⟩ := qbind_some hf
            dsimp only at hf
            refine R_callVi (as := [.ref (52 + 2 * a1.toNatClampNeg), .int a3, .int ((3 : Int32) * a4)]) (rest := []) rfl rfl (isT_sh c1088).1.1 rfl rfl rfl rfl (t_X2_holds (by omega) (52 + 2 * a1.toNatClampNeg) a3 ((3 : Int32) * a4) (isT_sh c1088).1 h1089 e1095) ?_
            rcases qite hf with ⟨c1096, hf⟩ | ⟨c1096, hf⟩
            · refine R_IfNe_f rfl c1096 ?_
              refine R_I rfl ?_
              obtain ⟨rfl, rfl⟩ := qinj2 hf
              exact R_retI rfl
            · refine R_IfNe_t rfl c1096 ?_
              refine R_I rfl ?_
              refine R_stI (ls' := [.ref 0, .int a1, .int a2, .int a3, .int a4, .ref (52 + 2 * a1.toNatClampNeg), .int x1090, .int (0 : Int32)]) rfl rfl rfl rfl ?_
              refine R_drop [true, false, false, true, true, true, false, true] (ls' := [.ref 0, qU, qU, .int a3, .int a4, .ref (52 + 2 * a1.toNatClampNeg), qU, .int (0 : Int32)]) rfl ?_
              obtain ⟨⟨x1103, h1104⟩, e1105, hf⟩ := qbind_some hf
              dsimp only at hf
              refine t_X5_deal_L72 (N := N) (by omega) _ a3 a4 (52 + 2 * a1.toNatClampNeg) (isT_sh c1088).1 (0 : Int32) h1093 x1103 h1104 e1105 _ _ ?_
              refine R_ldI rfl rfl ?_
              obtain ⟨rfl, rfl⟩ := qinj2 hf
              exact R_retI rfl
          · refine R_IfEq_f rfl c1092 ?_
            refine R_ldI rfl rfl ?_
            obtain ⟨rfl, rfl⟩ := qinj2 hf
            exact R_retI rfl
        · refine R_CmLe_f rfl c1087 ?_
          refine R_I rfl ?_
          obtain ⟨rfl, rfl⟩ := qinj2 hf
          exact R_retI rfl
def f_X5_sheet (N : Nat) (a1 : Int32) (a2 : Int32) (a3 : Int32) (h : qN) : Option (Int32 × qN) :=
  qbind (f_X5_isSheet a1 h) fun (x1109, h1108) =>
  if x1109 = 0 then
    some ((-1 : Int32), h1108)
  else
    qbind (f_X5_isLane a2 h1108) fun (x1113, h1112) =>
    if x1113 = 0 then
      some ((-1 : Int32), h1112)
    else
      if a3 ≤ (24 : Int32) then
        if 0 ≤ a3 then
          if a1 < 0 ∨ 4 ≤ a1.toNatClampNeg then none else
          qbind (f_X2_begin N (52 + 2 * a1.toNatClampNeg) a2 a3 h1112) fun h1119 =>
          some (a3, h1119)
        else
          some ((-14 : Int32), h1112)
      else
        some ((-1 : Int32), h1112)
set_option maxRecDepth 100000 in
theorem t_X5_sheet {d N : Nat} (hd : 2 ≤ d) (a1 : Int32) (a2 : Int32) (a3 : Int32)  (h : qN) {v0 : Int32} {h1 : qN} (hf : f_X5_sheet N a1 a2 a3 h = some (v0, h1)) : EE d 87 [.ref 0, .int a1, .int a2, .int a3] h (some (.int v0)) h1 := by
  obtain ⟨d, rfl⟩ : ∃ d0, d = d0 + 1 := ⟨d - 1, by omega⟩
  unfold f_X5_sheet at hf
  refine E_intro qm_87 qc_87 (Nat.le_of_ble_eq_true rfl) rfl rfl ?_
  show RR d cd_X5_sheet (0, 0) 0 [.ref 0, .int a1, .int a2, .int a3] [] h (some (.int v0)) h1
  refine R_ldI rfl rfl ?_
  obtain ⟨⟨x1109, h1108⟩, e1110, hf⟩ := qbind_some hf
  dsimp only at hf
  refine R_callSi (as := [.int a1]) (rest := []) rfl rfl rfl rfl rfl rfl (t_X5_isSheet (by omega) a1 h e1110) ?_
  rcases qite hf with ⟨c1111, hf⟩ | ⟨c1111, hf⟩
  · refine R_IfEq_t rfl c1111 ?_
    refine R_I rfl ?_
    obtain ⟨rfl, rfl⟩ := qinj2 hf
    exact R_retI rfl
  · refine R_IfEq_f rfl c1111 ?_
    refine R_ldI rfl rfl ?_
    obtain ⟨⟨x1113, h1112⟩, e1114, hf⟩ := qbind_some hf
    dsimp only at hf
    refine R_callSi (as := [.int a2]) (rest := []) rfl rfl rfl rfl rfl rfl (t_X5_isLane (by omega) a2 h1108 e1114) ?_
    rcases qite hf with ⟨c1115, hf⟩ | ⟨c1115, hf⟩
    · refine R_IfEq_t rfl c1115 ?_
      refine R_I rfl ?_
      obtain ⟨rfl, rfl⟩ := qinj2 hf
      exact R_retI rfl
    · refine R_IfEq_f rfl c1115 ?_
      refine R_ldI rfl rfl ?_
      refine R_I rfl ?_
      rcases qite hf with ⟨c1116, hf⟩ | ⟨c1116, hf⟩
      · refine R_CmLe_t rfl c1116 ?_
        refine R_ldI rfl rfl ?_
        rcases qite hf with ⟨c1117, hf⟩ | ⟨c1117, hf⟩
        · refine R_IfGe_t rfl c1117 ?_
          refine R_ldA rfl rfl ?_
          refine R_get rfl sh_0 rfl rfl ?_
          refine R_ldI rfl rfl ?_
          obtain ⟨c1118, hf⟩ := qchk hf
          refine R_aald rfl sh_51 c1118 (isT_sh c1118).2 ?_
          refine R_ldI rfl rfl ?_
          refine R_ldI rfl rfl ?_
          obtain ⟨h1119, e1120, hf⟩ := qbind_some hf
          refine R_callVv (as := [.ref (52 + 2 * a1.toNatClampNeg), .int a2, .int a3]) (rest := []) rfl rfl (isT_sh c1118).1.1 rfl rfl rfl rfl (t_X2_begin (N := N) (by omega) (52 + 2 * a1.toNatClampNeg) a2 a3 (isT_sh c1118).1 h1112 e1120) ?_
          refine R_ldI rfl rfl ?_
          obtain ⟨rfl, rfl⟩ := qinj2 hf
          exact R_retI rfl
        · refine R_IfGe_f rfl c1117 ?_
          refine R_I rfl ?_
          obtain ⟨rfl, rfl⟩ := qinj2 hf
          exact R_retI rfl
      · refine R_CmLe_f rfl c1116 ?_
        refine R_I rfl ?_
        obtain ⟨rfl, rfl⟩ := qinj2 hf
        exact R_retI rfl
def f_X5_drop (a1 : Int32) (h : qN) : Option (Int32 × qN) :=
  qbind (f_X5_isSheet a1 h) fun (x1122, h1121) =>
  if x1122 = 0 then
    some ((-1 : Int32), h1121)
  else
    if a1 < 0 ∨ 4 ≤ a1.toNatClampNeg then none else
    if (h1121 (52 + 2 * a1.toNatClampNeg) 1) = 0 then
      some (((qup h1121 (52 + 2 * a1.toNatClampNeg) 1 (1 : Int32)) (52 + 2 * a1.toNatClampNeg) 3), (qup h1121 (52 + 2 * a1.toNatClampNeg) 1 (1 : Int32)))
    else
      some ((-11 : Int32), h1121)
set_option maxRecDepth 100000 in
theorem t_X5_drop {d : Nat} (hd : 2 ≤ d) (a1 : Int32)  (h : qN) {v0 : Int32} {h1 : qN} (hf : f_X5_drop a1 h = some (v0, h1)) : EE d 88 [.ref 0, .int a1] h (some (.int v0)) h1 := by
  obtain ⟨d, rfl⟩ : ∃ d0, d = d0 + 1 := ⟨d - 1, by omega⟩
  unfold f_X5_drop at hf
  refine E_intro qm_88 qc_88 (Nat.le_of_ble_eq_true rfl) rfl rfl ?_
  show RR d cd_X5_drop (0, 0) 0 [.ref 0, .int a1, qU] [] h (some (.int v0)) h1
  refine R_ldI rfl rfl ?_
  obtain ⟨⟨x1122, h1121⟩, e1123, hf⟩ := qbind_some hf
  dsimp only at hf
  refine R_callSi (as := [.int a1]) (rest := []) rfl rfl rfl rfl rfl rfl (t_X5_isSheet (by omega) a1 h e1123) ?_
  rcases qite hf with ⟨c1124, hf⟩ | ⟨c1124, hf⟩
  · refine R_IfNe_f rfl c1124 ?_
    refine R_I rfl ?_
    obtain ⟨rfl, rfl⟩ := qinj2 hf
    exact R_retI rfl
  · refine R_IfNe_t rfl c1124 ?_
    refine R_ldA rfl rfl ?_
    refine R_get rfl sh_0 rfl rfl ?_
    refine R_ldI rfl rfl ?_
    obtain ⟨c1125, hf⟩ := qchk hf
    refine R_aald rfl sh_51 c1125 (isT_sh c1125).2 ?_
    refine R_stA (ls' := [.ref 0, .int a1, .ref (52 + 2 * a1.toNatClampNeg)]) rfl rfl rfl rfl ?_
    refine R_ldA rfl rfl ?_
    refine R_get rfl (isT_sh c1125).1.1 rfl rfl ?_
    rcases qite hf with ⟨c1126, hf⟩ | ⟨c1126, hf⟩
    · refine R_IfEq_t rfl c1126 ?_
      refine R_ldA rfl rfl ?_
      refine R_I rfl ?_
      refine R_putZ rfl (isT_sh c1125).1.1 rfl (by decide) ?_
      refine R_ldA rfl rfl ?_
      refine R_get rfl (isT_sh c1125).1.1 rfl rfl ?_
      obtain ⟨rfl, rfl⟩ := qinj2 hf
      exact R_retI rfl
    · refine R_IfEq_f rfl c1126 ?_
      refine R_I rfl ?_
      obtain ⟨rfl, rfl⟩ := qinj2 hf
      exact R_retI rfl
def f_X5_item (a1 : Int32) (a2 : Int32) (a3 : Int32) (a4 : Int32) (h : qN) : Option (Int32 × qN) :=
  qbind (f_X5_isSheet a1 h) fun (x1128, h1127) =>
  if x1128 = 0 then
    some ((-1 : Int32), h1127)
  else
    qbind (f_X5_isLane a2 h1127) fun (x1132, h1131) =>
    if x1132 = 0 then
      some ((-1 : Int32), h1131)
    else
      if a1 < 0 ∨ 4 ≤ a1.toNatClampNeg then none else
      qbind (f_X2_refuses (52 + 2 * a1.toNatClampNeg) a2 h1131) fun (x1137, h1136) =>
      if x1137 = 0 then
        qbind (f_X2_holds (52 + 2 * a1.toNatClampNeg) a3 (1 : Int32) h1136) fun (x1141, h1140) =>
        if x1141 = 0 then
          some ((-13 : Int32), h1140)
        else
          qbind (f_X2_lowestBits a2 a4 h1140) fun (x1145, h1144) =>
          if a3 < 0 ∨ 24 ≤ a3.toNatClampNeg then none else
          some ((1 : Int32), (qup h1144 ((52 + 2 * a1.toNatClampNeg) + 1) a3.toNatClampNeg x1145))
      else
        some (x1137, h1136)
set_option maxRecDepth 100000 in
theorem t_X5_item {d : Nat} (hd : 2 ≤ d) (a1 : Int32) (a2 : Int32) (a3 : Int32) (a4 : Int32)  (h : qN) {v0 : Int32} {h1 : qN} (hf : f_X5_item a1 a2 a3 a4 h = some (v0, h1)) : EE d 89 [.ref 0, .int a1, .int a2, .int a3, .int a4] h (some (.int v0)) h1 := by
  obtain ⟨d, rfl⟩ : ∃ d0, d = d0 + 1 := ⟨d - 1, by omega⟩
  unfold f_X5_item at hf
  refine E_intro qm_89 qc_89 (Nat.le_of_ble_eq_true rfl) rfl rfl ?_
  show RR d cd_X5_item (0, 0) 0 [.ref 0, .int a1, .int a2, .int a3, .int a4, qU, qU] [] h (some (.int v0)) h1
  refine R_ldI rfl rfl ?_
  obtain ⟨⟨x1128, h1127⟩, e1129, hf⟩ := qbind_some hf
  dsimp only at hf
  refine R_callSi (as := [.int a1]) (rest := []) rfl rfl rfl rfl rfl rfl (t_X5_isSheet (by omega) a1 h e1129) ?_
  rcases qite hf with ⟨c1130, hf⟩ | ⟨c1130, hf⟩
  · refine R_IfEq_t rfl c1130 ?_
    refine R_I rfl ?_
    obtain ⟨rfl, rfl⟩ := qinj2 hf
    exact R_retI rfl
  · refine R_IfEq_f rfl c1130 ?_
    refine R_ldI rfl rfl ?_
    obtain ⟨⟨x1132, h1131⟩, e1133, hf⟩ := qbind_some hf
    dsimp only at hf
    refine R_callSi (as := [.int a2]) (rest := []) rfl rfl rfl rfl rfl rfl (t_X5_isLane (by omega) a2 h1127 e1133) ?_
    rcases qite hf with ⟨c1134, hf⟩ | ⟨c1134, hf⟩
    · refine R_IfNe_f rfl c1134 ?_
      refine R_I rfl ?_
      obtain ⟨rfl, rfl⟩ := qinj2 hf
      exact R_retI rfl
    · refine R_IfNe_t rfl c1134 ?_
      refine R_ldA rfl rfl ?_
      refine R_get rfl sh_0 rfl rfl ?_
      refine R_ldI rfl rfl ?_
      obtain ⟨c1135, hf⟩ := qchk hf
      refine R_aald rfl sh_51 c1135 (isT_sh c1135).2 ?_
      refine R_stA (ls' := [.ref 0, .int a1, .int a2, .int a3, .int a4, .ref (52 + 2 * a1.toNatClampNeg), qU]) rfl rfl rfl rfl ?_
      refine R_ldA rfl rfl ?_
      refine R_ldI rfl rfl ?_
      obtain ⟨⟨x1137, h1136⟩, e1138, hf⟩ := qbind_some hf
      dsimp only at hf
      refine R_callVi (as := [.ref (52 + 2 * a1.toNatClampNeg), .int a2]) (rest := []) rfl rfl (isT_sh c1135).1.1 rfl rfl rfl rfl (t_X2_refuses (by omega) (52 + 2 * a1.toNatClampNeg) a2 (isT_sh c1135).1 h1131 e1138) ?_
      refine R_stI (ls' := [.ref 0, .int a1, .int a2, .int a3, .int a4, .ref (52 + 2 * a1.toNatClampNeg), .int x1137]) rfl rfl rfl rfl ?_
      refine R_ldI rfl rfl ?_
      rcases qite hf with ⟨c1139, hf⟩ | ⟨c1139, hf⟩
      · refine R_IfEq_t rfl c1139 ?_
        refine R_ldA rfl rfl ?_
        refine R_ldI rfl rfl ?_
        refine R_I rfl ?_
        obtain ⟨⟨x1141, h1140⟩, e1142, hf⟩ := qbind_some hf
        dsimp only at hf
        refine R_callVi (as := [.ref (52 + 2 * a1.toNatClampNeg), .int a3, .int (1 : Int32)]) (rest := []) rfl rfl (isT_sh c1135).1.1 rfl rfl rfl rfl (t_X2_holds (by omega) (52 + 2 * a1.toNatClampNeg) a3 (1 : Int32) (isT_sh c1135).1 h1136 e1142) ?_
        rcases qite hf with ⟨c1143, hf⟩ | ⟨c1143, hf⟩
        · refine R_IfNe_f rfl c1143 ?_
          refine R_I rfl ?_
          obtain ⟨rfl, rfl⟩ := qinj2 hf
          exact R_retI rfl
        · refine R_IfNe_t rfl c1143 ?_
          refine R_ldA rfl rfl ?_
          refine R_get rfl (isT_sh c1135).1.1 rfl rfl ?_
          refine R_ldI rfl rfl ?_
          refine R_ldI rfl rfl ?_
          refine R_ldI rfl rfl ?_
          obtain ⟨⟨x1145, h1144⟩, e1146, hf⟩ := qbind_some hf
          dsimp only at hf
          refine R_callSi (as := [.int a2, .int a4]) (rest := [.int a3, .ref ((52 + 2 * a1.toNatClampNeg) + 1)]) rfl rfl rfl rfl rfl rfl (t_X2_lowestBits (by omega) a2 a4 h1140 e1146) ?_
          obtain ⟨c1147, hf⟩ := qchk hf
          refine R_ast rfl (isT_sh c1135).1.2 c1147 ?_
          refine R_I rfl ?_
          obtain ⟨rfl, rfl⟩ := qinj2 hf
          exact R_retI rfl
      · refine R_IfEq_f rfl c1139 ?_
        refine R_ldI rfl rfl ?_
        obtain ⟨rfl, rfl⟩ := qinj2 hf
        exact R_retI rfl
def f_X5_copy (a1 : Int32) (a2 : Int32) (a3 : Int32) (a4 : Int32) (a5 : Int32) (h : qN) : Option (Int32 × qN) :=
  qbind (f_X5_isSheet a1 h) fun (x1149, h1148) =>
  if x1149 = 0 then
    some ((-1 : Int32), h1148)
  else
    qbind (f_X5_isSheet a3 h1148) fun (x1153, h1152) =>
    if x1153 = 0 then
      some ((-1 : Int32), h1152)
    else
      if a1 < 0 ∨ 4 ≤ a1.toNatClampNeg then none else
      if a3 < 0 ∨ 4 ≤ a3.toNatClampNeg then none else
      if (h1152 (52 + 2 * a1.toNatClampNeg) 1) = 0 then
        if (h1152 (52 + 2 * a3.toNatClampNeg) 1) = 0 then
          if (h1152 (52 + 2 * a1.toNatClampNeg) 2) = (h1152 (52 + 2 * a3.toNatClampNeg) 2) then
            qbind (f_X2_holds (52 + 2 * a1.toNatClampNeg) a2 a5 h1152) fun (x1162, h1161) =>
            if x1162 = 0 then
              some ((-13 : Int32), h1161)
            else
              qbind (f_X2_holds (52 + 2 * a3.toNatClampNeg) a4 a5 h1161) fun (x1166, h1165) =>
              if x1166 = 0 then
                some ((-13 : Int32), h1165)
              else
                if ¬ a2 < 0 ∧ ¬ a4 < 0 ∧ ¬ a5 < 0 ∧ a2.toNatClampNeg + a5.toNatClampNeg ≤ 24 ∧ a4.toNatClampNeg + a5.toNatClampNeg ≤ 24 then
                  some (a5, (qrow h1165 ((52 + 2 * a3.toNatClampNeg) + 1) (va_cpy (h1165 ((52 + 2 * a1.toNatClampNeg) + 1)) (h1165 ((52 + 2 * a3.toNatClampNeg) + 1)) a2.toNatClampNeg a4.toNatClampNeg a5.toNatClampNeg)))
                else none
          else
            some ((-12 : Int32), h1152)
        else
          some ((-11 : Int32), h1152)
      else
        some ((-11 : Int32), h1152)
set_option maxRecDepth 100000 in
theorem t_X5_copy {d : Nat} (hd : 2 ≤ d) (a1 : Int32) (a2 : Int32) (a3 : Int32) (a4 : Int32) (a5 : Int32)  (h : qN) {v0 : Int32} {h1 : qN} (hf : f_X5_copy a1 a2 a3 a4 a5 h = some (v0, h1)) : EE d 90 [.ref 0, .int a1, .int a2, .int a3, .int a4, .int a5] h (some (.int v0)) h1 := by
  obtain ⟨d, rfl⟩ : ∃ d0, d = d0 + 1 := ⟨d - 1, by omega⟩
  unfold f_X5_copy at hf
  refine E_intro qm_90 qc_90 (Nat.le_of_ble_eq_true rfl) rfl rfl ?_
  show RR d cd_X5_copy (0, 0) 0 [.ref 0, .int a1, .int a2, .int a3, .int a4, .int a5, qU, qU] [] h (some (.int v0)) h1
  refine R_ldI rfl rfl ?_
  obtain ⟨⟨x1149, h1148⟩, e1150, hf⟩ := qbind_some hf
  dsimp only at hf
  refine R_callSi (as := [.int a1]) (rest := []) rfl rfl rfl rfl rfl rfl (t_X5_isSheet (by omega) a1 h e1150) ?_
  rcases qite hf with ⟨c1151, hf⟩ | ⟨c1151, hf⟩
  · refine R_IfEq_t rfl c1151 ?_
    refine R_I rfl ?_
    obtain ⟨rfl, rfl⟩ := qinj2 hf
    exact R_retI rfl
  · refine R_IfEq_f rfl c1151 ?_
    refine R_ldI rfl rfl ?_
    obtain ⟨⟨x1153, h1152⟩, e1154, hf⟩ := qbind_some hf
    dsimp only at hf
    refine R_callSi (as := [.int a3]) (rest := []) rfl rfl rfl rfl rfl rfl (t_X5_isSheet (by omega) a3 h1148 e1154) ?_
    rcases qite hf with ⟨c1155, hf⟩ | ⟨c1155, hf⟩
    · refine R_IfNe_f rfl c1155 ?_
      refine R_I rfl ?_
      obtain ⟨rfl, rfl⟩ := qinj2 hf
      exact R_retI rfl
    · refine R_IfNe_t rfl c1155 ?_
      refine R_ldA rfl rfl ?_
      refine R_get rfl sh_0 rfl rfl ?_
      refine R_ldI rfl rfl ?_
      obtain ⟨c1156, hf⟩ := qchk hf
      refine R_aald rfl sh_51 c1156 (isT_sh c1156).2 ?_
      refine R_stA (ls' := [.ref 0, .int a1, .int a2, .int a3, .int a4, .int a5, .ref (52 + 2 * a1.toNatClampNeg), qU]) rfl rfl rfl rfl ?_
      refine R_ldA rfl rfl ?_
      refine R_get rfl sh_0 rfl rfl ?_
      refine R_ldI rfl rfl ?_
      obtain ⟨c1157, hf⟩ := qchk hf
      refine R_aald rfl sh_51 c1157 (isT_sh c1157).2 ?_
      refine R_stA (ls' := [.ref 0, .int a1, .int a2, .int a3, .int a4, .int a5, .ref (52 + 2 * a1.toNatClampNeg), .ref (52 + 2 * a3.toNatClampNeg)]) rfl rfl rfl rfl ?_
      refine R_ldA rfl rfl ?_
      refine R_get rfl (isT_sh c1156).1.1 rfl rfl ?_
      rcases qite hf with ⟨c1158, hf⟩ | ⟨c1158, hf⟩
      · refine R_IfNe_f rfl c1158 ?_
        refine R_ldA rfl rfl ?_
        refine R_get rfl (isT_sh c1157).1.1 rfl rfl ?_
        rcases qite hf with ⟨c1159, hf⟩ | ⟨c1159, hf⟩
        · refine R_IfEq_t rfl c1159 ?_
          refine R_ldA rfl rfl ?_
          refine R_get rfl (isT_sh c1156).1.1 rfl rfl ?_
          refine R_ldA rfl rfl ?_
          refine R_get rfl (isT_sh c1157).1.1 rfl rfl ?_
          rcases qite hf with ⟨c1160, hf⟩ | ⟨c1160, hf⟩
          · refine R_CmEq_t rfl c1160 ?_
            refine R_ldA rfl rfl ?_
            refine R_ldI rfl rfl ?_
            refine R_ldI rfl rfl ?_
            obtain ⟨⟨x1162, h1161⟩, e1163, hf⟩ := qbind_some hf
            dsimp only at hf
            refine R_callVi (as := [.ref (52 + 2 * a1.toNatClampNeg), .int a2, .int a5]) (rest := []) rfl rfl (isT_sh c1156).1.1 rfl rfl rfl rfl (t_X2_holds (by omega) (52 + 2 * a1.toNatClampNeg) a2 a5 (isT_sh c1156).1 h1152 e1163) ?_
            rcases qite hf with ⟨c1164, hf⟩ | ⟨c1164, hf⟩
            · refine R_IfEq_t rfl c1164 ?_
              refine R_I rfl ?_
              obtain ⟨rfl, rfl⟩ := qinj2 hf
              exact R_retI rfl
            · refine R_IfEq_f rfl c1164 ?_
              refine R_ldA rfl rfl ?_
              refine R_ldI rfl rfl ?_
              refine R_ldI rfl rfl ?_
              obtain ⟨⟨x1166, h1165⟩, e1167, hf⟩ := qbind_some hf
              dsimp only at hf
              refine R_callVi (as := [.ref (52 + 2 * a3.toNatClampNeg), .int a4, .int a5]) (rest := []) rfl rfl (isT_sh c1157).1.1 rfl rfl rfl rfl (t_X2_holds (by omega) (52 + 2 * a3.toNatClampNeg) a4 a5 (isT_sh c1157).1 h1161 e1167) ?_
              rcases qite hf with ⟨c1168, hf⟩ | ⟨c1168, hf⟩
              · refine R_IfNe_f rfl c1168 ?_
                refine R_I rfl ?_
                obtain ⟨rfl, rfl⟩ := qinj2 hf
                exact R_retI rfl
              · refine R_IfNe_t rfl c1168 ?_
                refine R_ldA rfl rfl ?_
                refine R_get rfl (isT_sh c1156).1.1 rfl rfl ?_
                refine R_ldI rfl rfl ?_
                refine R_ldA rfl rfl ?_
                refine R_get rfl (isT_sh c1157).1.1 rfl rfl ?_
                refine R_ldI rfl rfl ?_
                refine R_ldI rfl rfl ?_
                obtain ⟨c1169, hf⟩ := qreq hf
                refine R_copyN (s' := a2.toNatClampNeg) (d' := a4.toNatClampNeg) (z' := a5.toNatClampNeg) rfl (isT_sh c1156).1.2 (isT_sh c1157).1.2 rfl rfl rfl c1169 (by decide) ?_
                refine R_ldI rfl rfl ?_
                obtain ⟨rfl, rfl⟩ := qinj2 hf
                exact R_retI rfl
          · refine R_CmEq_f rfl c1160 ?_
            refine R_I rfl ?_
            obtain ⟨rfl, rfl⟩ := qinj2 hf
            exact R_retI rfl
        · refine R_IfEq_f rfl c1159 ?_
          refine R_I rfl ?_
          obtain ⟨rfl, rfl⟩ := qinj2 hf
          exact R_retI rfl
      · refine R_IfNe_t rfl c1158 ?_
        refine R_I rfl ?_
        obtain ⟨rfl, rfl⟩ := qinj2 hf
        exact R_retI rfl
