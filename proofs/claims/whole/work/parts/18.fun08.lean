def f_X6_fewest (N : Nat) (a1 : Int32) (h : qN) : Option (Int32 × qN) :=
  qbind (f_X6_in a1.toInt64 (-1 : Int64) (2 : Int64) h) fun (x2083, h2082) =>
  if x2083 = 0 then
    some ((-1 : Int32), h2082)
  else
    qbind (f_X6_fewestOf N  h2082) fun (x2087, h2086) =>
    if x2087 = (4 : Int32) then
      some ((-4 : Int32), h2086)
    else
      if 0 ≤ a1 then
        if x2087 ≤ a1 then
          some ((-4 : Int32), h2086)
        else
          if a1 < 0 ∨ 3 ≤ a1.toNatClampNeg then none else
          some ((h2086 74 a1.toNatClampNeg), h2086)
      else
        some (x2087, h2086)
set_option maxRecDepth 100000 in
theorem t_X6_fewest {d N : Nat} (hd : 6 ≤ d) (a1 : Int32)  (h : qN) {v0 : Int32} {h1 : qN} (hf : f_X6_fewest N a1 h = some (v0, h1)) : EE d 158 [.ref 60, .int a1] h (some (.int v0)) h1 := by
  obtain ⟨d, rfl⟩ : ∃ d0, d = d0 + 1 := ⟨d - 1, by omega⟩
  unfold f_X6_fewest at hf
  refine E_intro qm_158 qc_158 (Nat.le_of_ble_eq_true rfl) rfl rfl ?_
  show RR d cd_X6_fewest (0, 0) 0 [.ref 60, .int a1, qU] [] h (some (.int v0)) h1
  refine R_ldI rfl rfl ?_
  refine R_i2l rfl ?_
  refine R_L rfl ?_
  refine R_L rfl ?_
  obtain ⟨⟨x2083, h2082⟩, e2084, hf⟩ := qbind_some hf
  dsimp only at hf
  refine R_callSi (as := [.long a1.toInt64, .long (-1 : Int64), .long (2 : Int64)]) (rest := []) rfl rfl rfl rfl rfl rfl (t_X6_in (by omega) a1.toInt64 (-1 : Int64) (2 : Int64) h e2084) ?_
  rcases qite hf with ⟨c2085, hf⟩ | ⟨c2085, hf⟩
  · refine R_IfNe_f rfl c2085 ?_
    refine R_I rfl ?_
    obtain ⟨rfl, rfl⟩ := qinj2 hf
    exact R_retI rfl
  · refine R_IfNe_t rfl c2085 ?_
    refine R_ldA rfl rfl ?_
    obtain ⟨⟨x2087, h2086⟩, e2088, hf⟩ := qbind_some hf
    dsimp only at hf
    refine R_callVi (as := [.ref 60]) (rest := []) rfl rfl sh_60 rfl rfl rfl rfl (t_X6_fewestOf (N := N) (by omega)  h2082 e2088) ?_
    refine R_stI (ls' := [.ref 60, .int a1, .int x2087]) rfl rfl rfl rfl ?_
    refine R_ldI rfl rfl ?_
    refine R_I rfl ?_
    rcases qite hf with ⟨c2089, hf⟩ | ⟨c2089, hf⟩
    · refine R_CmNe_f rfl c2089 ?_
      refine R_I rfl ?_
      refine R_goto rfl ?_
      obtain ⟨rfl, rfl⟩ := qinj2 hf
      exact R_retI rfl
    · refine R_CmNe_t rfl c2089 ?_
      refine R_ldI rfl rfl ?_
      rcases qite hf with ⟨c2090, hf⟩ | ⟨c2090, hf⟩
      · refine R_IfGe_t rfl c2090 ?_
        refine R_ldI rfl rfl ?_
        refine R_ldI rfl rfl ?_
        rcases qite hf with ⟨c2091, hf⟩ | ⟨c2091, hf⟩
        · refine R_CmGe_t rfl c2091 ?_
          refine R_I rfl ?_
          obtain ⟨rfl, rfl⟩ := qinj2 hf
          exact R_retI rfl
        · refine R_CmGe_f rfl c2091 ?_
          refine R_ldA rfl rfl ?_
          refine R_get rfl sh_60 rfl rfl ?_
          refine R_ldI rfl rfl ?_
          obtain ⟨c2092, hf⟩ := qchk hf
          refine R_ald rfl sh_74 c2092 ?_
          refine R_goto rfl ?_
          obtain ⟨rfl, rfl⟩ := qinj2 hf
          exact R_retI rfl
      · refine R_IfGe_f rfl c2090 ?_
        refine R_ldI rfl rfl ?_
        refine R_goto rfl ?_
        obtain ⟨rfl, rfl⟩ := qinj2 hf
        exact R_retI rfl
def f_X6_bestOf_L36 (N : Nat) (l1 : Int32) (l3 : Int32) (l4 : Int32) : Nat → Int32 → Int32 → qN → Option (Int32 × qN)
  | 0, _, _, _ => none
  | n + 1, l2, l5, h =>
    if l3 ≤ l5 then
      some (l2, h)
    else
      qbind (f_X6_done N l5 l4 h) fun (x2101, h2100) =>
      qbind (
          if x2101 = 0 then
            some ((0 : Int32), h2100)
          else
            qbind (f_X6_costAll N  h2100) fun (x2105, h2104) =>
            if l2 ≤ ((x2105 * l1) + l4) then
              some ((0 : Int32), h2104)
            else
              some ((1 : Int32), h2104) : Option (Int32 × qN)) fun (x2108, h2109) =>
      qbind (
          if x2108 = 0 then
            some (l2, h2109)
          else
            qbind (f_X6_costAll N  h2109) fun (x2112, h2111) =>
            qbind (f_X6_notes N l4 (qup h2111 60 22 l4)) fun h2114 =>
            some (((x2112 * l1) + l4), h2114) : Option (Int32 × qN)) fun (x2116, h2117) =>
      qbind (f_X6_back N  h2117) fun h2118 =>
      f_X6_bestOf_L36 N l1 l3 l4 n x2116 (l5 + (1 : Int32)) h2118
set_option maxRecDepth 100000 in
theorem t_X6_bestOf_L36 {d N : Nat} (hd : 4 ≤ d) : ∀ (n : Nat) (l1 : Int32) (l3 : Int32) (l4 : Int32) (l2 : Int32) (l5 : Int32) (h : qN) (y2 : Int32) (h2 : qN), f_X6_bestOf_L36 N l1 l3 l4 n l2 l5 h = some (y2, h2) → ∀ (v : Option Value) (h1 : qN), RR d cd_X6_bestOf (0, 0) 110 [.ref 60, .int l1, .int y2, .int l3, .int l4, qU, qU] [] h2 v h1 → RR d cd_X6_bestOf (0, 0) 36 [.ref 60, .int l1, .int l2, .int l3, .int l4, .int l5, qU] [] h v h1 := by
  intro n
  induction n with
  | zero =>
    intro l1 l3 l4 l2 l5 h y2 h2 hf v h1 hE
    exact absurd hf (by simp [f_X6_bestOf_L36])
  | succ n ih =>
    intro l1 l3 l4 l2 l5 h y2 h2 hf v h1 hE
    unfold f_X6_bestOf_L36 at hf
    refine R_ldI rfl rfl ?_
    refine R_ldI rfl rfl ?_
    rcases qite hf with ⟨c2099, hf⟩ | ⟨c2099, hf⟩
    · refine R_CmGe_t rfl c2099 ?_
      refine R_drop [true, true, true, true, true, false, true] (ls' := [.ref 60, .int l1, .int l2, .int l3, .int l4, qU, qU]) rfl ?_
      obtain ⟨rfl, rfl⟩ := qinj2 hf
      exact hE
    · refine R_CmGe_f rfl c2099 ?_
      refine R_ldA rfl rfl ?_
      refine R_ldI rfl rfl ?_
      refine R_ldI rfl rfl ?_
      obtain ⟨⟨x2101, h2100⟩, e2102, hf⟩ := qbind_some hf
      dsimp only at hf
      refine R_callVi (as := [.ref 60, .int l5, .int l4]) (rest := []) rfl rfl sh_60 rfl rfl rfl rfl (t_X6_done (N := N) (by omega) l5 l4 h e2102) ?_
      obtain ⟨⟨x2108, h2109⟩, e2121, hf⟩ := qbind_some hf
      dsimp only at hf
      have key : RR d cd_X6_bestOf (0, 0) 71 [.ref 60, .int l1, .int l2, .int l3, .int l4, .int l5, qU] [.int x2108] h2109 v h1 := by
        clear e2121
        refine R_stI (ls' := [.ref 60, .int l1, .int l2, .int l3, .int l4, .int l5, .int x2108]) rfl rfl rfl rfl ?_
        refine R_ldI rfl rfl ?_
        obtain ⟨⟨x2116, h2117⟩, e2120, hf⟩ := qbind_some hf
        dsimp only at hf
        have key : RR d cd_X6_bestOf (0, 0) 100 [.ref 60, .int l1, .int x2116, .int l3, .int l4, .int l5, qU] [] h2117 v h1 := by
          clear e2120
          refine R_ldA rfl rfl ?_
          obtain ⟨h2118, e2119, hf⟩ := qbind_some hf
          refine R_callVv (as := [.ref 60]) (rest := []) rfl rfl sh_60 rfl rfl rfl rfl (t_X6_back (N := N) (by omega)  h2117 e2119) ?_
          refine R_inc (ls' := [.ref 60, .int l1, .int x2116, .int l3, .int l4, .int (l5 + (1 : Int32)), qU]) rfl rfl rfl rfl ?_
          refine R_goto rfl ?_
          exact ih l1 l3 l4 x2116 (l5 + (1 : Int32)) h2118 _ _ hf _ _ hE
        clear hf
        have hf := e2120
        clear e2120
        rcases qite hf with ⟨c2110, hf⟩ | ⟨c2110, hf⟩
        · refine R_IfEq_t rfl c2110 ?_
          refine R_drop [true, true, true, true, true, true, false] (ls' := [.ref 60, .int l1, .int l2, .int l3, .int l4, .int l5, qU]) rfl ?_
          obtain ⟨rfl, rfl⟩ := qinj2 hf
          exact key
        · refine R_IfEq_f rfl c2110 ?_
          refine R_ldA rfl rfl ?_
          obtain ⟨⟨x2112, h2111⟩, e2113, hf⟩ := qbind_some hf
          dsimp only at hf
          refine R_callVi (as := [.ref 60]) (rest := []) rfl rfl sh_60 rfl rfl rfl rfl (t_X6_costAll (N := N) (by omega)  h2109 e2113) ?_
          refine R_ldI rfl rfl ?_
          refine R_bin rfl ?_
          refine R_ldI rfl rfl ?_
          refine R_bin rfl ?_
          refine R_stI (ls' := [.ref 60, .int l1, .int ((x2112 * l1) + l4), .int l3, .int l4, .int l5, .int x2108]) rfl rfl rfl rfl ?_
          refine R_ldA rfl rfl ?_
          refine R_ldI rfl rfl ?_
          refine R_putI rfl sh_60 rfl ?_
          refine R_ldA rfl rfl ?_
          refine R_ldI rfl rfl ?_
          obtain ⟨h2114, e2115, hf⟩ := qbind_some hf
          refine R_callVv (as := [.ref 60, .int l4]) (rest := []) rfl rfl sh_60 rfl rfl rfl rfl (t_X6_notes (N := N) (by omega) l4 (qup h2111 60 22 l4) e2115) ?_
          refine R_drop [true, true, true, true, true, true, false] (ls' := [.ref 60, .int l1, .int ((x2112 * l1) + l4), .int l3, .int l4, .int l5, qU]) rfl ?_
          obtain ⟨rfl, rfl⟩ := qinj2 hf
          exact key
      clear hf
      have hf := e2121
      clear e2121
      rcases qite hf with ⟨c2103, hf⟩ | ⟨c2103, hf⟩
      · refine R_IfEq_t rfl c2103 ?_
        refine R_I rfl ?_
        obtain ⟨rfl, rfl⟩ := qinj2 hf
        exact key
      · refine R_IfEq_f rfl c2103 ?_
        refine R_ldA rfl rfl ?_
        obtain ⟨⟨x2105, h2104⟩, e2106, hf⟩ := qbind_some hf
        dsimp only at hf
        refine R_callVi (as := [.ref 60]) (rest := []) rfl rfl sh_60 rfl rfl rfl rfl (t_X6_costAll (N := N) (by omega)  h2100 e2106) ?_
        refine R_ldI rfl rfl ?_
        refine R_bin rfl ?_
        refine R_ldI rfl rfl ?_
        refine R_bin rfl ?_
        refine R_ldI rfl rfl ?_
        rcases qite hf with ⟨c2107, hf⟩ | ⟨c2107, hf⟩
        · refine R_CmGe_t rfl c2107 ?_
          refine R_I rfl ?_
          obtain ⟨rfl, rfl⟩ := qinj2 hf
          exact key
        · refine R_CmGe_f rfl c2107 ?_
          refine R_I rfl ?_
          refine R_goto rfl ?_
          obtain ⟨rfl, rfl⟩ := qinj2 hf
          exact key
def f_X6_bestOf_L27 (N : Nat) (l1 : Int32) : Nat → Int32 → Int32 → Int32 → qN → Option (Int32 × qN)
  | 0, _, _, _, _ => none
  | n + 1, l2, l3, l4, h =>
    if (3 : Int32) ≤ l4 then
      some (l2, h)
    else
      qbind (f_X6_bestOf_L36 N l1 l3 l4 N l2 (0 : Int32) h) fun (x2123, h2124) =>
      f_X6_bestOf_L27 N l1 n x2123 (l3 * ((6 : Int32) * (h2124 60 3))) (l4 + (1 : Int32)) h2124
set_option maxRecDepth 100000 in
theorem t_X6_bestOf_L27 {d N : Nat} (hd : 4 ≤ d) : ∀ (n : Nat) (l1 : Int32) (l2 : Int32) (l3 : Int32) (l4 : Int32) (h : qN) (y2 : Int32) (h2 : qN), f_X6_bestOf_L27 N l1 n l2 l3 l4 h = some (y2, h2) → ∀ (v : Option Value) (h1 : qN), RR d cd_X6_bestOf (0, 0) 126 [qU, qU, .int y2, qU, qU, qU, qU] [] h2 v h1 → RR d cd_X6_bestOf (0, 0) 27 [.ref 60, .int l1, .int l2, .int l3, .int l4, qU, qU] [] h v h1 := by
  intro n
  induction n with
  | zero =>
    intro l1 l2 l3 l4 h y2 h2 hf v h1 hE
    exact absurd hf (by simp [f_X6_bestOf_L27])
  | succ n ih =>
    intro l1 l2 l3 l4 h y2 h2 hf v h1 hE
    unfold f_X6_bestOf_L27 at hf
    refine R_ldI rfl rfl ?_
    refine R_I rfl ?_
    rcases qite hf with ⟨c2098, hf⟩ | ⟨c2098, hf⟩
    · refine R_CmGe_t rfl c2098 ?_
      refine R_drop [false, false, true, false, false, true, true] (ls' := [qU, qU, .int l2, qU, qU, qU, qU]) rfl ?_
      obtain ⟨rfl, rfl⟩ := qinj2 hf
      exact hE
    · refine R_CmGe_f rfl c2098 ?_
      refine R_I rfl ?_
      refine R_stI (ls' := [.ref 60, .int l1, .int l2, .int l3, .int l4, .int (0 : Int32), qU]) rfl rfl rfl rfl ?_
      obtain ⟨⟨x2123, h2124⟩, e2125, hf⟩ := qbind_some hf
      dsimp only at hf
      refine t_X6_bestOf_L36 (N := N) (by omega) _ l1 l3 l4 l2 (0 : Int32) h x2123 h2124 e2125 _ _ ?_
      refine R_ldI rfl rfl ?_
      refine R_I rfl ?_
      refine R_ldA rfl rfl ?_
      refine R_get rfl sh_60 rfl rfl ?_
      refine R_bin rfl ?_
      refine R_bin rfl ?_
      refine R_stI (ls' := [.ref 60, .int l1, .int x2123, .int (l3 * ((6 : Int32) * (h2124 60 3))), .int l4, qU, qU]) rfl rfl rfl rfl ?_
      refine R_inc (ls' := [.ref 60, .int l1, .int x2123, .int (l3 * ((6 : Int32) * (h2124 60 3))), .int (l4 + (1 : Int32)), qU, qU]) rfl rfl rfl rfl ?_
      refine R_goto rfl ?_
      exact ih l1 x2123 (l3 * ((6 : Int32) * (h2124 60 3))) (l4 + (1 : Int32)) h2124 _ _ hf _ _ hE
def f_X6_bestOf (N : Nat) (a1 : Int32) (h : qN) : Option (Int32 × qN) :=
  qbind (f_X6_costAll N  h) fun (x2094, h2093) =>
  qbind (f_X6_keeps N  (qup h2093 60 22 (0 : Int32))) fun h2096 =>
  qbind (f_X6_bestOf_L27 N a1 N (x2094 * a1) ((6 : Int32) * ((qup h2093 60 22 (0 : Int32)) 60 3)) (1 : Int32) h2096) fun (x2129, h2130) =>
  some (x2129, h2130)
set_option maxRecDepth 100000 in
theorem t_X6_bestOf {d N : Nat} (hd : 5 ≤ d) (a1 : Int32)  (h : qN) {v0 : Int32} {h1 : qN} (hf : f_X6_bestOf N a1 h = some (v0, h1)) : EE d 159 [.ref 60, .int a1] h (some (.int v0)) h1 := by
  obtain ⟨d, rfl⟩ : ∃ d0, d = d0 + 1 := ⟨d - 1, by omega⟩
  unfold f_X6_bestOf at hf
  refine E_intro qm_159 qc_159 (Nat.le_of_ble_eq_true rfl) rfl rfl ?_
  show RR d cd_X6_bestOf (0, 0) 0 [.ref 60, .int a1, qU, qU, qU, qU, qU] [] h (some (.int v0)) h1
  refine R_ldA rfl rfl ?_
  obtain ⟨⟨x2094, h2093⟩, e2095, hf⟩ := qbind_some hf
  dsimp only at hf
  refine R_callVi (as := [.ref 60]) (rest := []) rfl rfl sh_60 rfl rfl rfl rfl (t_X6_costAll (N := N) (by omega)  h e2095) ?_
  refine R_ldI rfl rfl ?_
  refine R_bin rfl ?_
  refine R_stI (ls' := [.ref 60, .int a1, .int (x2094 * a1), qU, qU, qU, qU]) rfl rfl rfl rfl ?_
  refine R_ldA rfl rfl ?_
  refine R_I rfl ?_
  refine R_putI rfl sh_60 rfl ?_
  refine R_I rfl ?_
  refine R_ldA rfl rfl ?_
  refine R_get rfl sh_60 rfl rfl ?_
  refine R_bin rfl ?_
  refine R_stI (ls' := [.ref 60, .int a1, .int (x2094 * a1), .int ((6 : Int32) * ((qup h2093 60 22 (0 : Int32)) 60 3)), qU, qU, qU]) rfl rfl rfl rfl ?_
  refine R_ldA rfl rfl ?_
  obtain ⟨h2096, e2097, hf⟩ := qbind_some hf
  refine R_callVv (as := [.ref 60]) (rest := []) rfl rfl sh_60 rfl rfl rfl rfl (t_X6_keeps (N := N) (by omega)  (qup h2093 60 22 (0 : Int32)) e2097) ?_
  refine R_I rfl ?_
  refine R_stI (ls' := [.ref 60, .int a1, .int (x2094 * a1), .int ((6 : Int32) * ((qup h2093 60 22 (0 : Int32)) 60 3)), .int (1 : Int32), qU, qU]) rfl rfl rfl rfl ?_
  obtain ⟨⟨x2129, h2130⟩, e2131, hf⟩ := qbind_some hf
  dsimp only at hf
  refine t_X6_bestOf_L27 (N := N) (by omega) _ a1 (x2094 * a1) ((6 : Int32) * ((qup h2093 60 22 (0 : Int32)) 60 3)) (1 : Int32) h2096 x2129 h2130 e2131 _ _ ?_
  refine R_ldI rfl rfl ?_
  obtain ⟨rfl, rfl⟩ := qinj2 hf
  exact R_retI rfl
def f_X6_best (N : Nat) (a1 : Int32) (a2 : Int32) (h : qN) : Option (Int32 × qN) :=
  qbind (f_X6_in a1.toInt64 (1 : Int64) (9 : Int64) h) fun (x2135, h2134) =>
  if x2135 = 0 then
    some ((-1 : Int32), h2134)
  else
    qbind (f_X6_in a2.toInt64 (-2 : Int64) (1 : Int64) h2134) fun (x2139, h2138) =>
    if x2139 = 0 then
      some ((-1 : Int32), h2138)
    else
      qbind (f_X6_bestOf N a1 h2138) fun (x2143, h2142) =>
      if a2 = (-2 : Int32) then
        some (x2143, h2142)
      else
        if a2 = (-1 : Int32) then
          some ((h2142 60 22), h2142)
        else
          if (h2142 60 22) ≤ a2 then
            some ((-4 : Int32), h2142)
          else
            if a2 < 0 ∨ 3 ≤ a2.toNatClampNeg then none else
            some ((h2142 74 a2.toNatClampNeg), h2142)
set_option maxRecDepth 100000 in
theorem t_X6_best {d N : Nat} (hd : 6 ≤ d) (a1 : Int32) (a2 : Int32)  (h : qN) {v0 : Int32} {h1 : qN} (hf : f_X6_best N a1 a2 h = some (v0, h1)) : EE d 160 [.ref 60, .int a1, .int a2] h (some (.int v0)) h1 := by
  obtain ⟨d, rfl⟩ : ∃ d0, d = d0 + 1 := ⟨d - 1, by omega⟩
  unfold f_X6_best at hf
  refine E_intro qm_160 qc_160 (Nat.le_of_ble_eq_true rfl) rfl rfl ?_
  show RR d cd_X6_best (0, 0) 0 [.ref 60, .int a1, .int a2, qU] [] h (some (.int v0)) h1
  refine R_ldI rfl rfl ?_
  refine R_i2l rfl ?_
  refine R_L rfl ?_
  refine R_L rfl ?_
  obtain ⟨⟨x2135, h2134⟩, e2136, hf⟩ := qbind_some hf
  dsimp only at hf
  refine R_callSi (as := [.long a1.toInt64, .long (1 : Int64), .long (9 : Int64)]) (rest := []) rfl rfl rfl rfl rfl rfl (t_X6_in (by omega) a1.toInt64 (1 : Int64) (9 : Int64) h e2136) ?_
  rcases qite hf with ⟨c2137, hf⟩ | ⟨c2137, hf⟩
  · refine R_IfEq_t rfl c2137 ?_
    refine R_I rfl ?_
    obtain ⟨rfl, rfl⟩ := qinj2 hf
    exact R_retI rfl
  · refine R_IfEq_f rfl c2137 ?_
    refine R_ldI rfl rfl ?_
    refine R_i2l rfl ?_
    refine R_L rfl ?_
    refine R_L rfl ?_
    obtain ⟨⟨x2139, h2138⟩, e2140, hf⟩ := qbind_some hf
    dsimp only at hf
    refine R_callSi (as := [.long a2.toInt64, .long (-2 : Int64), .long (1 : Int64)]) (rest := []) rfl rfl rfl rfl rfl rfl (t_X6_in (by omega) a2.toInt64 (-2 : Int64) (1 : Int64) h2134 e2140) ?_
    rcases qite hf with ⟨c2141, hf⟩ | ⟨c2141, hf⟩
    · refine R_IfNe_f rfl c2141 ?_
      refine R_I rfl ?_
      obtain ⟨rfl, rfl⟩ := qinj2 hf
      exact R_retI rfl
    · refine R_IfNe_t rfl c2141 ?_
      refine R_ldA rfl rfl ?_
      refine R_ldI rfl rfl ?_
      obtain ⟨⟨x2143, h2142⟩, e2144, hf⟩ := qbind_some hf
      dsimp only at hf
      refine R_callVi (as := [.ref 60, .int a1]) (rest := []) rfl rfl sh_60 rfl rfl rfl rfl (t_X6_bestOf (N := N) (by omega) a1 h2138 e2144) ?_
      refine R_stI (ls' := [.ref 60, .int a1, .int a2, .int x2143]) rfl rfl rfl rfl ?_
      refine R_ldI rfl rfl ?_
      refine R_I rfl ?_
      rcases qite hf with ⟨c2145, hf⟩ | ⟨c2145, hf⟩
      · refine R_CmNe_f rfl c2145 ?_
        refine R_ldI rfl rfl ?_
        refine R_goto rfl ?_
        obtain ⟨rfl, rfl⟩ := qinj2 hf
        exact R_retI rfl
      · refine R_CmNe_t rfl c2145 ?_
        refine R_ldI rfl rfl ?_
        refine R_I rfl ?_
        rcases qite hf with ⟨c2146, hf⟩ | ⟨c2146, hf⟩
        · refine R_CmNe_f rfl c2146 ?_
          refine R_ldA rfl rfl ?_
          refine R_get rfl sh_60 rfl rfl ?_
          refine R_goto rfl ?_
          obtain ⟨rfl, rfl⟩ := qinj2 hf
          exact R_retI rfl
        · refine R_CmNe_t rfl c2146 ?_
          refine R_ldI rfl rfl ?_
          refine R_ldA rfl rfl ?_
          refine R_get rfl sh_60 rfl rfl ?_
          rcases qite hf with ⟨c2147, hf⟩ | ⟨c2147, hf⟩
          · refine R_CmGe_t rfl c2147 ?_
            refine R_I rfl ?_
            obtain ⟨rfl, rfl⟩ := qinj2 hf
            exact R_retI rfl
          · refine R_CmGe_f rfl c2147 ?_
            refine R_ldA rfl rfl ?_
            refine R_get rfl sh_60 rfl rfl ?_
            refine R_ldI rfl rfl ?_
            obtain ⟨c2148, hf⟩ := qchk hf
            refine R_ald rfl sh_74 c2148 ?_
            refine R_goto rfl ?_
            obtain ⟨rfl, rfl⟩ := qinj2 hf
            exact R_retI rfl
def f_X6_savesOf (N : Nat) (a1 : Int32) (a2 : Int32) (h : qN) : Option (Int32 × qN) :=
  qbind (f_X6_costAll N  h) fun (x2150, h2149) =>
  qbind (f_X6_keeps N  h2149) fun h2152 =>
  qbind (f_X6_weds N a1 a2 h2152) fun (x2155, h2154) =>
  qbind (f_X6_costAll N  h2154) fun (x2158, h2157) =>
  qbind (f_X6_back N  h2157) fun h2160 =>
  some ((x2150 - x2158), h2160)
set_option maxRecDepth 100000 in
theorem t_X6_savesOf {d N : Nat} (hd : 4 ≤ d) (a1 : Int32) (a2 : Int32)  (h : qN) {v0 : Int32} {h1 : qN} (hf : f_X6_savesOf N a1 a2 h = some (v0, h1)) : EE d 161 [.ref 60, .int a1, .int a2] h (some (.int v0)) h1 := by
  obtain ⟨d, rfl⟩ : ∃ d0, d = d0 + 1 := ⟨d - 1, by omega⟩
  unfold f_X6_savesOf at hf
  refine E_intro qm_161 qc_161 (Nat.le_of_ble_eq_true rfl) rfl rfl ?_
  show RR d cd_X6_savesOf (0, 0) 0 [.ref 60, .int a1, .int a2, qU, qU] [] h (some (.int v0)) h1
  refine R_ldA rfl rfl ?_
  obtain ⟨⟨x2150, h2149⟩, e2151, hf⟩ := qbind_some hf
  dsimp only at hf
  refine R_callVi (as := [.ref 60]) (rest := []) rfl rfl sh_60 rfl rfl rfl rfl (t_X6_costAll (N := N) (by omega)  h e2151) ?_
  refine R_stI (ls' := [.ref 60, .int a1, .int a2, .int x2150, qU]) rfl rfl rfl rfl ?_
  refine R_ldA rfl rfl ?_
  obtain ⟨h2152, e2153, hf⟩ := qbind_some hf
  refine R_callVv (as := [.ref 60]) (rest := []) rfl rfl sh_60 rfl rfl rfl rfl (t_X6_keeps (N := N) (by omega)  h2149 e2153) ?_
  refine R_ldA rfl rfl ?_
  refine R_ldI rfl rfl ?_
  refine R_ldI rfl rfl ?_
  obtain ⟨⟨x2155, h2154⟩, e2156, hf⟩ := qbind_some hf
  dsimp only at hf
  refine R_callVi (as := [.ref 60, .int a1, .int a2]) (rest := []) rfl rfl sh_60 rfl rfl rfl rfl (t_X6_weds (N := N) (by omega) a1 a2 h2152 e2156) ?_
  refine R_pop rfl rfl ?_
  refine R_ldA rfl rfl ?_
  obtain ⟨⟨x2158, h2157⟩, e2159, hf⟩ := qbind_some hf
  dsimp only at hf
  refine R_callVi (as := [.ref 60]) (rest := []) rfl rfl sh_60 rfl rfl rfl rfl (t_X6_costAll (N := N) (by omega)  h2154 e2159) ?_
  refine R_stI (ls' := [.ref 60, .int a1, .int a2, .int x2150, .int x2158]) rfl rfl rfl rfl ?_
  refine R_ldA rfl rfl ?_
  obtain ⟨h2160, e2161, hf⟩ := qbind_some hf
  refine R_callVv (as := [.ref 60]) (rest := []) rfl rfl sh_60 rfl rfl rfl rfl (t_X6_back (N := N) (by omega)  h2157 e2161) ?_
  refine R_ldI rfl rfl ?_
  refine R_ldI rfl rfl ?_
  refine R_bin rfl ?_
  obtain ⟨rfl, rfl⟩ := qinj2 hf
  exact R_retI rfl
def f_X6_saves (N : Nat) (a1 : Int32) (a2 : Int32) (h : qN) : Option (Int32 × qN) :=
  qbind (f_X6_isPerson a1 h) fun (x2163, h2162) =>
  if x2163 = 0 then
    some ((-100001 : Int32), h2162)
  else
    qbind (f_X6_isPerson a2 h2162) fun (x2167, h2166) =>
    if x2167 = 0 then
      some ((-100001 : Int32), h2166)
    else
      if a1 = a2 then
        some ((-100001 : Int32), h2166)
      else
        qbind (f_X6_savesOf N a1 a2 h2166) fun (x2172, h2171) =>
        some (x2172, h2171)
set_option maxRecDepth 100000 in
theorem t_X6_saves {d N : Nat} (hd : 5 ≤ d) (a1 : Int32) (a2 : Int32)  (h : qN) {v0 : Int32} {h1 : qN} (hf : f_X6_saves N a1 a2 h = some (v0, h1)) : EE d 162 [.ref 60, .int a1, .int a2] h (some (.int v0)) h1 := by
  obtain ⟨d, rfl⟩ : ∃ d0, d = d0 + 1 := ⟨d - 1, by omega⟩
  unfold f_X6_saves at hf
  refine E_intro qm_162 qc_162 (Nat.le_of_ble_eq_true rfl) rfl rfl ?_
  show RR d cd_X6_saves (0, 0) 0 [.ref 60, .int a1, .int a2] [] h (some (.int v0)) h1
  refine R_ldI rfl rfl ?_
  obtain ⟨⟨x2163, h2162⟩, e2164, hf⟩ := qbind_some hf
  dsimp only at hf
  refine R_callSi (as := [.int a1]) (rest := []) rfl rfl rfl rfl rfl rfl (t_X6_isPerson (by omega) a1 h e2164) ?_
  rcases qite hf with ⟨c2165, hf⟩ | ⟨c2165, hf⟩
  · refine R_IfEq_t rfl c2165 ?_
    refine R_I rfl ?_
    obtain ⟨rfl, rfl⟩ := qinj2 hf
    exact R_retI rfl
  · refine R_IfEq_f rfl c2165 ?_
    refine R_ldI rfl rfl ?_
    obtain ⟨⟨x2167, h2166⟩, e2168, hf⟩ := qbind_some hf
    dsimp only at hf
    refine R_callSi (as := [.int a2]) (rest := []) rfl rfl rfl rfl rfl rfl (t_X6_isPerson (by omega) a2 h2162 e2168) ?_
    rcases qite hf with ⟨c2169, hf⟩ | ⟨c2169, hf⟩
    · refine R_IfEq_t rfl c2169 ?_
      refine R_I rfl ?_
      obtain ⟨rfl, rfl⟩ := qinj2 hf
      exact R_retI rfl
    · refine R_IfEq_f rfl c2169 ?_
      refine R_ldI rfl rfl ?_
      refine R_ldI rfl rfl ?_
      rcases qite hf with ⟨c2170, hf⟩ | ⟨c2170, hf⟩
      · refine R_CmEq_t rfl c2170 ?_
        refine R_I rfl ?_
        obtain ⟨rfl, rfl⟩ := qinj2 hf
        exact R_retI rfl
      · refine R_CmEq_f rfl c2170 ?_
        refine R_ldA rfl rfl ?_
        refine R_ldI rfl rfl ?_
        refine R_ldI rfl rfl ?_
        obtain ⟨⟨x2172, h2171⟩, e2173, hf⟩ := qbind_some hf
        dsimp only at hf
        refine R_callVi (as := [.ref 60, .int a1, .int a2]) (rest := []) rfl rfl sh_60 rfl rfl rfl rfl (t_X6_savesOf (N := N) (by omega) a1 a2 h2166 e2173) ?_
        refine R_goto rfl ?_
        obtain ⟨rfl, rfl⟩ := qinj2 hf
        exact R_retI rfl
def f_X6_match_L22 (N : Nat) (l3 : Int32) : Nat → Int32 → Int32 → Int32 → qN → Option (Int32 × Int32 × qN)
  | 0, _, _, _, _ => none
  | n + 1, l1, l2, l4, h =>
    if (6 : Int32) ≤ l4 then
      some (l1, l2, h)
    else
      qbind (f_X6_savesOf N l3 l4 h) fun (x2180, h2179) =>
      f_X6_match_L22 N l3 n (if x2180 ≤ l2 then l1 else (((10 : Int32) * l3) + l4)) (if x2180 ≤ l2 then l2 else x2180) (l4 + (1 : Int32)) h2179
set_option maxRecDepth 100000 in
theorem t_X6_match_L22 {d N : Nat} (hd : 4 ≤ d) : ∀ (n : Nat) (l3 : Int32) (l1 : Int32) (l2 : Int32) (l4 : Int32) (h : qN) (y1 : Int32) (y2 : Int32) (h2 : qN), f_X6_match_L22 N l3 n l1 l2 l4 h = some (y1, y2, h2) → ∀ (v : Option Value) (h1 : qN), RR d cd_X6_match (0, 0) 75 [.ref 60, .int y1, .int y2, .int l3, qU, qU] [] h2 v h1 → RR d cd_X6_match (0, 0) 22 [.ref 60, .int l1, .int l2, .int l3, .int l4, qU] [] h v h1 := by
  intro n
  induction n with
  | zero =>
    intro l3 l1 l2 l4 h y1 y2 h2 hf v h1 hE
    exact absurd hf (by simp [f_X6_match_L22])
  | succ n ih =>
    intro l3 l1 l2 l4 h y1 y2 h2 hf v h1 hE
    unfold f_X6_match_L22 at hf
    refine R_ldI rfl rfl ?_
    refine R_I rfl ?_
    rcases qite hf with ⟨c2178, hf⟩ | ⟨c2178, hf⟩
    · refine R_CmGe_t rfl c2178 ?_
      refine R_drop [true, true, true, true, false, true] (ls' := [.ref 60, .int l1, .int l2, .int l3, qU, qU]) rfl ?_
      obtain ⟨rfl, rfl, rfl⟩ := qinj3 hf
      exact hE
    · refine R_CmGe_f rfl c2178 ?_
      refine R_ldA rfl rfl ?_
      refine R_ldI rfl rfl ?_
      refine R_ldI rfl rfl ?_
      obtain ⟨⟨x2180, h2179⟩, e2181, hf⟩ := qbind_some hf
      dsimp only at hf
      refine R_callVi (as := [.ref 60, .int l3, .int l4]) (rest := []) rfl rfl sh_60 rfl rfl rfl rfl (t_X6_savesOf (N := N) (by omega) l3 l4 h e2181) ?_
      refine R_stI (ls' := [.ref 60, .int l1, .int l2, .int l3, .int l4, .int x2180]) rfl rfl rfl rfl ?_
      refine R_ldI rfl rfl ?_
      refine R_ldI rfl rfl ?_
      have key : RR d cd_X6_match (0, 0) 55 [.ref 60, qU, .int l2, .int l3, .int l4, .int x2180] [.int (if x2180 ≤ l2 then l1 else (((10 : Int32) * l3) + l4))] h2179 v h1 := by
        refine R_stI (ls' := [.ref 60, .int (if x2180 ≤ l2 then l1 else (((10 : Int32) * l3) + l4)), .int l2, .int l3, .int l4, .int x2180]) rfl rfl rfl rfl ?_
        refine R_ldI rfl rfl ?_
        refine R_ldI rfl rfl ?_
        have key : RR d cd_X6_match (0, 0) 68 [.ref 60, .int (if x2180 ≤ l2 then l1 else (((10 : Int32) * l3) + l4)), qU, .int l3, .int l4, qU] [.int (if x2180 ≤ l2 then l2 else x2180)] h2179 v h1 := by
          refine R_stI (ls' := [.ref 60, .int (if x2180 ≤ l2 then l1 else (((10 : Int32) * l3) + l4)), .int (if x2180 ≤ l2 then l2 else x2180), .int l3, .int l4, qU]) rfl rfl rfl rfl ?_
          refine R_inc (ls' := [.ref 60, .int (if x2180 ≤ l2 then l1 else (((10 : Int32) * l3) + l4)), .int (if x2180 ≤ l2 then l2 else x2180), .int l3, .int (l4 + (1 : Int32)), qU]) rfl rfl rfl rfl ?_
          refine R_goto rfl ?_
          exact ih l3 (if x2180 ≤ l2 then l1 else (((10 : Int32) * l3) + l4)) (if x2180 ≤ l2 then l2 else x2180) (l4 + (1 : Int32)) h2179 _ _ _ hf _ _ hE
        clear hf
        by_cases c2183 : x2180 ≤ l2
        · rw [show (if x2180 ≤ l2 then l2 else x2180) = l2 from if_pos c2183] at key
          refine R_CmLe_t rfl c2183 ?_
          refine R_ldI rfl rfl ?_
          refine R_drop [true, true, false, true, true, false] (ls' := [.ref 60, .int (if x2180 ≤ l2 then l1 else (((10 : Int32) * l3) + l4)), qU, .int l3, .int l4, qU]) rfl ?_
          exact key
        · rw [show (if x2180 ≤ l2 then l2 else x2180) = x2180 from if_neg c2183] at key
          refine R_CmLe_f rfl c2183 ?_
          refine R_ldI rfl rfl ?_
          refine R_goto rfl ?_
          refine R_drop [true, true, false, true, true, false] (ls' := [.ref 60, .int (if x2180 ≤ l2 then l1 else (((10 : Int32) * l3) + l4)), qU, .int l3, .int l4, qU]) rfl ?_
          exact key
      clear hf
      by_cases c2182 : x2180 ≤ l2
      · rw [show (if x2180 ≤ l2 then l1 else (((10 : Int32) * l3) + l4)) = l1 from if_pos c2182] at key
        refine R_CmLe_t rfl c2182 ?_
        refine R_ldI rfl rfl ?_
        refine R_drop [true, false, true, true, true, true] (ls' := [.ref 60, qU, .int l2, .int l3, .int l4, .int x2180]) rfl ?_
        exact key
      · rw [show (if x2180 ≤ l2 then l1 else (((10 : Int32) * l3) + l4)) = (((10 : Int32) * l3) + l4) from if_neg c2182] at key
        refine R_CmLe_f rfl c2182 ?_
        refine R_I rfl ?_
        refine R_ldI rfl rfl ?_
        refine R_bin rfl ?_
        refine R_ldI rfl rfl ?_
        refine R_bin rfl ?_
        refine R_goto rfl ?_
        refine R_drop [true, false, true, true, true, true] (ls' := [.ref 60, qU, .int l2, .int l3, .int l4, .int x2180]) rfl ?_
        exact key
def f_X6_match_L11 (N : Nat) : Nat → Int32 → Int32 → Int32 → qN → Option (Int32 × qN)
  | 0, _, _, _, _ => none
  | n + 1, l1, l2, l3, h =>
    if (6 : Int32) ≤ l3 then
      some (l1, h)
    else
      qbind (f_X6_match_L22 N l3 N l1 l2 (l3 + (1 : Int32)) h) fun (x2185, x2186, h2187) =>
      f_X6_match_L11 N n x2185 x2186 (l3 + (1 : Int32)) h2187
set_option maxRecDepth 100000 in
theorem t_X6_match_L11 {d N : Nat} (hd : 4 ≤ d) : ∀ (n : Nat) (l1 : Int32) (l2 : Int32) (l3 : Int32) (h : qN) (y1 : Int32) (h2 : qN), f_X6_match_L11 N n l1 l2 l3 h = some (y1, h2) → ∀ (v : Option Value) (h1 : qN), RR d cd_X6_match (0, 0) 81 [qU, .int y1, qU, qU, qU, qU] [] h2 v h1 → RR d cd_X6_match (0, 0) 11 [.ref 60, .int l1, .int l2, .int l3, qU, qU] [] h v h1 := by
  intro n
  induction n with
  | zero =>
    intro l1 l2 l3 h y1 h2 hf v h1 hE
    exact absurd hf (by simp [f_X6_match_L11])
  | succ n ih =>
    intro l1 l2 l3 h y1 h2 hf v h1 hE
    unfold f_X6_match_L11 at hf
    refine R_ldI rfl rfl ?_
    refine R_I rfl ?_
    rcases qite hf with ⟨c2177, hf⟩ | ⟨c2177, hf⟩
    · refine R_CmGe_t rfl c2177 ?_
      refine R_drop [false, true, false, false, true, true] (ls' := [qU, .int l1, qU, qU, qU, qU]) rfl ?_
      obtain ⟨rfl, rfl⟩ := qinj2 hf
      exact hE
    · refine R_CmGe_f rfl c2177 ?_
      refine R_ldI rfl rfl ?_
      refine R_I rfl ?_
      refine R_bin rfl ?_
      refine R_stI (ls' := [.ref 60, .int l1, .int l2, .int l3, .int (l3 + (1 : Int32)), qU]) rfl rfl rfl rfl ?_
      obtain ⟨⟨x2185, x2186, h2187⟩, e2188, hf⟩ := qbind_some hf
      dsimp only at hf
      refine t_X6_match_L22 (N := N) (by omega) _ l3 l1 l2 (l3 + (1 : Int32)) h x2185 x2186 h2187 e2188 _ _ ?_
      refine R_inc (ls' := [.ref 60, .int x2185, .int x2186, .int (l3 + (1 : Int32)), qU, qU]) rfl rfl rfl rfl ?_
      refine R_goto rfl ?_
      exact ih  x2185 x2186 (l3 + (1 : Int32)) h2187 _ _ hf _ _ hE
def f_X6_match (N : Nat) (h : qN) : Option (Int32 × qN) :=
  qbind (f_X6_savesOf N (0 : Int32) (1 : Int32) h) fun (x2175, h2174) =>
  qbind (f_X6_match_L11 N N (1 : Int32) x2175 (0 : Int32) h2174) fun (x2192, h2193) =>
  some (x2192, h2193)
set_option maxRecDepth 100000 in
theorem t_X6_match {d N : Nat} (hd : 5 ≤ d)   (h : qN) {v0 : Int32} {h1 : qN} (hf : f_X6_match N  h = some (v0, h1)) : EE d 163 [.ref 60] h (some (.int v0)) h1 := by
  obtain ⟨d, rfl⟩ : ∃ d0, d = d0 + 1 := ⟨d - 1, by omega⟩
  unfold f_X6_match at hf
  refine E_intro qm_163 qc_163 (Nat.le_of_ble_eq_true rfl) rfl rfl ?_
  show RR d cd_X6_match (0, 0) 0 [.ref 60, qU, qU, qU, qU, qU] [] h (some (.int v0)) h1
  refine R_I rfl ?_
  refine R_stI (ls' := [.ref 60, .int (1 : Int32), qU, qU, qU, qU]) rfl rfl rfl rfl ?_
  refine R_ldA rfl rfl ?_
  refine R_I rfl ?_
  refine R_I rfl ?_
  obtain ⟨⟨x2175, h2174⟩, e2176, hf⟩ := qbind_some hf
  dsimp only at hf
  refine R_callVi (as := [.ref 60, .int (0 : Int32), .int (1 : Int32)]) (rest := []) rfl rfl sh_60 rfl rfl rfl rfl (t_X6_savesOf (N := N) (by omega) (0 : Int32) (1 : Int32) h e2176) ?_
  refine R_stI (ls' := [.ref 60, .int (1 : Int32), .int x2175, qU, qU, qU]) rfl rfl rfl rfl ?_
  refine R_I rfl ?_
  refine R_stI (ls' := [.ref 60, .int (1 : Int32), .int x2175, .int (0 : Int32), qU, qU]) rfl rfl rfl rfl ?_
  obtain ⟨⟨x2192, h2193⟩, e2194, hf⟩ := qbind_some hf
  dsimp only at hf
  refine t_X6_match_L11 (N := N) (by omega) _  (1 : Int32) x2175 (0 : Int32) h2174 x2192 h2193 e2194 _ _ ?_
  refine R_ldI rfl rfl ?_
  obtain ⟨rfl, rfl⟩ := qinj2 hf
  exact R_retI rfl
def f_X6_against (N : Nat) (a1 : Int32) (a2 : Int32) (a3 : Int32) (h : qN) : Option (Int32 × qN) :=
  qbind (f_X6_isThing a1 h) fun (x2198, h2197) =>
  if x2198 = 0 then
    some ((-100001 : Int32), h2197)
  else
    qbind (f_X6_isPerson a2 h2197) fun (x2202, h2201) =>
    if x2202 = 0 then
      some ((-100001 : Int32), h2201)
    else
      qbind (f_X6_isPerson a3 h2201) fun (x2206, h2205) =>
      if x2206 = 0 then
        some ((-100001 : Int32), h2205)
      else
        if a3 = a2 then
          some ((-100001 : Int32), h2205)
        else
          if a1 < 0 ∨ 8 ≤ a1.toNatClampNeg then none else
          if a3 = (h2205 64 a1.toNatClampNeg) then
            some ((-100001 : Int32), h2205)
          else
            if a1 < 0 ∨ 8 ≤ a1.toNatClampNeg then none else
            if (h2205 64 a1.toNatClampNeg) = a2 then
              some ((-100002 : Int32), h2205)
            else
              qbind (f_X6_gainOf N a1 a2 a3 h2205) fun (x2215, h2214) =>
              some ((-x2215), h2214)
set_option maxRecDepth 100000 in
theorem t_X6_against {d N : Nat} (hd : 5 ≤ d) (a1 : Int32) (a2 : Int32) (a3 : Int32)  (h : qN) {v0 : Int32} {h1 : qN} (hf : f_X6_against N a1 a2 a3 h = some (v0, h1)) : EE d 164 [.ref 60, .int a1, .int a2, .int a3] h (some (.int v0)) h1 := by
  obtain ⟨d, rfl⟩ : ∃ d0, d = d0 + 1 := ⟨d - 1, by omega⟩
  unfold f_X6_against at hf
  refine E_intro qm_164 qc_164 (Nat.le_of_ble_eq_true rfl) rfl rfl ?_
  show RR d cd_X6_against (0, 0) 0 [.ref 60, .int a1, .int a2, .int a3] [] h (some (.int v0)) h1
  refine R_ldA rfl rfl ?_
  refine R_ldI rfl rfl ?_
  obtain ⟨⟨x2198, h2197⟩, e2199, hf⟩ := qbind_some hf
  dsimp only at hf
  refine R_callVi (as := [.ref 60, .int a1]) (rest := []) rfl rfl sh_60 rfl rfl rfl rfl (t_X6_isThing (by omega) a1 h e2199) ?_
  rcases qite hf with ⟨c2200, hf⟩ | ⟨c2200, hf⟩
  · refine R_IfEq_t rfl c2200 ?_
    refine R_I rfl ?_
    obtain ⟨rfl, rfl⟩ := qinj2 hf
    exact R_retI rfl
  · refine R_IfEq_f rfl c2200 ?_
    refine R_ldI rfl rfl ?_
    obtain ⟨⟨x2202, h2201⟩, e2203, hf⟩ := qbind_some hf
    dsimp only at hf
    refine R_callSi (as := [.int a2]) (rest := []) rfl rfl rfl rfl rfl rfl (t_X6_isPerson (by omega) a2 h2197 e2203) ?_
    rcases qite hf with ⟨c2204, hf⟩ | ⟨c2204, hf⟩
    · refine R_IfEq_t rfl c2204 ?_
      refine R_I rfl ?_
      obtain ⟨rfl, rfl⟩ := qinj2 hf
      exact R_retI rfl
    · refine R_IfEq_f rfl c2204 ?_
      refine R_ldI rfl rfl ?_
      obtain ⟨⟨x2206, h2205⟩, e2207, hf⟩ := qbind_some hf
      dsimp only at hf
      refine R_callSi (as := [.int a3]) (rest := []) rfl rfl rfl rfl rfl rfl (t_X6_isPerson (by omega) a3 h2201 e2207) ?_
      rcases qite hf with ⟨c2208, hf⟩ | ⟨c2208, hf⟩
      · refine R_IfEq_t rfl c2208 ?_
        refine R_I rfl ?_
        obtain ⟨rfl, rfl⟩ := qinj2 hf
        exact R_retI rfl
      · refine R_IfEq_f rfl c2208 ?_
        refine R_ldI rfl rfl ?_
        refine R_ldI rfl rfl ?_
        rcases qite hf with ⟨c2209, hf⟩ | ⟨c2209, hf⟩
        · refine R_CmEq_t rfl c2209 ?_
          refine R_I rfl ?_
          obtain ⟨rfl, rfl⟩ := qinj2 hf
          exact R_retI rfl
        · refine R_CmEq_f rfl c2209 ?_
          refine R_ldI rfl rfl ?_
          refine R_ldA rfl rfl ?_
          refine R_get rfl sh_60 rfl rfl ?_
          refine R_ldI rfl rfl ?_
          obtain ⟨c2210, hf⟩ := qchk hf
          refine R_ald rfl sh_64 c2210 ?_
          rcases qite hf with ⟨c2211, hf⟩ | ⟨c2211, hf⟩
          · refine R_CmNe_f rfl c2211 ?_
            refine R_I rfl ?_
            obtain ⟨rfl, rfl⟩ := qinj2 hf
            exact R_retI rfl
          · refine R_CmNe_t rfl c2211 ?_
            refine R_ldA rfl rfl ?_
            refine R_get rfl sh_60 rfl rfl ?_
            refine R_ldI rfl rfl ?_
            obtain ⟨c2212, hf⟩ := qchk hf
            refine R_ald rfl sh_64 c2212 ?_
            refine R_ldI rfl rfl ?_
            rcases qite hf with ⟨c2213, hf⟩ | ⟨c2213, hf⟩
            · refine R_CmNe_f rfl c2213 ?_
              refine R_I rfl ?_
              refine R_goto rfl ?_
              obtain ⟨rfl, rfl⟩ := qinj2 hf
              exact R_retI rfl
            · refine R_CmNe_t rfl c2213 ?_
              refine R_ldA rfl rfl ?_
              refine R_ldI rfl rfl ?_
              refine R_ldI rfl rfl ?_
              refine R_ldI rfl rfl ?_
              obtain ⟨⟨x2215, h2214⟩, e2216, hf⟩ := qbind_some hf
              dsimp only at hf
              refine R_callVi (as := [.ref 60, .int a1, .int a2, .int a3]) (rest := []) rfl rfl sh_60 rfl rfl rfl rfl (t_X6_gainOf (N := N) (by omega) a1 a2 a3 h2205 e2216) ?_
              refine R_un rfl ?_
              obtain ⟨rfl, rfl⟩ := qinj2 hf
              exact R_retI rfl
def f_X6_pays (N : Nat) (a1 : Int32) (a2 : Int32) (a3 : Int32) (a4 : Int32) (a5 : Int32) (h : qN) : Option (Int32 × qN) :=
  qbind (f_X6_isThing a1 h) fun (x2218, h2217) =>
  if x2218 = 0 then
    some ((-100001 : Int32), h2217)
  else
    qbind (f_X6_isPerson a2 h2217) fun (x2222, h2221) =>
    if x2222 = 0 then
      some ((-100001 : Int32), h2221)
    else
      qbind (f_X6_in a3.toInt64 (0 : Int64) (999 : Int64) h2221) fun (x2226, h2225) =>
      if x2226 = 0 then
        some ((-100001 : Int32), h2225)
      else
        qbind (f_X6_in a4.toInt64 (1 : Int64) (9 : Int64) h2225) fun (x2230, h2229) =>
        if x2230 = 0 then
          some ((-100001 : Int32), h2229)
        else
          qbind (f_X6_in a5.toInt64 (0 : Int64) (16 : Int64) h2229) fun (x2234, h2233) =>
          if x2234 = 0 then
            some ((-100001 : Int32), h2233)
          else
            if a1 < 0 ∨ 8 ≤ a1.toNatClampNeg then none else
            if (h2233 64 a1.toNatClampNeg) = a2 then
              some ((-100002 : Int32), h2233)
            else
              qbind (f_X6_standsIn N a2 h2233) fun (x2240, h2239) =>
              qbind (f_X6_keeps N  h2239) fun h2242 =>
              qbind (f_X6_sells N a1 a2 h2242) fun (x2245, h2244) =>
              qbind (f_X6_standsIn N a2 h2244) fun (x2248, h2247) =>
              qbind (f_X6_back N  h2247) fun h2250 =>
              if (((6 : Int32) * a1) + a2) < 0 ∨ 48 ≤ (((6 : Int32) * a1) + a2).toNatClampNeg then none else
              if a2 < 0 ∨ 6 ≤ a2.toNatClampNeg then none else
              if a2 < 0 ∨ 6 ≤ a2.toNatClampNeg then none else
              some (((((16 : Int32) * ((h2250 65 (((6 : Int32) * a1) + a2).toNatClampNeg) - a3)) - ((((16 : Int32) * a4) * (h2250 62 a2.toNatClampNeg)) * (x2248 - x2240))) - ((a5 * a4) * (h2250 62 a2.toNatClampNeg))), h2250)
set_option maxRecDepth 100000 in
theorem t_X6_pays {d N : Nat} (hd : 4 ≤ d) (a1 : Int32) (a2 : Int32) (a3 : Int32) (a4 : Int32) (a5 : Int32)  (h : qN) {v0 : Int32} {h1 : qN} (hf : f_X6_pays N a1 a2 a3 a4 a5 h = some (v0, h1)) : EE d 165 [.ref 60, .int a1, .int a2, .int a3, .int a4, .int a5] h (some (.int v0)) h1 := by
  obtain ⟨d, rfl⟩ : ∃ d0, d = d0 + 1 := ⟨d - 1, by omega⟩
  unfold f_X6_pays at hf
  refine E_intro qm_165 qc_165 (Nat.le_of_ble_eq_true rfl) rfl rfl ?_
  show RR d cd_X6_pays (0, 0) 0 [.ref 60, .int a1, .int a2, .int a3, .int a4, .int a5, qU, qU] [] h (some (.int v0)) h1
  refine R_ldA rfl rfl ?_
  refine R_ldI rfl rfl ?_
  obtain ⟨⟨x2218, h2217⟩, e2219, hf⟩ := qbind_some hf
  dsimp only at hf
  refine R_callVi (as := [.ref 60, .int a1]) (rest := []) rfl rfl sh_60 rfl rfl rfl rfl (t_X6_isThing (by omega) a1 h e2219) ?_
  rcases qite hf with ⟨c2220, hf⟩ | ⟨c2220, hf⟩
  · refine R_IfEq_t rfl c2220 ?_
    refine R_I rfl ?_
    obtain ⟨rfl, rfl⟩ := qinj2 hf
    exact R_retI rfl
  · refine R_IfEq_f rfl c2220 ?_
    refine R_ldI rfl rfl ?_
    obtain ⟨⟨x2222, h2221⟩, e2223, hf⟩ := qbind_some hf
    dsimp only at hf
    refine R_callSi (as := [.int a2]) (rest := []) rfl rfl rfl rfl rfl rfl (t_X6_isPerson (by omega) a2 h2217 e2223) ?_
    rcases qite hf with ⟨c2224, hf⟩ | ⟨c2224, hf⟩
    · refine R_IfEq_t rfl c2224 ?_
      refine R_I rfl ?_
      obtain ⟨rfl, rfl⟩ := qinj2 hf
      exact R_retI rfl
    · refine R_IfEq_f rfl c2224 ?_
      refine R_ldI rfl rfl ?_
      refine R_i2l rfl ?_
      refine R_L rfl ?_
      refine R_L rfl ?_
      obtain ⟨⟨x2226, h2225⟩, e2227, hf⟩ := qbind_some hf
      dsimp only at hf
      refine R_callSi (as := [.long a3.toInt64, .long (0 : Int64), .long (999 : Int64)]) (rest := []) rfl rfl rfl rfl rfl rfl (t_X6_in (by omega) a3.toInt64 (0 : Int64) (999 : Int64) h2221 e2227) ?_
      rcases qite hf with ⟨c2228, hf⟩ | ⟨c2228, hf⟩
      · refine R_IfEq_t rfl c2228 ?_
        refine R_I rfl ?_
        obtain ⟨rfl, rfl⟩ := qinj2 hf
        exact R_retI rfl
      · refine R_IfEq_f rfl c2228 ?_
        refine R_ldI rfl rfl ?_
        refine R_i2l rfl ?_
        refine R_L rfl ?_
        refine R_L rfl ?_
        obtain ⟨⟨x2230, h2229⟩, e2231, hf⟩ := qbind_some hf
        dsimp only at hf
        refine R_callSi (as := [.long a4.toInt64, .long (1 : Int64), .long (9 : Int64)]) (rest := []) rfl rfl rfl rfl rfl rfl (t_X6_in (by omega) a4.toInt64 (1 : Int64) (9 : Int64) h2225 e2231) ?_
        rcases qite hf with ⟨c2232, hf⟩ | ⟨c2232, hf⟩
        · refine R_IfEq_t rfl c2232 ?_
          refine R_I rfl ?_
          obtain ⟨rfl, rfl⟩ := qinj2 hf
          exact R_retI rfl
        · refine R_IfEq_f rfl c2232 ?_
          refine R_ldI rfl rfl ?_
          refine R_i2l rfl ?_
          refine R_L rfl ?_
          refine R_L rfl ?_
          obtain ⟨⟨x2234, h2233⟩, e2235, hf⟩ := qbind_some hf
          dsimp only at hf
          refine R_callSi (as := [.long a5.toInt64, .long (0 : Int64), .long (16 : Int64)]) (rest := []) rfl rfl rfl rfl rfl rfl (t_X6_in (by omega) a5.toInt64 (0 : Int64) (16 : Int64) h2229 e2235) ?_
          rcases qite hf with ⟨c2236, hf⟩ | ⟨c2236, hf⟩
          · refine R_IfNe_f rfl c2236 ?_
            refine R_I rfl ?_
            obtain ⟨rfl, rfl⟩ := qinj2 hf
            exact R_retI rfl
          · refine R_IfNe_t rfl c2236 ?_
            refine R_ldA rfl rfl ?_
            refine R_get rfl sh_60 rfl rfl ?_
            refine R_ldI rfl rfl ?_
            obtain ⟨c2237, hf⟩ := qchk hf
            refine R_ald rfl sh_64 c2237 ?_
            refine R_ldI rfl rfl ?_
            rcases qite hf with ⟨c2238, hf⟩ | ⟨c2238, hf⟩
            · refine R_CmNe_f rfl c2238 ?_
              refine R_I rfl ?_
              obtain ⟨rfl, rfl⟩ := qinj2 hf
              exact R_retI rfl
            · refine R_CmNe_t rfl c2238 ?_
              refine R_ldA rfl rfl ?_
              refine R_ldI rfl rfl ?_
              obtain ⟨⟨x2240, h2239⟩, e2241, hf⟩ := qbind_some hf
              dsimp only at hf
              refine R_callVi (as := [.ref 60, .int a2]) (rest := []) rfl rfl sh_60 rfl rfl rfl rfl (t_X6_standsIn (N := N) (by omega) a2 h2233 e2241) ?_
              refine R_stI (ls' := [.ref 60, .int a1, .int a2, .int a3, .int a4, .int a5, .int x2240, qU]) rfl rfl rfl rfl ?_
              refine R_ldA rfl rfl ?_
              obtain ⟨h2242, e2243, hf⟩ := qbind_some hf
              refine R_callVv (as := [.ref 60]) (rest := []) rfl rfl sh_60 rfl rfl rfl rfl (t_X6_keeps (N := N) (by omega)  h2239 e2243) ?_
              refine R_ldA rfl rfl ?_
              refine R_ldI rfl rfl ?_
              refine R_ldI rfl rfl ?_
              obtain ⟨⟨x2245, h2244⟩, e2246, hf⟩ := qbind_some hf
              dsimp only at hf
              refine R_callVi (as := [.ref 60, .int a1, .int a2]) (rest := []) rfl rfl sh_60 rfl rfl rfl rfl (t_X6_sells (N := N) (by omega) a1 a2 h2242 e2246) ?_
              refine R_pop rfl rfl ?_
              refine R_ldA rfl rfl ?_
              refine R_ldI rfl rfl ?_
              obtain ⟨⟨x2248, h2247⟩, e2249, hf⟩ := qbind_some hf
              dsimp only at hf
              refine R_callVi (as := [.ref 60, .int a2]) (rest := []) rfl rfl sh_60 rfl rfl rfl rfl (t_X6_standsIn (N := N) (by omega) a2 h2244 e2249) ?_
              refine R_ldI rfl rfl ?_
              refine R_bin rfl ?_
              refine R_stI (ls' := [.ref 60, .int a1, .int a2, .int a3, .int a4, .int a5, .int x2240, .int (x2248 - x2240)]) rfl rfl rfl rfl ?_
              refine R_ldA rfl rfl ?_
              obtain ⟨h2250, e2251, hf⟩ := qbind_some hf
              refine R_callVv (as := [.ref 60]) (rest := []) rfl rfl sh_60 rfl rfl rfl rfl (t_X6_back (N := N) (by omega)  h2247 e2251) ?_
              refine R_I rfl ?_
              refine R_ldA rfl rfl ?_
              refine R_get rfl sh_60 rfl rfl ?_
              refine R_I rfl ?_
              refine R_ldI rfl rfl ?_
              refine R_bin rfl ?_
              refine R_ldI rfl rfl ?_
              refine R_bin rfl ?_
              obtain ⟨c2252, hf⟩ := qchk hf
              refine R_ald rfl sh_65 c2252 ?_
              refine R_ldI rfl rfl ?_
              refine R_bin rfl ?_
              refine R_bin rfl ?_
              refine R_I rfl ?_
              refine R_ldI rfl rfl ?_
              refine R_bin rfl ?_
              refine R_ldA rfl rfl ?_
              refine R_get rfl sh_60 rfl rfl ?_
              refine R_ldI rfl rfl ?_
              obtain ⟨c2253, hf⟩ := qchk hf
              refine R_ald rfl sh_62 c2253 ?_
              refine R_bin rfl ?_
              refine R_ldI rfl rfl ?_
              refine R_bin rfl ?_
              refine R_bin rfl ?_
              refine R_ldI rfl rfl ?_
              refine R_ldI rfl rfl ?_
              refine R_bin rfl ?_
              refine R_ldA rfl rfl ?_
              refine R_get rfl sh_60 rfl rfl ?_
              refine R_ldI rfl rfl ?_
              obtain ⟨c2254, hf⟩ := qchk hf
              refine R_ald rfl sh_62 c2254 ?_
              refine R_bin rfl ?_
              refine R_bin rfl ?_
              obtain ⟨rfl, rfl⟩ := qinj2 hf
              exact R_retI rfl
def f_X6_lay_L2 (N : Nat) (r1 : Nat) (n1 : Nat) (l2 : Int32) : Nat → Int32 → qN → Option (qN)
  | 0, _, _ => none
  | n + 1, l3, h =>
    if (Int32.ofNat n1) ≤ l3 then
      some h
    else
      if l3 < 0 ∨ n1 ≤ l3.toNatClampNeg then none else
      if (l2 + l3) < 0 ∨ 110 ≤ (l2 + l3).toNatClampNeg then none else
      f_X6_lay_L2 N r1 n1 l2 n (l3 + (1 : Int32)) (qup h 75 (l2 + l3).toNatClampNeg (h r1 l3.toNatClampNeg))
set_option maxRecDepth 100000 in
theorem t_X6_lay_L2 {d N : Nat} (hd : 0 ≤ d) : ∀ (n : Nat) (r1 : Nat) (n1 : Nat) (l2 : Int32) (hr1 : isA r1 n1) (l3 : Int32) (h : qN) (h2 : qN), f_X6_lay_L2 N r1 n1 l2 n l3 h = some h2 → ∀ (v : Option Value) (h1 : qN), RR d cd_X6_lay (0, 0) 25 [qU, .ref r1, .int l2, qU] [] h2 v h1 → RR d cd_X6_lay (0, 0) 2 [.ref 60, .ref r1, .int l2, .int l3] [] h v h1 := by
  intro n
  induction n with
  | zero =>
    intro r1 n1 l2 hr1 l3 h h2 hf v h1 hE
    exact absurd hf (by simp [f_X6_lay_L2])
  | succ n ih =>
    intro r1 n1 l2 hr1 l3 h h2 hf v h1 hE
    unfold f_X6_lay_L2 at hf
    refine R_ldI rfl rfl ?_
    refine R_ldA rfl rfl ?_
    refine R_len rfl hr1 rfl ?_
    rcases qite hf with ⟨c2255, hf⟩ | ⟨c2255, hf⟩
    · refine R_CmGe_t rfl c2255 ?_
      refine R_drop [false, true, true, false] (ls' := [qU, .ref r1, .int l2, qU]) rfl ?_
      obtain rfl := Option.some.inj hf
      exact hE
    · refine R_CmGe_f rfl c2255 ?_
      refine R_ldA rfl rfl ?_
      refine R_get rfl sh_60 rfl rfl ?_
      refine R_ldI rfl rfl ?_
      refine R_ldI rfl rfl ?_
      refine R_bin rfl ?_
      refine R_ldA rfl rfl ?_
      refine R_ldI rfl rfl ?_
      obtain ⟨c2256, hf⟩ := qchk hf
      refine R_ald rfl hr1 c2256 ?_
      obtain ⟨c2257, hf⟩ := qchk hf
      refine R_ast rfl sh_75 c2257 ?_
      refine R_inc (ls' := [.ref 60, .ref r1, .int l2, .int (l3 + (1 : Int32))]) rfl rfl rfl rfl ?_
      refine R_goto rfl ?_
      exact ih r1 n1 l2 hr1 (l3 + (1 : Int32)) (qup h 75 (l2 + l3).toNatClampNeg (h r1 l3.toNatClampNeg)) _ hf _ _ hE
def f_X6_lay (N : Nat) (r1 : Nat) (n1 : Nat) (a2 : Int32) (h : qN) : Option (Int32 × qN) :=
  qbind (f_X6_lay_L2 N r1 n1 a2 N (0 : Int32) h) fun h2259 =>
  some ((a2 + (Int32.ofNat n1)), h2259)
set_option maxRecDepth 100000 in
theorem t_X6_lay {d N : Nat} (hd : 1 ≤ d) (r1 : Nat) (n1 : Nat) (a2 : Int32) (hr1 : isA r1 n1) (h : qN) {v0 : Int32} {h1 : qN} (hf : f_X6_lay N r1 n1 a2 h = some (v0, h1)) : EE d 166 [.ref 60, .ref r1, .int a2] h (some (.int v0)) h1 := by
  obtain ⟨d, rfl⟩ : ∃ d0, d = d0 + 1 := ⟨d - 1, by omega⟩
  unfold f_X6_lay at hf
  refine E_intro qm_166 qc_166 (Nat.le_of_ble_eq_true rfl) rfl rfl ?_
  show RR d cd_X6_lay (0, 0) 0 [.ref 60, .ref r1, .int a2, qU] [] h (some (.int v0)) h1
  refine R_I rfl ?_
  refine R_stI (ls' := [.ref 60, .ref r1, .int a2, .int (0 : Int32)]) rfl rfl rfl rfl ?_
  obtain ⟨h2259, e2260, hf⟩ := qbind_some hf
  refine t_X6_lay_L2 (N := N) (by omega) _ r1 n1 a2 hr1 (0 : Int32) h h2259 e2260 _ _ ?_
  refine R_ldI rfl rfl ?_
  refine R_ldA rfl rfl ?_
  refine R_len rfl hr1 rfl ?_
  refine R_bin rfl ?_
  obtain ⟨rfl, rfl⟩ := qinj2 hf
  exact R_retI rfl
def f_X6_gives_L2 (N : Nat) (r0 : Nat) (n0 : Nat) (l1 : Int32) (r2 : Nat) (n2 : Nat) : Nat → Int32 → qN → Option (qN)
  | 0, _, _ => none
  | n + 1, l3, h =>
    if (Int32.ofNat n2) ≤ l3 then
      some h
    else
      if (l1 + l3) < 0 ∨ n0 ≤ (l1 + l3).toNatClampNeg then none else
      if l3 < 0 ∨ n2 ≤ l3.toNatClampNeg then none else
      f_X6_gives_L2 N r0 n0 l1 r2 n2 n (l3 + (1 : Int32)) (qup h r2 l3.toNatClampNeg (h r0 (l1 + l3).toNatClampNeg))
set_option maxRecDepth 100000 in
theorem t_X6_gives_L2 {d N : Nat} (hd : 0 ≤ d) : ∀ (n : Nat) (r0 : Nat) (n0 : Nat) (l1 : Int32) (r2 : Nat) (n2 : Nat) (hr0 : isA r0 n0) (hr2 : isA r2 n2) (l3 : Int32) (h : qN) (h2 : qN), f_X6_gives_L2 N r0 n0 l1 r2 n2 n l3 h = some h2 → ∀ (v : Option Value) (h1 : qN), RR d cd_X6_gives (0, 0) 22 [qU, .int l1, .ref r2, qU] [] h2 v h1 → RR d cd_X6_gives (0, 0) 2 [.ref r0, .int l1, .ref r2, .int l3] [] h v h1 := by
  intro n
  induction n with
  | zero =>
    intro r0 n0 l1 r2 n2 hr0 hr2 l3 h h2 hf v h1 hE
    exact absurd hf (by simp [f_X6_gives_L2])
  | succ n ih =>
    intro r0 n0 l1 r2 n2 hr0 hr2 l3 h h2 hf v h1 hE
    unfold f_X6_gives_L2 at hf
    refine R_ldI rfl rfl ?_
    refine R_ldA rfl rfl ?_
    refine R_len rfl hr2 rfl ?_
    rcases qite hf with ⟨c2263, hf⟩ | ⟨c2263, hf⟩
    · refine R_CmGe_t rfl c2263 ?_
      refine R_drop [false, true, true, false] (ls' := [qU, .int l1, .ref r2, qU]) rfl ?_
      obtain rfl := Option.some.inj hf
      exact hE
    · refine R_CmGe_f rfl c2263 ?_
      refine R_ldA rfl rfl ?_
      refine R_ldI rfl rfl ?_
      refine R_ldA rfl rfl ?_
      refine R_ldI rfl rfl ?_
      refine R_ldI rfl rfl ?_
      refine R_bin rfl ?_
      obtain ⟨c2264, hf⟩ := qchk hf
      refine R_ald rfl hr0 c2264 ?_
      obtain ⟨c2265, hf⟩ := qchk hf
      refine R_ast rfl hr2 c2265 ?_
      refine R_inc (ls' := [.ref r0, .int l1, .ref r2, .int (l3 + (1 : Int32))]) rfl rfl rfl rfl ?_
      refine R_goto rfl ?_
      exact ih r0 n0 l1 r2 n2 hr0 hr2 (l3 + (1 : Int32)) (qup h r2 l3.toNatClampNeg (h r0 (l1 + l3).toNatClampNeg)) _ hf _ _ hE
def f_X6_gives (N : Nat) (r0 : Nat) (n0 : Nat) (a1 : Int32) (r2 : Nat) (n2 : Nat) (h : qN) : Option (Int32 × qN) :=
  qbind (f_X6_gives_L2 N r0 n0 a1 r2 n2 N (0 : Int32) h) fun h2267 =>
  some ((a1 + (Int32.ofNat n2)), h2267)
set_option maxRecDepth 100000 in
theorem t_X6_gives {d N : Nat} (hd : 1 ≤ d) (r0 : Nat) (n0 : Nat) (a1 : Int32) (r2 : Nat) (n2 : Nat) (hr0 : isA r0 n0) (hr2 : isA r2 n2) (h : qN) {v0 : Int32} {h1 : qN} (hf : f_X6_gives N r0 n0 a1 r2 n2 h = some (v0, h1)) : EE d 167 [.ref r0, .int a1, .ref r2] h (some (.int v0)) h1 := by
  obtain ⟨d, rfl⟩ : ∃ d0, d = d0 + 1 := ⟨d - 1, by omega⟩
  unfold f_X6_gives at hf
  refine E_intro qm_167 qc_167 (Nat.le_of_ble_eq_true rfl) rfl rfl ?_
  show RR d cd_X6_gives (0, 0) 0 [.ref r0, .int a1, .ref r2, qU] [] h (some (.int v0)) h1
  refine R_I rfl ?_
  refine R_stI (ls' := [.ref r0, .int a1, .ref r2, .int (0 : Int32)]) rfl rfl rfl rfl ?_
  obtain ⟨h2267, e2268, hf⟩ := qbind_some hf
  refine t_X6_gives_L2 (N := N) (by omega) _ r0 n0 a1 r2 n2 hr0 hr2 (0 : Int32) h h2267 e2268 _ _ ?_
  refine R_ldI rfl rfl ?_
  refine R_ldA rfl rfl ?_
  refine R_len rfl hr2 rfl ?_
  refine R_bin rfl ?_
  obtain ⟨rfl, rfl⟩ := qinj2 hf
  exact R_retI rfl
def f_X6_image (N : Nat) (h : qN) : Option (Int32 × qN) :=
  qbind (f_X6_lay N 61 6 (0 : Int32) h) fun (x2272, h2271) =>
  qbind (f_X6_lay N 62 6 x2272 h2271) fun (x2275, h2274) =>
  qbind (f_X6_lay N 63 2 x2275 h2274) fun (x2278, h2277) =>
  qbind (f_X6_lay N 64 8 x2278 h2277) fun (x2281, h2280) =>
  qbind (f_X6_lay N 65 48 x2281 h2280) fun (x2284, h2283) =>
  qbind (f_X6_lay N 66 12 x2284 h2283) fun (x2287, h2286) =>
  qbind (f_X6_lay N 67 12 x2287 h2286) fun (x2290, h2289) =>
  if x2290 < 0 ∨ 110 ≤ x2290.toNatClampNeg then none else
  if (x2290 + (1 : Int32)) < 0 ∨ 110 ≤ (x2290 + (1 : Int32)).toNatClampNeg then none else
  if (x2290 + (2 : Int32)) < 0 ∨ 110 ≤ (x2290 + (2 : Int32)).toNatClampNeg then none else
  if (x2290 + (3 : Int32)) < 0 ∨ 110 ≤ (x2290 + (3 : Int32)).toNatClampNeg then none else
  some ((1 : Int32), (qup (qup (qup (qup (qup h2289 75 x2290.toNatClampNeg (h2289 60 3)) 75 (x2290 + (1 : Int32)).toNatClampNeg ((qup h2289 75 x2290.toNatClampNeg (h2289 60 3)) 60 6)) 75 (x2290 + (2 : Int32)).toNatClampNeg ((qup (qup h2289 75 x2290.toNatClampNeg (h2289 60 3)) 75 (x2290 + (1 : Int32)).toNatClampNeg ((qup h2289 75 x2290.toNatClampNeg (h2289 60 3)) 60 6)) 60 9)) 75 (x2290 + (3 : Int32)).toNatClampNeg ((qup (qup (qup h2289 75 x2290.toNatClampNeg (h2289 60 3)) 75 (x2290 + (1 : Int32)).toNatClampNeg ((qup h2289 75 x2290.toNatClampNeg (h2289 60 3)) 60 6)) 75 (x2290 + (2 : Int32)).toNatClampNeg ((qup (qup h2289 75 x2290.toNatClampNeg (h2289 60 3)) 75 (x2290 + (1 : Int32)).toNatClampNeg ((qup h2289 75 x2290.toNatClampNeg (h2289 60 3)) 60 6)) 60 9)) 60 10)) 60 24 (1 : Int32)))
set_option maxRecDepth 100000 in
theorem t_X6_image {d N : Nat} (hd : 2 ≤ d)   (h : qN) {v0 : Int32} {h1 : qN} (hf : f_X6_image N  h = some (v0, h1)) : EE d 168 [.ref 60] h (some (.int v0)) h1 := by
  obtain ⟨d, rfl⟩ : ∃ d0, d = d0 + 1 := ⟨d - 1, by omega⟩
  unfold f_X6_image at hf
  refine E_intro qm_168 qc_168 (Nat.le_of_ble_eq_true rfl) rfl rfl ?_
  show RR d cd_X6_image (0, 0) 0 [.ref 60, qU] [] h (some (.int v0)) h1
  refine R_ldA rfl rfl ?_
  refine R_ldA rfl rfl ?_
  refine R_get rfl sh_60 rfl rfl ?_
  refine R_I rfl ?_
  obtain ⟨⟨x2272, h2271⟩, e2273, hf⟩ := qbind_some hf
  dsimp only at hf
  refine R_callVi (as := [.ref 60, .ref 61, .int (0 : Int32)]) (rest := []) rfl rfl sh_60 rfl rfl rfl rfl (t_X6_lay (N := N) (by omega) 61 6 (0 : Int32) sh_61 h e2273) ?_
  refine R_stI (ls' := [.ref 60, .int x2272]) rfl rfl rfl rfl ?_
  refine R_ldA rfl rfl ?_
  refine R_ldA rfl rfl ?_
  refine R_get rfl sh_60 rfl rfl ?_
  refine R_ldI rfl rfl ?_
  obtain ⟨⟨x2275, h2274⟩, e2276, hf⟩ := qbind_some hf
  dsimp only at hf
  refine R_callVi (as := [.ref 60, .ref 62, .int x2272]) (rest := []) rfl rfl sh_60 rfl rfl rfl rfl (t_X6_lay (N := N) (by omega) 62 6 x2272 sh_62 h2271 e2276) ?_
  refine R_stI (ls' := [.ref 60, .int x2275]) rfl rfl rfl rfl ?_
  refine R_ldA rfl rfl ?_
  refine R_ldA rfl rfl ?_
  refine R_get rfl sh_60 rfl rfl ?_
  refine R_ldI rfl rfl ?_
  obtain ⟨⟨x2278, h2277⟩, e2279, hf⟩ := qbind_some hf
  dsimp only at hf
  refine R_callVi (as := [.ref 60, .ref 63, .int x2275]) (rest := []) rfl rfl sh_60 rfl rfl rfl rfl (t_X6_lay (N := N) (by omega) 63 2 x2275 sh_63 h2274 e2279) ?_
  refine R_stI (ls' := [.ref 60, .int x2278]) rfl rfl rfl rfl ?_
  refine R_ldA rfl rfl ?_
  refine R_ldA rfl rfl ?_
  refine R_get rfl sh_60 rfl rfl ?_
  refine R_ldI rfl rfl ?_
  obtain ⟨⟨x2281, h2280⟩, e2282, hf⟩ := qbind_some hf
  dsimp only at hf
  refine R_callVi (as := [.ref 60, .ref 64, .int x2278]) (rest := []) rfl rfl sh_60 rfl rfl rfl rfl (t_X6_lay (N := N) (by omega) 64 8 x2278 sh_64 h2277 e2282) ?_
  refine R_stI (ls' := [.ref 60, .int x2281]) rfl rfl rfl rfl ?_
  refine R_ldA rfl rfl ?_
  refine R_ldA rfl rfl ?_
  refine R_get rfl sh_60 rfl rfl ?_
  refine R_ldI rfl rfl ?_
  obtain ⟨⟨x2284, h2283⟩, e2285, hf⟩ := qbind_some hf
  dsimp only at hf
  refine R_callVi (as := [.ref 60, .ref 65, .int x2281]) (rest := []) rfl rfl sh_60 rfl rfl rfl rfl (t_X6_lay (N := N) (by omega) 65 48 x2281 sh_65 h2280 e2285) ?_
  refine R_stI (ls' := [.ref 60, .int x2284]) rfl rfl rfl rfl ?_
  refine R_ldA rfl rfl ?_
  refine R_ldA rfl rfl ?_
  refine R_get rfl sh_60 rfl rfl ?_
  refine R_ldI rfl rfl ?_
  obtain ⟨⟨x2287, h2286⟩, e2288, hf⟩ := qbind_some hf
  dsimp only at hf
  refine R_callVi (as := [.ref 60, .ref 66, .int x2284]) (rest := []) rfl rfl sh_60 rfl rfl rfl rfl (t_X6_lay (N := N) (by omega) 66 12 x2284 sh_66 h2283 e2288) ?_
  refine R_stI (ls' := [.ref 60, .int x2287]) rfl rfl rfl rfl ?_
  refine R_ldA rfl rfl ?_
  refine R_ldA rfl rfl ?_
  refine R_get rfl sh_60 rfl rfl ?_
  refine R_ldI rfl rfl ?_
  obtain ⟨⟨x2290, h2289⟩, e2291, hf⟩ := qbind_some hf
  dsimp only at hf
  refine R_callVi (as := [.ref 60, .ref 67, .int x2287]) (rest := []) rfl rfl sh_60 rfl rfl rfl rfl (t_X6_lay (N := N) (by omega) 67 12 x2287 sh_67 h2286 e2291) ?_
  refine R_stI (ls' := [.ref 60, .int x2290]) rfl rfl rfl rfl ?_
  refine R_ldA rfl rfl ?_
  refine R_get rfl sh_60 rfl rfl ?_
  refine R_ldI rfl rfl ?_
  refine R_ldA rfl rfl ?_
  refine R_get rfl sh_60 rfl rfl ?_
  obtain ⟨c2292, hf⟩ := qchk hf
  refine R_ast rfl sh_75 c2292 ?_
  refine R_ldA rfl rfl ?_
  refine R_get rfl sh_60 rfl rfl ?_
  refine R_ldI rfl rfl ?_
  refine R_I rfl ?_
  refine R_bin rfl ?_
  refine R_ldA rfl rfl ?_
  refine R_get rfl sh_60 rfl rfl ?_
  obtain ⟨c2293, hf⟩ := qchk hf
  refine R_ast rfl sh_75 c2293 ?_
  refine R_ldA rfl rfl ?_
  refine R_get rfl sh_60 rfl rfl ?_
  refine R_ldI rfl rfl ?_
  refine R_I rfl ?_
  refine R_bin rfl ?_
  refine R_ldA rfl rfl ?_
  refine R_get rfl sh_60 rfl rfl ?_
  obtain ⟨c2294, hf⟩ := qchk hf
  refine R_ast rfl sh_75 c2294 ?_
  refine R_ldA rfl rfl ?_
  refine R_get rfl sh_60 rfl rfl ?_
  refine R_ldI rfl rfl ?_
  refine R_I rfl ?_
  refine R_bin rfl ?_
  refine R_ldA rfl rfl ?_
  refine R_get rfl sh_60 rfl rfl ?_
  obtain ⟨c2295, hf⟩ := qchk hf
  refine R_ast rfl sh_75 c2295 ?_
  refine R_ldA rfl rfl ?_
  refine R_I rfl ?_
  refine R_putZ rfl sh_60 rfl (by decide) ?_
  refine R_I rfl ?_
  obtain ⟨rfl, rfl⟩ := qinj2 hf
  exact R_retI rfl
def f_X6_restore (N : Nat) (h : qN) : Option (Int32 × qN) :=
  if (h 60 24) = 0 then
    some ((-4 : Int32), h)
  else
    qbind (f_X6_gives N 75 110 (0 : Int32) 61 6 h) fun (x2298, h2297) =>
    qbind (f_X6_gives N 75 110 x2298 62 6 h2297) fun (x2301, h2300) =>
    qbind (f_X6_gives N 75 110 x2301 63 2 h2300) fun (x2304, h2303) =>
    qbind (f_X6_gives N 75 110 x2304 64 8 h2303) fun (x2307, h2306) =>
    qbind (f_X6_gives N 75 110 x2307 65 48 h2306) fun (x2310, h2309) =>
    qbind (f_X6_gives N 75 110 x2310 66 12 h2309) fun (x2313, h2312) =>
    qbind (f_X6_gives N 75 110 x2313 67 12 h2312) fun (x2316, h2315) =>
    if x2316 < 0 ∨ 110 ≤ x2316.toNatClampNeg then none else
    if (x2316 + (1 : Int32)) < 0 ∨ 110 ≤ (x2316 + (1 : Int32)).toNatClampNeg then none else
    if (x2316 + (2 : Int32)) < 0 ∨ 110 ≤ (x2316 + (2 : Int32)).toNatClampNeg then none else
    if (x2316 + (3 : Int32)) < 0 ∨ 110 ≤ (x2316 + (3 : Int32)).toNatClampNeg then none else
    some ((1 : Int32), (qup (qup (qup (qup h2315 60 3 (h2315 75 x2316.toNatClampNeg)) 60 6 ((qup h2315 60 3 (h2315 75 x2316.toNatClampNeg)) 75 (x2316 + (1 : Int32)).toNatClampNeg)) 60 9 ((qup (qup h2315 60 3 (h2315 75 x2316.toNatClampNeg)) 60 6 ((qup h2315 60 3 (h2315 75 x2316.toNatClampNeg)) 75 (x2316 + (1 : Int32)).toNatClampNeg)) 75 (x2316 + (2 : Int32)).toNatClampNeg)) 60 10 ((qup (qup (qup h2315 60 3 (h2315 75 x2316.toNatClampNeg)) 60 6 ((qup h2315 60 3 (h2315 75 x2316.toNatClampNeg)) 75 (x2316 + (1 : Int32)).toNatClampNeg)) 60 9 ((qup (qup h2315 60 3 (h2315 75 x2316.toNatClampNeg)) 60 6 ((qup h2315 60 3 (h2315 75 x2316.toNatClampNeg)) 75 (x2316 + (1 : Int32)).toNatClampNeg)) 75 (x2316 + (2 : Int32)).toNatClampNeg)) 75 (x2316 + (3 : Int32)).toNatClampNeg)))
set_option maxRecDepth 100000 in
theorem t_X6_restore {d N : Nat} (hd : 2 ≤ d)   (h : qN) {v0 : Int32} {h1 : qN} (hf : f_X6_restore N  h = some (v0, h1)) : EE d 169 [.ref 60] h (some (.int v0)) h1 := by
  obtain ⟨d, rfl⟩ : ∃ d0, d = d0 + 1 := ⟨d - 1, by omega⟩
  unfold f_X6_restore at hf
  refine E_intro qm_169 qc_169 (Nat.le_of_ble_eq_true rfl) rfl rfl ?_
  show RR d cd_X6_restore (0, 0) 0 [.ref 60, qU] [] h (some (.int v0)) h1
  refine R_ldA rfl rfl ?_
  refine R_get rfl sh_60 rfl rfl ?_
  rcases qite hf with ⟨c2296, hf⟩ | ⟨c2296, hf⟩
  · refine R_IfNe_f rfl c2296 ?_
    refine R_I rfl ?_
    obtain ⟨rfl, rfl⟩ := qinj2 hf
    exact R_retI rfl
  · refine R_IfNe_t rfl c2296 ?_
    refine R_ldA rfl rfl ?_
    refine R_get rfl sh_60 rfl rfl ?_
    refine R_I rfl ?_
    refine R_ldA rfl rfl ?_
    refine R_get rfl sh_60 rfl rfl ?_
    obtain ⟨⟨x2298, h2297⟩, e2299, hf⟩ := qbind_some hf
    dsimp only at hf
    refine R_callSi (as := [.ref 75, .int (0 : Int32), .ref 61]) (rest := []) rfl rfl rfl rfl rfl rfl (t_X6_gives (N := N) (by omega) 75 110 (0 : Int32) 61 6 sh_75 sh_61 h e2299) ?_
    refine R_stI (ls' := [.ref 60, .int x2298]) rfl rfl rfl rfl ?_
    refine R_ldA rfl rfl ?_
    refine R_get rfl sh_60 rfl rfl ?_
    refine R_ldI rfl rfl ?_
    refine R_ldA rfl rfl ?_
    refine R_get rfl sh_60 rfl rfl ?_
    obtain ⟨⟨x2301, h2300⟩, e2302, hf⟩ := qbind_some hf
    dsimp only at hf
    refine R_callSi (as := [.ref 75, .int x2298, .ref 62]) (rest := []) rfl rfl rfl rfl rfl rfl (t_X6_gives (N := N) (by omega) 75 110 x2298 62 6 sh_75 sh_62 h2297 e2302) ?_
    refine R_stI (ls' := [.ref 60, .int x2301]) rfl rfl rfl rfl ?_
    refine R_ldA rfl rfl ?_
    refine R_get rfl sh_60 rfl rfl ?_
    refine R_ldI rfl rfl ?_
    refine R_ldA rfl rfl ?_
    refine R_get rfl sh_60 rfl rfl ?_
    obtain ⟨⟨x2304, h2303⟩, e2305, hf⟩ := qbind_some hf
    dsimp only at hf
    refine R_callSi (as := [.ref 75, .int x2301, .ref 63]) (rest := []) rfl rfl rfl rfl rfl rfl (t_X6_gives (N := N) (by omega) 75 110 x2301 63 2 sh_75 sh_63 h2300 e2305) ?_
    refine R_stI (ls' := [.ref 60, .int x2304]) rfl rfl rfl rfl ?_
    refine R_ldA rfl rfl ?_
    refine R_get rfl sh_60 rfl rfl ?_
    refine R_ldI rfl rfl ?_
    refine R_ldA rfl rfl ?_
    refine R_get rfl sh_60 rfl rfl ?_
    obtain ⟨⟨x2307, h2306⟩, e2308, hf⟩ := qbind_some hf
    dsimp only at hf
    refine R_callSi (as := [.ref 75, .int x2304, .ref 64]) (rest := []) rfl rfl rfl rfl rfl rfl (t_X6_gives (N := N) (by omega) 75 110 x2304 64 8 sh_75 sh_64 h2303 e2308) ?_
    refine R_stI (ls' := [.ref 60, .int x2307]) rfl rfl rfl rfl ?_
    refine R_ldA rfl rfl ?_
    refine R_get rfl sh_60 rfl rfl ?_
    refine R_ldI rfl rfl ?_
    refine R_ldA rfl rfl ?_
    refine R_get rfl sh_60 rfl rfl ?_
    obtain ⟨⟨x2310, h2309⟩, e2311, hf⟩ := qbind_some hf
    dsimp only at hf
    refine R_callSi (as := [.ref 75, .int x2307, .ref 65]) (rest := []) rfl rfl rfl rfl rfl rfl (t_X6_gives (N := N) (by omega) 75 110 x2307 65 48 sh_75 sh_65 h2306 e2311) ?_
    refine R_stI (ls' := [.ref 60, .int x2310]) rfl rfl rfl rfl ?_
    refine R_ldA rfl rfl ?_
    refine R_get rfl sh_60 rfl rfl ?_
    refine R_ldI rfl rfl ?_
    refine R_ldA rfl rfl ?_
    refine R_get rfl sh_60 rfl rfl ?_
    obtain ⟨⟨x2313, h2312⟩, e2314, hf⟩ := qbind_some hf
    dsimp only at hf
    refine R_callSi (as := [.ref 75, .int x2310, .ref 66]) (rest := []) rfl rfl rfl rfl rfl rfl (t_X6_gives (N := N) (by omega) 75 110 x2310 66 12 sh_75 sh_66 h2309 e2314) ?_
    refine R_stI (ls' := [.ref 60, .int x2313]) rfl rfl rfl rfl ?_
    refine R_ldA rfl rfl ?_
    refine R_get rfl sh_60 rfl rfl ?_
    refine R_ldI rfl rfl ?_
    refine R_ldA rfl rfl ?_
    refine R_get rfl sh_60 rfl rfl ?_
    obtain ⟨⟨x2316, h2315⟩, e2317, hf⟩ := qbind_some hf
    dsimp only at hf
    refine R_callSi (as := [.ref 75, .int x2313, .ref 67]) (rest := []) rfl rfl rfl rfl rfl rfl (t_X6_gives (N := N) (by omega) 75 110 x2313 67 12 sh_75 sh_67 h2312 e2317) ?_
    refine R_stI (ls' := [.ref 60, .int x2316]) rfl rfl rfl rfl ?_
    refine R_ldA rfl rfl ?_
    refine R_ldA rfl rfl ?_
    refine R_get rfl sh_60 rfl rfl ?_
    refine R_ldI rfl rfl ?_
    obtain ⟨c2318, hf⟩ := qchk hf
    refine R_ald rfl sh_75 c2318 ?_
    refine R_putI rfl sh_60 rfl ?_
    refine R_ldA rfl rfl ?_
    refine R_ldA rfl rfl ?_
    refine R_get rfl sh_60 rfl rfl ?_
    refine R_ldI rfl rfl ?_
    refine R_I rfl ?_
    refine R_bin rfl ?_
    obtain ⟨c2319, hf⟩ := qchk hf
    refine R_ald rfl sh_75 c2319 ?_
    refine R_putI rfl sh_60 rfl ?_
    refine R_ldA rfl rfl ?_
    refine R_ldA rfl rfl ?_
    refine R_get rfl sh_60 rfl rfl ?_
    refine R_ldI rfl rfl ?_
    refine R_I rfl ?_
    refine R_bin rfl ?_
    obtain ⟨c2320, hf⟩ := qchk hf
    refine R_ald rfl sh_75 c2320 ?_
    refine R_putI rfl sh_60 rfl ?_
    refine R_ldA rfl rfl ?_
    refine R_ldA rfl rfl ?_
    refine R_get rfl sh_60 rfl rfl ?_
    refine R_ldI rfl rfl ?_
    refine R_I rfl ?_
    refine R_bin rfl ?_
    obtain ⟨c2321, hf⟩ := qchk hf
    refine R_ald rfl sh_75 c2321 ?_
    refine R_putI rfl sh_60 rfl ?_
    refine R_I rfl ?_
    obtain ⟨rfl, rfl⟩ := qinj2 hf
    exact R_retI rfl
def f_X6_isSheet (a0 : Int32) (h : qN) : Option (Int32 × qN) :=
  qbind (f_X6_in a0.toInt64 (0 : Int64) (3 : Int64) h) fun (x2323, h2322) =>
  if x2323 = 0 ∨ x2323 = 1 then
    some (x2323, h2322)
  else none
set_option maxRecDepth 100000 in
theorem t_X6_isSheet {d : Nat} (hd : 2 ≤ d) (a0 : Int32)  (h : qN) {v0 : Int32} {h1 : qN} (hf : f_X6_isSheet a0 h = some (v0, h1)) : EE d 170 [.int a0] h (some (.int v0)) h1 := by
  obtain ⟨d, rfl⟩ : ∃ d0, d = d0 + 1 := ⟨d - 1, by omega⟩
  unfold f_X6_isSheet at hf
  refine E_intro qm_170 qc_170 (Nat.le_of_ble_eq_true rfl) rfl rfl ?_
  show RR d cd_X6_isSheet (0, 0) 0 [.int a0] [] h (some (.int v0)) h1
  refine R_ldI rfl rfl ?_
  refine R_i2l rfl ?_
  refine R_L rfl ?_
  refine R_L rfl ?_
  obtain ⟨⟨x2323, h2322⟩, e2324, hf⟩ := qbind_some hf
  dsimp only at hf
  refine R_callSi (as := [.long a0.toInt64, .long (0 : Int64), .long (3 : Int64)]) (rest := []) rfl rfl rfl rfl rfl rfl (t_X6_in (by omega) a0.toInt64 (0 : Int64) (3 : Int64) h e2324) ?_
  obtain ⟨c2325, hf⟩ := qreq hf
  obtain ⟨rfl, rfl⟩ := qinj2 hf
  exact R_retZ rfl c2325
def f_X6_isLane (a0 : Int32) (h : qN) : Option (Int32 × qN) :=
  qbind (f_X6_in a0.toInt64 (0 : Int64) (2 : Int64) h) fun (x2327, h2326) =>
  if x2327 = 0 ∨ x2327 = 1 then
    some (x2327, h2326)
  else none
set_option maxRecDepth 100000 in
theorem t_X6_isLane {d : Nat} (hd : 2 ≤ d) (a0 : Int32)  (h : qN) {v0 : Int32} {h1 : qN} (hf : f_X6_isLane a0 h = some (v0, h1)) : EE d 171 [.int a0] h (some (.int v0)) h1 := by
  obtain ⟨d, rfl⟩ : ∃ d0, d = d0 + 1 := ⟨d - 1, by omega⟩
  unfold f_X6_isLane at hf
  refine E_intro qm_171 qc_171 (Nat.le_of_ble_eq_true rfl) rfl rfl ?_
  show RR d cd_X6_isLane (0, 0) 0 [.int a0] [] h (some (.int v0)) h1
  refine R_ldI rfl rfl ?_
  refine R_i2l rfl ?_
  refine R_L rfl ?_
  refine R_L rfl ?_
  obtain ⟨⟨x2327, h2326⟩, e2328, hf⟩ := qbind_some hf
  dsimp only at hf
  refine R_callSi (as := [.long a0.toInt64, .long (0 : Int64), .long (2 : Int64)]) (rest := []) rfl rfl rfl rfl rfl rfl (t_X6_in (by omega) a0.toInt64 (0 : Int64) (2 : Int64) h e2328) ?_
  obtain ⟨c2329, hf⟩ := qreq hf
  obtain ⟨rfl, rfl⟩ := qinj2 hf
  exact R_retZ rfl c2329
def f_X6_finds (a1 : Int32) (a2 : Int32) (a3 : Int32) (a4 : Int32) (h : qN) : Option (Int32 × qN) :=
  if a1 < 0 ∨ 4 ≤ a1.toNatClampNeg then none else
  if 0 ≤ (h 76 a1.toNatClampNeg) then
    if a1 < 0 ∨ 4 ≤ a1.toNatClampNeg then none else
    if (h 76 a1.toNatClampNeg) = a2 then
      if a3 < 0 then
        some ((-13 : Int32), h)
      else
        if a1 < 0 ∨ 4 ≤ a1.toNatClampNeg then none else
        if (lg_cmp (a3.toInt64 + a4.toInt64) (h 77 a1.toNatClampNeg).toInt64) ≤ 0 then
          some ((0 : Int32), h)
        else
          some ((-13 : Int32), h)
    else
      some ((-12 : Int32), h)
  else
    some ((-11 : Int32), h)
set_option maxRecDepth 100000 in
theorem t_X6_finds {d : Nat} (hd : 1 ≤ d) (a1 : Int32) (a2 : Int32) (a3 : Int32) (a4 : Int32)  (h : qN) {v0 : Int32} {h1 : qN} (hf : f_X6_finds a1 a2 a3 a4 h = some (v0, h1)) : EE d 172 [.ref 60, .int a1, .int a2, .int a3, .int a4] h (some (.int v0)) h1 := by
  obtain ⟨d, rfl⟩ : ∃ d0, d = d0 + 1 := ⟨d - 1, by omega⟩
  unfold f_X6_finds at hf
  refine E_intro qm_172 qc_172 (Nat.le_of_ble_eq_true rfl) rfl rfl ?_
  show RR d cd_X6_finds (0, 0) 0 [.ref 60, .int a1, .int a2, .int a3, .int a4] [] h (some (.int v0)) h1
  refine R_ldA rfl rfl ?_
  refine R_get rfl sh_60 rfl rfl ?_
  refine R_ldI rfl rfl ?_
  obtain ⟨c2330, hf⟩ := qchk hf
  refine R_ald rfl sh_76 c2330 ?_
  rcases qite hf with ⟨c2331, hf⟩ | ⟨c2331, hf⟩
  · refine R_IfGe_t rfl c2331 ?_
    refine R_ldA rfl rfl ?_
    refine R_get rfl sh_60 rfl rfl ?_
    refine R_ldI rfl rfl ?_
    obtain ⟨c2332, hf⟩ := qchk hf
    refine R_ald rfl sh_76 c2332 ?_
    refine R_ldI rfl rfl ?_
    rcases qite hf with ⟨c2333, hf⟩ | ⟨c2333, hf⟩
    · refine R_CmEq_t rfl c2333 ?_
      refine R_ldI rfl rfl ?_
      rcases qite hf with ⟨c2334, hf⟩ | ⟨c2334, hf⟩
      · refine R_IfLt_t rfl c2334 ?_
        refine R_I rfl ?_
        refine R_goto rfl ?_
        obtain ⟨rfl, rfl⟩ := qinj2 hf
        exact R_retI rfl
      · refine R_IfLt_f rfl c2334 ?_
        refine R_ldI rfl rfl ?_
        refine R_i2l rfl ?_
        refine R_ldI rfl rfl ?_
        refine R_i2l rfl ?_
        refine R_lbin rfl ?_
        refine R_ldA rfl rfl ?_
        refine R_get rfl sh_60 rfl rfl ?_
        refine R_ldI rfl rfl ?_
        obtain ⟨c2335, hf⟩ := qchk hf
        refine R_ald rfl sh_77 c2335 ?_
        refine R_i2l rfl ?_
        refine R_lcmp rfl ?_
        rcases qite hf with ⟨c2336, hf⟩ | ⟨c2336, hf⟩
        · refine R_IfLe_t rfl c2336 ?_
          refine R_I rfl ?_
          obtain ⟨rfl, rfl⟩ := qinj2 hf
          exact R_retI rfl
        · refine R_IfLe_f rfl c2336 ?_
          refine R_I rfl ?_
          refine R_goto rfl ?_
          obtain ⟨rfl, rfl⟩ := qinj2 hf
          exact R_retI rfl
    · refine R_CmEq_f rfl c2333 ?_
      refine R_I rfl ?_
      obtain ⟨rfl, rfl⟩ := qinj2 hf
      exact R_retI rfl
  · refine R_IfGe_f rfl c2331 ?_
    refine R_I rfl ?_
    obtain ⟨rfl, rfl⟩ := qinj2 hf
    exact R_retI rfl
def f_X6_deal_L61 (N : Nat) (l4 : Int32) (l6 : Int32) : Nat → Int32 → qN → Option (Int32 × qN)
  | 0, _, _ => none
  | n + 1, l7, h =>
    if l4 ≤ l7 then
      some (l7, h)
    else
      if (l6 + ((3 : Int32) * l7)) < 0 ∨ 96 ≤ (l6 + ((3 : Int32) * l7)).toNatClampNeg then none else
      if ((l6 + ((3 : Int32) * l7)) + (1 : Int32)) < 0 ∨ 96 ≤ ((l6 + ((3 : Int32) * l7)) + (1 : Int32)).toNatClampNeg then none else
      if ((l6 + ((3 : Int32) * l7)) + (2 : Int32)) < 0 ∨ 96 ≤ ((l6 + ((3 : Int32) * l7)) + (2 : Int32)).toNatClampNeg then none else
      qbind (f_X6_sale N (h 78 (l6 + ((3 : Int32) * l7)).toNatClampNeg) (h 78 ((l6 + ((3 : Int32) * l7)) + (1 : Int32)).toNatClampNeg) (h 78 ((l6 + ((3 : Int32) * l7)) + (2 : Int32)).toNatClampNeg) h) fun (x2358, h2357) =>
      if x2358 < 0 then
        some (l7, h2357)
      else
        f_X6_deal_L61 N l4 l6 n (l7 + (1 : Int32)) h2357
set_option maxRecDepth 100000 in
theorem t_X6_deal_L61 {d N : Nat} (hd : 4 ≤ d) : ∀ (n : Nat) (l4 : Int32) (l6 : Int32) (l7 : Int32) (h : qN) (y7 : Int32) (h2 : qN), f_X6_deal_L61 N l4 l6 n l7 h = some (y7, h2) → ∀ (v : Option Value) (h1 : qN), RR d cd_X6_deal (0, 0) 121 [qU, qU, qU, qU, qU, qU, qU, .int y7] [] h2 v h1 → RR d cd_X6_deal (0, 0) 61 [.ref 60, qU, qU, qU, .int l4, qU, .int l6, .int l7] [] h v h1 := by
  intro n
  induction n with
  | zero =>
    intro l4 l6 l7 h y7 h2 hf v h1 hE
    exact absurd hf (by simp [f_X6_deal_L61])
  | succ n ih =>
    intro l4 l6 l7 h y7 h2 hf v h1 hE
    unfold f_X6_deal_L61 at hf
    refine R_ldI rfl rfl ?_
    refine R_ldI rfl rfl ?_
    rcases qite hf with ⟨c2353, hf⟩ | ⟨c2353, hf⟩
    · refine R_CmGe_t rfl c2353 ?_
      refine R_drop [false, true, true, true, false, true, false, true] (ls' := [qU, qU, qU, qU, qU, qU, qU, .int l7]) rfl ?_
      obtain ⟨rfl, rfl⟩ := qinj2 hf
      exact hE
    · refine R_CmGe_f rfl c2353 ?_
      refine R_ldA rfl rfl ?_
      refine R_ldA rfl rfl ?_
      refine R_get rfl sh_60 rfl rfl ?_
      refine R_ldI rfl rfl ?_
      refine R_I rfl ?_
      refine R_ldI rfl rfl ?_
      refine R_bin rfl ?_
      refine R_bin rfl ?_
      obtain ⟨c2354, hf⟩ := qchk hf
      refine R_ald rfl sh_78 c2354 ?_
      refine R_ldA rfl rfl ?_
      refine R_get rfl sh_60 rfl rfl ?_
      refine R_ldI rfl rfl ?_
      refine R_I rfl ?_
      refine R_ldI rfl rfl ?_
      refine R_bin rfl ?_
      refine R_bin rfl ?_
      refine R_I rfl ?_
      refine R_bin rfl ?_
      obtain ⟨c2355, hf⟩ := qchk hf
      refine R_ald rfl sh_78 c2355 ?_
      refine R_ldA rfl rfl ?_
      refine R_get rfl sh_60 rfl rfl ?_
      refine R_ldI rfl rfl ?_
      refine R_I rfl ?_
      refine R_ldI rfl rfl ?_
      refine R_bin rfl ?_
      refine R_bin rfl ?_
      refine R_I rfl ?_
      refine R_bin rfl ?_
      obtain ⟨c2356, hf⟩ := qchk hf
      refine R_ald rfl sh_78 c2356 ?_
      obtain ⟨⟨x2358, h2357⟩, e2359, hf⟩ := qbind_some hf
      dsimp only at hf
      refine R_callVi (as := [.ref 60, .int (h 78 (l6 + ((3 : Int32) * l7)).toNatClampNeg), .int (h 78 ((l6 + ((3 : Int32) * l7)) + (1 : Int32)).toNatClampNeg), .int (h 78 ((l6 + ((3 : Int32) * l7)) + (2 : Int32)).toNatClampNeg)]) (rest := []) rfl rfl sh_60 rfl rfl rfl rfl (t_X6_sale (N := N) (by omega) (h 78 (l6 + ((3 : Int32) * l7)).toNatClampNeg) (h 78 ((l6 + ((3 : Int32) * l7)) + (1 : Int32)).toNatClampNeg) (h 78 ((l6 + ((3 : Int32) * l7)) + (2 : Int32)).toNatClampNeg) h e2359) ?_
      rcases qite hf with ⟨c2360, hf⟩ | ⟨c2360, hf⟩
      · refine R_IfLt_t rfl c2360 ?_
        refine R_drop [false, true, true, true, false, true, false, true] (ls' := [qU, qU, qU, qU, qU, qU, qU, .int l7]) rfl ?_
        obtain ⟨rfl, rfl⟩ := qinj2 hf
        exact hE
      · refine R_IfLt_f rfl c2360 ?_
        refine R_inc (ls' := [.ref 60, qU, qU, qU, .int l4, qU, .int l6, .int (l7 + (1 : Int32))]) rfl rfl rfl rfl ?_
        refine R_goto rfl ?_
        exact ih l4 l6 (l7 + (1 : Int32)) h2357 _ _ hf _ _ hE
def f_X6_deal (N : Nat) (a1 : Int32) (a2 : Int32) (a3 : Int32) (a4 : Int32) (h : qN) : Option (Int32 × qN) :=
  qbind (f_X6_isSheet a1 h) fun (x2338, h2337) =>
  if x2338 = 0 then
    some ((-1 : Int32), h2337)
  else
    qbind (f_X6_isLane a2 h2337) fun (x2342, h2341) =>
    if x2342 = 0 then
      some ((-1 : Int32), h2341)
    else
      qbind (f_X6_in a4.toInt64 (1 : Int64) (8 : Int64) h2341) fun (x2346, h2345) =>
      if x2346 = 0 then
        some ((-1 : Int32), h2345)
      else
        qbind (f_X6_finds a1 a2 a3 ((3 : Int32) * a4) h2345) fun (x2350, h2349) =>
        if 0 ≤ x2350 then
          qbind (f_X6_deal_L61 N a4 (((24 : Int32) * a1) + a3) N (0 : Int32) h2349) fun (x2362, h2363) =>
          some (x2362, h2363)
        else
          some (x2350, h2349)
set_option maxRecDepth 100000 in
theorem t_X6_deal {d N : Nat} (hd : 5 ≤ d) (a1 : Int32) (a2 : Int32) (a3 : Int32) (a4 : Int32)  (h : qN) {v0 : Int32} {h1 : qN} (hf : f_X6_deal N a1 a2 a3 a4 h = some (v0, h1)) : EE d 173 [.ref 60, .int a1, .int a2, .int a3, .int a4] h (some (.int v0)) h1 := by
  obtain ⟨d, rfl⟩ : ∃ d0, d = d0 + 1 := ⟨d - 1, by omega⟩
  unfold f_X6_deal at hf
  refine E_intro qm_173 qc_173 (Nat.le_of_ble_eq_true rfl) rfl rfl ?_
  show RR d cd_X6_deal (0, 0) 0 [.ref 60, .int a1, .int a2, .int a3, .int a4, qU, qU, qU] [] h (some (.int v0)) h1
  refine R_ldI rfl rfl ?_
  obtain ⟨⟨x2338, h2337⟩, e2339, hf⟩ := qbind_some hf
  dsimp only at hf
  refine R_callSi (as := [.int a1]) (rest := []) rfl rfl rfl rfl rfl rfl (t_X6_isSheet (by omega) a1 h e2339) ?_
  rcases qite hf with ⟨c2340, hf⟩ | ⟨c2340, hf⟩
  · refine R_IfEq_t rfl c2340 ?_
    refine R_I rfl ?_
    obtain ⟨rfl, rfl⟩ := qinj2 hf
    exact R_retI rfl
  · refine R_IfEq_f rfl c2340 ?_
    refine R_ldI rfl rfl ?_
    obtain ⟨⟨x2342, h2341⟩, e2343, hf⟩ := qbind_some hf
    dsimp only at hf
    refine R_callSi (as := [.int a2]) (rest := []) rfl rfl rfl rfl rfl rfl (t_X6_isLane (by omega) a2 h2337 e2343) ?_
    rcases qite hf with ⟨c2344, hf⟩ | ⟨c2344, hf⟩
    · refine R_IfEq_t rfl c2344 ?_
      refine R_I rfl ?_
      obtain ⟨rfl, rfl⟩ := qinj2 hf
      exact R_retI rfl
    · refine R_IfEq_f rfl c2344 ?_
      refine R_ldI rfl rfl ?_
      refine R_i2l rfl ?_
      refine R_L rfl ?_
      refine R_L rfl ?_
      obtain ⟨⟨x2346, h2345⟩, e2347, hf⟩ := qbind_some hf
      dsimp only at hf
      refine R_callSi (as := [.long a4.toInt64, .long (1 : Int64), .long (8 : Int64)]) (rest := []) rfl rfl rfl rfl rfl rfl (t_X6_in (by omega) a4.toInt64 (1 : Int64) (8 : Int64) h2341 e2347) ?_
      rcases qite hf with ⟨c2348, hf⟩ | ⟨c2348, hf⟩
      · refine R_IfNe_f rfl c2348 ?_
        refine R_I rfl ?_
        obtain ⟨rfl, rfl⟩ := qinj2 hf
        exact R_retI rfl
      · refine R_IfNe_t rfl c2348 ?_
        refine R_ldA rfl rfl ?_
        refine R_ldI rfl rfl ?_
        refine R_ldI rfl rfl ?_
        refine R_ldI rfl rfl ?_
        refine R_I rfl ?_
        refine R_ldI rfl rfl ?_
        refine R_bin rfl ?_
        obtain ⟨⟨x2350, h2349⟩, e2351, hf⟩ := qbind_some hf
        dsimp only at hf
        refine R_callVi (as := [.ref 60, .int a1, .int a2, .int a3, .int ((3 : Int32) * a4)]) (rest := []) rfl rfl sh_60 rfl rfl rfl rfl (t_X6_finds (by omega) a1 a2 a3 ((3 : Int32) * a4) h2345 e2351) ?_
        refine R_stI (ls' := [.ref 60, .int a1, .int a2, .int a3, .int a4, .int x2350, qU, qU]) rfl rfl rfl rfl ?_
        refine R_ldI rfl rfl ?_
        rcases qite hf with ⟨c2352, hf⟩ | ⟨c2352, hf⟩
        · refine R_IfGe_t rfl c2352 ?_
          refine R_I rfl ?_
          refine R_ldI rfl rfl ?_
          refine R_bin rfl ?_
          refine R_ldI rfl rfl ?_
          refine R_bin rfl ?_
          refine R_stI (ls' := [.ref 60, .int a1, .int a2, .int a3, .int a4, .int x2350, .int (((24 : Int32) * a1) + a3), qU]) rfl rfl rfl rfl ?_
          refine R_I rfl ?_
          refine R_stI (ls' := [.ref 60, .int a1, .int a2, .int a3, .int a4, .int x2350, .int (((24 : Int32) * a1) + a3), .int (0 : Int32)]) rfl rfl rfl rfl ?_
          refine R_drop [true, false, false, false, true, false, true, true] (ls' := [.ref 60, qU, qU, qU, .int a4, qU, .int (((24 : Int32) * a1) + a3), .int (0 : Int32)]) rfl ?_
          obtain ⟨⟨x2362, h2363⟩, e2364, hf⟩ := qbind_some hf
          dsimp only at hf
          refine t_X6_deal_L61 (N := N) (by omega) _ a4 (((24 : Int32) * a1) + a3) (0 : Int32) h2349 x2362 h2363 e2364 _ _ ?_
          refine R_ldI rfl rfl ?_
          obtain ⟨rfl, rfl⟩ := qinj2 hf
          exact R_retI rfl
        · refine R_IfGe_f rfl c2352 ?_
          refine R_ldI rfl rfl ?_
          obtain ⟨rfl, rfl⟩ := qinj2 hf
          exact R_retI rfl
def f_X6_sheet_L46 (N : Nat) (l1 : Int32) (l3 : Int32) : Nat → Int32 → qN → Option (qN)
  | 0, _, _ => none
  | n + 1, l4, h =>
    if (24 : Int32) ≤ l4 then
      some h
    else
      if (((24 : Int32) * l1) + l4) < 0 ∨ 96 ≤ (((24 : Int32) * l1) + l4).toNatClampNeg then none else
      f_X6_sheet_L46 N l1 l3 n (l4 + (1 : Int32)) (qup h 78 (((24 : Int32) * l1) + l4).toNatClampNeg (0 : Int32))
set_option maxRecDepth 100000 in
theorem t_X6_sheet_L46 {d N : Nat} (hd : 2 ≤ d) : ∀ (n : Nat) (l1 : Int32) (l3 : Int32) (l4 : Int32) (h : qN) (h2 : qN), f_X6_sheet_L46 N l1 l3 n l4 h = some h2 → ∀ (v : Option Value) (h1 : qN), RR d cd_X6_sheet (0, 0) 72 [qU, qU, qU, .int l3, qU] [] h2 v h1 → RR d cd_X6_sheet (0, 0) 46 [.ref 60, .int l1, qU, .int l3, .int l4] [] h v h1 := by
  intro n
  induction n with
  | zero =>
    intro l1 l3 l4 h h2 hf v h1 hE
    exact absurd hf (by simp [f_X6_sheet_L46])
  | succ n ih =>
    intro l1 l3 l4 h h2 hf v h1 hE
    unfold f_X6_sheet_L46 at hf
    refine R_ldI rfl rfl ?_
    refine R_I rfl ?_
    rcases qite hf with ⟨c2379, hf⟩ | ⟨c2379, hf⟩
    · refine R_CmGe_t rfl c2379 ?_
      refine R_drop [false, false, true, true, false] (ls' := [qU, qU, qU, .int l3, qU]) rfl ?_
      obtain rfl := Option.some.inj hf
      exact hE
    · refine R_CmGe_f rfl c2379 ?_
      refine R_ldA rfl rfl ?_
      refine R_get rfl sh_60 rfl rfl ?_
      refine R_I rfl ?_
      refine R_ldI rfl rfl ?_
      refine R_bin rfl ?_
      refine R_ldI rfl rfl ?_
      refine R_bin rfl ?_
      refine R_I rfl ?_
      obtain ⟨c2380, hf⟩ := qchk hf
      refine R_ast rfl sh_78 c2380 ?_
      refine R_inc (ls' := [.ref 60, .int l1, qU, .int l3, .int (l4 + (1 : Int32))]) rfl rfl rfl rfl ?_
      refine R_goto rfl ?_
      exact ih l1 l3 (l4 + (1 : Int32)) (qup h 78 (((24 : Int32) * l1) + l4).toNatClampNeg (0 : Int32)) _ hf _ _ hE
def f_X6_sheet (N : Nat) (a1 : Int32) (a2 : Int32) (a3 : Int32) (h : qN) : Option (Int32 × qN) :=
  qbind (f_X6_isSheet a1 h) fun (x2368, h2367) =>
  if x2368 = 0 then
    some ((-1 : Int32), h2367)
  else
    qbind (f_X6_isLane a2 h2367) fun (x2372, h2371) =>
    if x2372 = 0 then
      some ((-1 : Int32), h2371)
    else
      if a3 ≤ (24 : Int32) then
        if 0 ≤ a3 then
          if a1 < 0 ∨ 4 ≤ a1.toNatClampNeg then none else
          if a1 < 0 ∨ 4 ≤ a1.toNatClampNeg then none else
          qbind (f_X6_sheet_L46 N a1 a3 N (0 : Int32) (qup (qup h2371 76 a1.toNatClampNeg a2) 77 a1.toNatClampNeg a3)) fun h2382 =>
          some (a3, h2382)
        else
          some ((-14 : Int32), h2371)
      else
        some ((-1 : Int32), h2371)
set_option maxRecDepth 100000 in
theorem t_X6_sheet {d N : Nat} (hd : 3 ≤ d) (a1 : Int32) (a2 : Int32) (a3 : Int32)  (h : qN) {v0 : Int32} {h1 : qN} (hf : f_X6_sheet N a1 a2 a3 h = some (v0, h1)) : EE d 174 [.ref 60, .int a1, .int a2, .int a3] h (some (.int v0)) h1 := by
  obtain ⟨d, rfl⟩ : ∃ d0, d = d0 + 1 := ⟨d - 1, by omega⟩
  unfold f_X6_sheet at hf
  refine E_intro qm_174 qc_174 (Nat.le_of_ble_eq_true rfl) rfl rfl ?_
  show RR d cd_X6_sheet (0, 0) 0 [.ref 60, .int a1, .int a2, .int a3, qU] [] h (some (.int v0)) h1
  refine R_ldI rfl rfl ?_
  obtain ⟨⟨x2368, h2367⟩, e2369, hf⟩ := qbind_some hf
  dsimp only at hf
  refine R_callSi (as := [.int a1]) (rest := []) rfl rfl rfl rfl rfl rfl (t_X6_isSheet (by omega) a1 h e2369) ?_
  rcases qite hf with ⟨c2370, hf⟩ | ⟨c2370, hf⟩
  · refine R_IfEq_t rfl c2370 ?_
    refine R_I rfl ?_
    obtain ⟨rfl, rfl⟩ := qinj2 hf
    exact R_retI rfl
  · refine R_IfEq_f rfl c2370 ?_
    refine R_ldI rfl rfl ?_
    obtain ⟨⟨x2372, h2371⟩, e2373, hf⟩ := qbind_some hf
    dsimp only at hf
    refine R_callSi (as := [.int a2]) (rest := []) rfl rfl rfl rfl rfl rfl (t_X6_isLane (by omega) a2 h2367 e2373) ?_
    rcases qite hf with ⟨c2374, hf⟩ | ⟨c2374, hf⟩
    · refine R_IfEq_t rfl c2374 ?_
      refine R_I rfl ?_
      obtain ⟨rfl, rfl⟩ := qinj2 hf
      exact R_retI rfl
    · refine R_IfEq_f rfl c2374 ?_
      refine R_ldI rfl rfl ?_
      refine R_I rfl ?_
      rcases qite hf with ⟨c2375, hf⟩ | ⟨c2375, hf⟩
      · refine R_CmLe_t rfl c2375 ?_
        refine R_ldI rfl rfl ?_
        rcases qite hf with ⟨c2376, hf⟩ | ⟨c2376, hf⟩
        · refine R_IfGe_t rfl c2376 ?_
          refine R_ldA rfl rfl ?_
          refine R_get rfl sh_60 rfl rfl ?_
          refine R_ldI rfl rfl ?_
          refine R_ldI rfl rfl ?_
          obtain ⟨c2377, hf⟩ := qchk hf
          refine R_ast rfl sh_76 c2377 ?_
          refine R_ldA rfl rfl ?_
          refine R_get rfl sh_60 rfl rfl ?_
          refine R_ldI rfl rfl ?_
          refine R_ldI rfl rfl ?_
          obtain ⟨c2378, hf⟩ := qchk hf
          refine R_ast rfl sh_77 c2378 ?_
          refine R_I rfl ?_
          refine R_stI (ls' := [.ref 60, .int a1, .int a2, .int a3, .int (0 : Int32)]) rfl rfl rfl rfl ?_
          refine R_drop [true, true, false, true, true] (ls' := [.ref 60, .int a1, qU, .int a3, .int (0 : Int32)]) rfl ?_
          obtain ⟨h2382, e2383, hf⟩ := qbind_some hf
          refine t_X6_sheet_L46 (N := N) (by omega) _ a1 a3 (0 : Int32) (qup (qup h2371 76 a1.toNatClampNeg a2) 77 a1.toNatClampNeg a3) h2382 e2383 _ _ ?_
          refine R_ldI rfl rfl ?_
          obtain ⟨rfl, rfl⟩ := qinj2 hf
          exact R_retI rfl
        · refine R_IfGe_f rfl c2376 ?_
          refine R_I rfl ?_
          obtain ⟨rfl, rfl⟩ := qinj2 hf
          exact R_retI rfl
      · refine R_CmLe_f rfl c2375 ?_
        refine R_I rfl ?_
        obtain ⟨rfl, rfl⟩ := qinj2 hf
        exact R_retI rfl
def f_X6_drop (a1 : Int32) (h : qN) : Option (Int32 × qN) :=
  qbind (f_X6_isSheet a1 h) fun (x2387, h2386) =>
  if x2387 = 0 then
    some ((-1 : Int32), h2386)
  else
    if a1 < 0 ∨ 4 ≤ a1.toNatClampNeg then none else
    if 0 ≤ (h2386 76 a1.toNatClampNeg) then
      if a1 < 0 ∨ 4 ≤ a1.toNatClampNeg then none else
      if a1 < 0 ∨ 4 ≤ a1.toNatClampNeg then none else
      some (((qup h2386 76 a1.toNatClampNeg (-1 : Int32)) 77 a1.toNatClampNeg), (qup h2386 76 a1.toNatClampNeg (-1 : Int32)))
    else
      some ((-11 : Int32), h2386)
set_option maxRecDepth 100000 in
theorem t_X6_drop {d : Nat} (hd : 3 ≤ d) (a1 : Int32)  (h : qN) {v0 : Int32} {h1 : qN} (hf : f_X6_drop a1 h = some (v0, h1)) : EE d 175 [.ref 60, .int a1] h (some (.int v0)) h1 := by
  obtain ⟨d, rfl⟩ : ∃ d0, d = d0 + 1 := ⟨d - 1, by omega⟩
  unfold f_X6_drop at hf
  refine E_intro qm_175 qc_175 (Nat.le_of_ble_eq_true rfl) rfl rfl ?_
  show RR d cd_X6_drop (0, 0) 0 [.ref 60, .int a1] [] h (some (.int v0)) h1
  refine R_ldI rfl rfl ?_
  obtain ⟨⟨x2387, h2386⟩, e2388, hf⟩ := qbind_some hf
  dsimp only at hf
  refine R_callSi (as := [.int a1]) (rest := []) rfl rfl rfl rfl rfl rfl (t_X6_isSheet (by omega) a1 h e2388) ?_
  rcases qite hf with ⟨c2389, hf⟩ | ⟨c2389, hf⟩
  · refine R_IfNe_f rfl c2389 ?_
    refine R_I rfl ?_
    obtain ⟨rfl, rfl⟩ := qinj2 hf
    exact R_retI rfl
  · refine R_IfNe_t rfl c2389 ?_
    refine R_ldA rfl rfl ?_
    refine R_get rfl sh_60 rfl rfl ?_
    refine R_ldI rfl rfl ?_
    obtain ⟨c2390, hf⟩ := qchk hf
    refine R_ald rfl sh_76 c2390 ?_
    rcases qite hf with ⟨c2391, hf⟩ | ⟨c2391, hf⟩
    · refine R_IfGe_t rfl c2391 ?_
      refine R_ldA rfl rfl ?_
      refine R_get rfl sh_60 rfl rfl ?_
      refine R_ldI rfl rfl ?_
      refine R_I rfl ?_
      obtain ⟨c2392, hf⟩ := qchk hf
      refine R_ast rfl sh_76 c2392 ?_
      refine R_ldA rfl rfl ?_
      refine R_get rfl sh_60 rfl rfl ?_
      refine R_ldI rfl rfl ?_
      obtain ⟨c2393, hf⟩ := qchk hf
      refine R_ald rfl sh_77 c2393 ?_
      obtain ⟨rfl, rfl⟩ := qinj2 hf
      exact R_retI rfl
    · refine R_IfGe_f rfl c2391 ?_
      refine R_I rfl ?_
      obtain ⟨rfl, rfl⟩ := qinj2 hf
      exact R_retI rfl
def f_X6_item (a1 : Int32) (a2 : Int32) (a3 : Int32) (a4 : Int32) (h : qN) : Option (Int32 × qN) :=
  qbind (f_X6_isSheet a1 h) fun (x2395, h2394) =>
  if x2395 = 0 then
    some ((-1 : Int32), h2394)
  else
    qbind (f_X6_isLane a2 h2394) fun (x2399, h2398) =>
    if x2399 = 0 then
      some ((-1 : Int32), h2398)
    else
      qbind (f_X6_finds a1 a2 a3 (1 : Int32) h2398) fun (x2403, h2402) =>
      if 0 ≤ x2403 then
        if a2 = 0 then
          if (((24 : Int32) * a1) + a3) < 0 ∨ 96 ≤ (((24 : Int32) * a1) + a3).toNatClampNeg then none else
          some ((1 : Int32), (qup h2402 78 (((24 : Int32) * a1) + a3).toNatClampNeg a4.toInt8.toInt32))
        else
          if a2 = (1 : Int32) then
            if (((24 : Int32) * a1) + a3) < 0 ∨ 96 ≤ (((24 : Int32) * a1) + a3).toNatClampNeg then none else
            some ((1 : Int32), (qup h2402 78 (((24 : Int32) * a1) + a3).toNatClampNeg a4.toInt16.toInt32))
          else
            if (((24 : Int32) * a1) + a3) < 0 ∨ 96 ≤ (((24 : Int32) * a1) + a3).toNatClampNeg then none else
            some ((1 : Int32), (qup h2402 78 (((24 : Int32) * a1) + a3).toNatClampNeg a4))
      else
        some (x2403, h2402)
set_option maxRecDepth 100000 in
theorem t_X6_item {d : Nat} (hd : 3 ≤ d) (a1 : Int32) (a2 : Int32) (a3 : Int32) (a4 : Int32)  (h : qN) {v0 : Int32} {h1 : qN} (hf : f_X6_item a1 a2 a3 a4 h = some (v0, h1)) : EE d 176 [.ref 60, .int a1, .int a2, .int a3, .int a4] h (some (.int v0)) h1 := by
  obtain ⟨d, rfl⟩ : ∃ d0, d = d0 + 1 := ⟨d - 1, by omega⟩
  unfold f_X6_item at hf
  refine E_intro qm_176 qc_176 (Nat.le_of_ble_eq_true rfl) rfl rfl ?_
  show RR d cd_X6_item (0, 0) 0 [.ref 60, .int a1, .int a2, .int a3, .int a4, qU] [] h (some (.int v0)) h1
  refine R_ldI rfl rfl ?_
  obtain ⟨⟨x2395, h2394⟩, e2396, hf⟩ := qbind_some hf
  dsimp only at hf
  refine R_callSi (as := [.int a1]) (rest := []) rfl rfl rfl rfl rfl rfl (t_X6_isSheet (by omega) a1 h e2396) ?_
  rcases qite hf with ⟨c2397, hf⟩ | ⟨c2397, hf⟩
  · refine R_IfEq_t rfl c2397 ?_
    refine R_I rfl ?_
    obtain ⟨rfl, rfl⟩ := qinj2 hf
    exact R_retI rfl
  · refine R_IfEq_f rfl c2397 ?_
    refine R_ldI rfl rfl ?_
    obtain ⟨⟨x2399, h2398⟩, e2400, hf⟩ := qbind_some hf
    dsimp only at hf
    refine R_callSi (as := [.int a2]) (rest := []) rfl rfl rfl rfl rfl rfl (t_X6_isLane (by omega) a2 h2394 e2400) ?_
    rcases qite hf with ⟨c2401, hf⟩ | ⟨c2401, hf⟩
    · refine R_IfNe_f rfl c2401 ?_
      refine R_I rfl ?_
      obtain ⟨rfl, rfl⟩ := qinj2 hf
      exact R_retI rfl
    · refine R_IfNe_t rfl c2401 ?_
      refine R_ldA rfl rfl ?_
      refine R_ldI rfl rfl ?_
      refine R_ldI rfl rfl ?_
      refine R_ldI rfl rfl ?_
      refine R_I rfl ?_
      obtain ⟨⟨x2403, h2402⟩, e2404, hf⟩ := qbind_some hf
      dsimp only at hf
      refine R_callVi (as := [.ref 60, .int a1, .int a2, .int a3, .int (1 : Int32)]) (rest := []) rfl rfl sh_60 rfl rfl rfl rfl (t_X6_finds (by omega) a1 a2 a3 (1 : Int32) h2398 e2404) ?_
      refine R_stI (ls' := [.ref 60, .int a1, .int a2, .int a3, .int a4, .int x2403]) rfl rfl rfl rfl ?_
      refine R_ldI rfl rfl ?_
      rcases qite hf with ⟨c2405, hf⟩ | ⟨c2405, hf⟩
      · refine R_IfGe_t rfl c2405 ?_
        refine R_ldA rfl rfl ?_
        refine R_get rfl sh_60 rfl rfl ?_
        refine R_I rfl ?_
        refine R_ldI rfl rfl ?_
        refine R_bin rfl ?_
        refine R_ldI rfl rfl ?_
        refine R_bin rfl ?_
        refine R_ldI rfl rfl ?_
        rcases qite hf with ⟨c2406, hf⟩ | ⟨c2406, hf⟩
        · refine R_IfNe_f rfl c2406 ?_
          refine R_ldI rfl rfl ?_
          refine R_un rfl ?_
          refine R_goto rfl ?_
          obtain ⟨c2407, hf⟩ := qchk hf
          refine R_ast rfl sh_78 c2407 ?_
          refine R_I rfl ?_
          obtain ⟨rfl, rfl⟩ := qinj2 hf
          exact R_retI rfl
        · refine R_IfNe_t rfl c2406 ?_
          refine R_ldI rfl rfl ?_
          refine R_I rfl ?_
          rcases qite hf with ⟨c2408, hf⟩ | ⟨c2408, hf⟩
          · refine R_CmNe_f rfl c2408 ?_
            refine R_ldI rfl rfl ?_
            refine R_un rfl ?_
            refine R_goto rfl ?_
            obtain ⟨c2409, hf⟩ := qchk hf
            refine R_ast rfl sh_78 c2409 ?_
            refine R_I rfl ?_
            obtain ⟨rfl, rfl⟩ := qinj2 hf
            exact R_retI rfl
          · refine R_CmNe_t rfl c2408 ?_
            refine R_ldI rfl rfl ?_
            obtain ⟨c2410, hf⟩ := qchk hf
            refine R_ast rfl sh_78 c2410 ?_
            refine R_I rfl ?_
            obtain ⟨rfl, rfl⟩ := qinj2 hf
            exact R_retI rfl
      · refine R_IfGe_f rfl c2405 ?_
        refine R_ldI rfl rfl ?_
        obtain ⟨rfl, rfl⟩ := qinj2 hf
        exact R_retI rfl
