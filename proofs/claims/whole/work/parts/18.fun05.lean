def f_X6_in (a0 : Int64) (a2 : Int64) (a4 : Int64) (h : qN) : Option (Int32 × qN) :=
  if (lg_cmp a0 a2) < 0 then
    some ((0 : Int32), h)
  else
    if 0 < (lg_cmp a0 a4) then
      some ((0 : Int32), h)
    else
      some ((1 : Int32), h)
set_option maxRecDepth 100000 in
theorem t_X6_in {d : Nat} (hd : 1 ≤ d) (a0 : Int64) (a2 : Int64) (a4 : Int64)  (h : qN) {v0 : Int32} {h1 : qN} (hf : f_X6_in a0 a2 a4 h = some (v0, h1)) : EE d 102 [.long a0, .long a2, .long a4] h (some (.int v0)) h1 := by
  obtain ⟨d, rfl⟩ : ∃ d0, d = d0 + 1 := ⟨d - 1, by omega⟩
  unfold f_X6_in at hf
  refine E_intro qm_102 qc_102 (Nat.le_of_ble_eq_true rfl) rfl rfl ?_
  show RR d cd_X6_in (0, 0) 0 [.long a0, qU, .long a2, qU, .long a4, qU] [] h (some (.int v0)) h1
  refine R_ldL rfl rfl ?_
  refine R_ldL rfl rfl ?_
  refine R_lcmp rfl ?_
  rcases qite hf with ⟨c1170, hf⟩ | ⟨c1170, hf⟩
  · refine R_IfLt_t rfl c1170 ?_
    refine R_I rfl ?_
    obtain ⟨rfl, rfl⟩ := qinj2 hf
    exact R_retZ rfl (by decide)
  · refine R_IfLt_f rfl c1170 ?_
    refine R_ldL rfl rfl ?_
    refine R_ldL rfl rfl ?_
    refine R_lcmp rfl ?_
    rcases qite hf with ⟨c1171, hf⟩ | ⟨c1171, hf⟩
    · refine R_IfGt_t rfl c1171 ?_
      refine R_I rfl ?_
      obtain ⟨rfl, rfl⟩ := qinj2 hf
      exact R_retZ rfl (by decide)
    · refine R_IfGt_f rfl c1171 ?_
      refine R_I rfl ?_
      refine R_goto rfl ?_
      obtain ⟨rfl, rfl⟩ := qinj2 hf
      exact R_retZ rfl (by decide)
def f_X6_isPerson (a0 : Int32) (h : qN) : Option (Int32 × qN) :=
  qbind (f_X6_in a0.toInt64 (0 : Int64) (5 : Int64) h) fun (x1173, h1172) =>
  if x1173 = 0 ∨ x1173 = 1 then
    some (x1173, h1172)
  else none
set_option maxRecDepth 100000 in
theorem t_X6_isPerson {d : Nat} (hd : 2 ≤ d) (a0 : Int32)  (h : qN) {v0 : Int32} {h1 : qN} (hf : f_X6_isPerson a0 h = some (v0, h1)) : EE d 104 [.int a0] h (some (.int v0)) h1 := by
  obtain ⟨d, rfl⟩ : ∃ d0, d = d0 + 1 := ⟨d - 1, by omega⟩
  unfold f_X6_isPerson at hf
  refine E_intro qm_104 qc_104 (Nat.le_of_ble_eq_true rfl) rfl rfl ?_
  show RR d cd_X6_isPerson (0, 0) 0 [.int a0] [] h (some (.int v0)) h1
  refine R_ldI rfl rfl ?_
  refine R_i2l rfl ?_
  refine R_L rfl ?_
  refine R_L rfl ?_
  obtain ⟨⟨x1173, h1172⟩, e1174, hf⟩ := qbind_some hf
  dsimp only at hf
  refine R_callSi (as := [.long a0.toInt64, .long (0 : Int64), .long (5 : Int64)]) (rest := []) rfl rfl rfl rfl rfl rfl (t_X6_in (by omega) a0.toInt64 (0 : Int64) (5 : Int64) h e1174) ?_
  obtain ⟨c1175, hf⟩ := qreq hf
  obtain ⟨rfl, rfl⟩ := qinj2 hf
  exact R_retZ rfl c1175
def f_X6_isThing (a1 : Int32) (h : qN) : Option (Int32 × qN) :=
  qbind (f_X6_in a1.toInt64 (0 : Int64) ((h 60 3) - (1 : Int32)).toInt64 h) fun (x1177, h1176) =>
  if x1177 = 0 ∨ x1177 = 1 then
    some (x1177, h1176)
  else none
set_option maxRecDepth 100000 in
theorem t_X6_isThing {d : Nat} (hd : 2 ≤ d) (a1 : Int32)  (h : qN) {v0 : Int32} {h1 : qN} (hf : f_X6_isThing a1 h = some (v0, h1)) : EE d 105 [.ref 60, .int a1] h (some (.int v0)) h1 := by
  obtain ⟨d, rfl⟩ : ∃ d0, d = d0 + 1 := ⟨d - 1, by omega⟩
  unfold f_X6_isThing at hf
  refine E_intro qm_105 qc_105 (Nat.le_of_ble_eq_true rfl) rfl rfl ?_
  show RR d cd_X6_isThing (0, 0) 0 [.ref 60, .int a1] [] h (some (.int v0)) h1
  refine R_ldI rfl rfl ?_
  refine R_i2l rfl ?_
  refine R_L rfl ?_
  refine R_ldA rfl rfl ?_
  refine R_get rfl sh_60 rfl rfl ?_
  refine R_I rfl ?_
  refine R_bin rfl ?_
  refine R_i2l rfl ?_
  obtain ⟨⟨x1177, h1176⟩, e1178, hf⟩ := qbind_some hf
  dsimp only at hf
  refine R_callSi (as := [.long a1.toInt64, .long (0 : Int64), .long ((h 60 3) - (1 : Int32)).toInt64]) (rest := []) rfl rfl rfl rfl rfl rfl (t_X6_in (by omega) a1.toInt64 (0 : Int64) ((h 60 3) - (1 : Int32)).toInt64 h e1178) ?_
  obtain ⟨c1179, hf⟩ := qreq hf
  obtain ⟨rfl, rfl⟩ := qinj2 hf
  exact R_retZ rfl c1179
def f_X6_isSide (a1 : Int32) (h : qN) : Option (Int32 × qN) :=
  qbind (f_X6_isThing a1 h) fun (x1181, h1180) =>
  if x1181 = 0 then
    qbind (f_X6_in a1.toInt64 (10 : Int64) (15 : Int64) h1180) fun (x1185, h1184) =>
    if x1185 = 0 then
      some ((0 : Int32), h1184)
    else
      some ((1 : Int32), h1184)
  else
    some ((1 : Int32), h1180)
set_option maxRecDepth 100000 in
theorem t_X6_isSide {d : Nat} (hd : 3 ≤ d) (a1 : Int32)  (h : qN) {v0 : Int32} {h1 : qN} (hf : f_X6_isSide a1 h = some (v0, h1)) : EE d 106 [.ref 60, .int a1] h (some (.int v0)) h1 := by
  obtain ⟨d, rfl⟩ : ∃ d0, d = d0 + 1 := ⟨d - 1, by omega⟩
  unfold f_X6_isSide at hf
  refine E_intro qm_106 qc_106 (Nat.le_of_ble_eq_true rfl) rfl rfl ?_
  show RR d cd_X6_isSide (0, 0) 0 [.ref 60, .int a1] [] h (some (.int v0)) h1
  refine R_ldA rfl rfl ?_
  refine R_ldI rfl rfl ?_
  obtain ⟨⟨x1181, h1180⟩, e1182, hf⟩ := qbind_some hf
  dsimp only at hf
  refine R_callVi (as := [.ref 60, .int a1]) (rest := []) rfl rfl sh_60 rfl rfl rfl rfl (t_X6_isThing (by omega) a1 h e1182) ?_
  rcases qite hf with ⟨c1183, hf⟩ | ⟨c1183, hf⟩
  · refine R_IfNe_f rfl c1183 ?_
    refine R_ldI rfl rfl ?_
    refine R_i2l rfl ?_
    refine R_L rfl ?_
    refine R_L rfl ?_
    obtain ⟨⟨x1185, h1184⟩, e1186, hf⟩ := qbind_some hf
    dsimp only at hf
    refine R_callSi (as := [.long a1.toInt64, .long (10 : Int64), .long (15 : Int64)]) (rest := []) rfl rfl rfl rfl rfl rfl (t_X6_in (by omega) a1.toInt64 (10 : Int64) (15 : Int64) h1180 e1186) ?_
    rcases qite hf with ⟨c1187, hf⟩ | ⟨c1187, hf⟩
    · refine R_IfEq_t rfl c1187 ?_
      refine R_I rfl ?_
      obtain ⟨rfl, rfl⟩ := qinj2 hf
      exact R_retZ rfl (by decide)
    · refine R_IfEq_f rfl c1187 ?_
      refine R_I rfl ?_
      refine R_goto rfl ?_
      obtain ⟨rfl, rfl⟩ := qinj2 hf
      exact R_retZ rfl (by decide)
  · refine R_IfNe_t rfl c1183 ?_
    refine R_I rfl ?_
    refine R_goto rfl ?_
    obtain ⟨rfl, rfl⟩ := qinj2 hf
    exact R_retZ rfl (by decide)
def f_X6_stands (a1 : Int32) (h : qN) : Option (Int32 × qN) :=
  if (10 : Int32) ≤ a1 then
    some ((a1 - (10 : Int32)), h)
  else
    if a1 < 0 ∨ 8 ≤ a1.toNatClampNeg then none else
    some ((h 64 a1.toNatClampNeg), h)
set_option maxRecDepth 100000 in
theorem t_X6_stands {d : Nat} (hd : 1 ≤ d) (a1 : Int32)  (h : qN) {v0 : Int32} {h1 : qN} (hf : f_X6_stands a1 h = some (v0, h1)) : EE d 107 [.ref 60, .int a1] h (some (.int v0)) h1 := by
  obtain ⟨d, rfl⟩ : ∃ d0, d = d0 + 1 := ⟨d - 1, by omega⟩
  unfold f_X6_stands at hf
  refine E_intro qm_107 qc_107 (Nat.le_of_ble_eq_true rfl) rfl rfl ?_
  show RR d cd_X6_stands (0, 0) 0 [.ref 60, .int a1] [] h (some (.int v0)) h1
  refine R_ldI rfl rfl ?_
  refine R_I rfl ?_
  rcases qite hf with ⟨c1188, hf⟩ | ⟨c1188, hf⟩
  · refine R_CmGe_t rfl c1188 ?_
    refine R_ldI rfl rfl ?_
    refine R_I rfl ?_
    refine R_bin rfl ?_
    obtain ⟨rfl, rfl⟩ := qinj2 hf
    exact R_retI rfl
  · refine R_CmGe_f rfl c1188 ?_
    refine R_ldA rfl rfl ?_
    refine R_get rfl sh_60 rfl rfl ?_
    refine R_ldI rfl rfl ?_
    obtain ⟨c1189, hf⟩ := qchk hf
    refine R_ald rfl sh_64 c1189 ?_
    refine R_goto rfl ?_
    obtain ⟨rfl, rfl⟩ := qinj2 hf
    exact R_retI rfl
def f_X6_isOver (a1 : Int32) (h : qN) : Option (Int32 × qN) :=
  if (((h 60 9) >>> (a1 &&& 31)) &&& (1 : Int32)) = (1 : Int32) then
    some ((1 : Int32), h)
  else
    some ((0 : Int32), h)
set_option maxRecDepth 100000 in
theorem t_X6_isOver {d : Nat} (hd : 1 ≤ d) (a1 : Int32)  (h : qN) {v0 : Int32} {h1 : qN} (hf : f_X6_isOver a1 h = some (v0, h1)) : EE d 108 [.ref 60, .int a1] h (some (.int v0)) h1 := by
  obtain ⟨d, rfl⟩ : ∃ d0, d = d0 + 1 := ⟨d - 1, by omega⟩
  unfold f_X6_isOver at hf
  refine E_intro qm_108 qc_108 (Nat.le_of_ble_eq_true rfl) rfl rfl ?_
  show RR d cd_X6_isOver (0, 0) 0 [.ref 60, .int a1] [] h (some (.int v0)) h1
  refine R_ldA rfl rfl ?_
  refine R_get rfl sh_60 rfl rfl ?_
  refine R_ldI rfl rfl ?_
  refine R_bin rfl ?_
  refine R_I rfl ?_
  refine R_bin rfl ?_
  refine R_I rfl ?_
  rcases qite hf with ⟨c1190, hf⟩ | ⟨c1190, hf⟩
  · refine R_CmNe_f rfl c1190 ?_
    refine R_I rfl ?_
    refine R_goto rfl ?_
    obtain ⟨rfl, rfl⟩ := qinj2 hf
    exact R_retZ rfl (by decide)
  · refine R_CmNe_t rfl c1190 ?_
    refine R_I rfl ?_
    obtain ⟨rfl, rfl⟩ := qinj2 hf
    exact R_retZ rfl (by decide)
def f_X6_ends_L4 (N : Nat) : Nat → Int32 → Int32 → qN → Option (Int32 × qN)
  | 0, _, _, _ => none
  | n + 1, l1, l2, h =>
    if (h 60 6) ≤ l2 then
      some (l1, h)
    else
      if l2 < 0 ∨ 12 ≤ l2.toNatClampNeg then none else
      qbind (f_X6_stands (h 66 l2.toNatClampNeg) h) fun (x1194, h1193) =>
      if l2 < 0 ∨ 12 ≤ l2.toNatClampNeg then none else
      qbind (f_X6_stands (h1193 67 l2.toNatClampNeg) h1193) fun (x1198, h1197) =>
      qbind (
          if (if x1194 = x1198 then (if x1194 < (6 : Int32) then (1 : Int32) else (if (h1197 63 1) = (1 : Int32) then (if x1194 = (6 : Int32) then (1 : Int32) else (if x1198 = (6 : Int32) then (1 : Int32) else (0 : Int32))) else (0 : Int32))) else (if (h1197 63 1) = (1 : Int32) then (if x1194 = (6 : Int32) then (1 : Int32) else (if x1198 = (6 : Int32) then (1 : Int32) else (0 : Int32))) else (0 : Int32))) = 0 then
            some ((0 : Int32), h1197)
          else
            qbind (f_X6_isOver l2 h1197) fun (x1210, h1209) =>
            if x1210 = 0 then
              some ((1 : Int32), h1209)
            else
              some ((0 : Int32), h1209) : Option (Int32 × qN)) fun (x1213, h1214) =>
      f_X6_ends_L4 N n (l1 + x1213) (l2 + (1 : Int32)) (qup h1214 60 9 ((h1214 60 9) ||| (if (if x1194 = x1198 then (if x1194 < (6 : Int32) then (1 : Int32) else (if (h1197 63 1) = (1 : Int32) then (if x1194 = (6 : Int32) then (1 : Int32) else (if x1198 = (6 : Int32) then (1 : Int32) else (0 : Int32))) else (0 : Int32))) else (if (h1197 63 1) = (1 : Int32) then (if x1194 = (6 : Int32) then (1 : Int32) else (if x1198 = (6 : Int32) then (1 : Int32) else (0 : Int32))) else (0 : Int32))) = 0 then (0 : Int32) else ((1 : Int32) <<< (l2 &&& 31)))))
set_option maxRecDepth 100000 in
theorem t_X6_ends_L4 {d N : Nat} (hd : 1 ≤ d) : ∀ (n : Nat) (l1 : Int32) (l2 : Int32) (h : qN) (y1 : Int32) (h2 : qN), f_X6_ends_L4 N n l1 l2 h = some (y1, h2) → ∀ (v : Option Value) (h1 : qN), RR d cd_X6_ends (0, 0) 125 [qU, .int y1, qU, qU, qU, qU] [] h2 v h1 → RR d cd_X6_ends (0, 0) 4 [.ref 60, .int l1, .int l2, qU, qU, qU] [] h v h1 := by
  intro n
  induction n with
  | zero =>
    intro l1 l2 h y1 h2 hf v h1 hE
    exact absurd hf (by simp [f_X6_ends_L4])
  | succ n ih =>
    intro l1 l2 h y1 h2 hf v h1 hE
    unfold f_X6_ends_L4 at hf
    refine R_ldI rfl rfl ?_
    refine R_ldA rfl rfl ?_
    refine R_get rfl sh_60 rfl rfl ?_
    rcases qite hf with ⟨c1191, hf⟩ | ⟨c1191, hf⟩
    · refine R_CmGe_t rfl c1191 ?_
      refine R_drop [false, true, false, true, true, true] (ls' := [qU, .int l1, qU, qU, qU, qU]) rfl ?_
      obtain ⟨rfl, rfl⟩ := qinj2 hf
      exact hE
    · refine R_CmGe_f rfl c1191 ?_
      refine R_ldA rfl rfl ?_
      refine R_ldA rfl rfl ?_
      refine R_get rfl sh_60 rfl rfl ?_
      refine R_ldI rfl rfl ?_
      obtain ⟨c1192, hf⟩ := qchk hf
      refine R_ald rfl sh_66 c1192 ?_
      obtain ⟨⟨x1194, h1193⟩, e1195, hf⟩ := qbind_some hf
      dsimp only at hf
      refine R_callVi (as := [.ref 60, .int (h 66 l2.toNatClampNeg)]) (rest := []) rfl rfl sh_60 rfl rfl rfl rfl (t_X6_stands (by omega) (h 66 l2.toNatClampNeg) h e1195) ?_
      refine R_stI (ls' := [.ref 60, .int l1, .int l2, .int x1194, qU, qU]) rfl rfl rfl rfl ?_
      refine R_ldA rfl rfl ?_
      refine R_ldA rfl rfl ?_
      refine R_get rfl sh_60 rfl rfl ?_
      refine R_ldI rfl rfl ?_
      obtain ⟨c1196, hf⟩ := qchk hf
      refine R_ald rfl sh_67 c1196 ?_
      obtain ⟨⟨x1198, h1197⟩, e1199, hf⟩ := qbind_some hf
      dsimp only at hf
      refine R_callVi (as := [.ref 60, .int (h1193 67 l2.toNatClampNeg)]) (rest := []) rfl rfl sh_60 rfl rfl rfl rfl (t_X6_stands (by omega) (h1193 67 l2.toNatClampNeg) h1193 e1199) ?_
      refine R_stI (ls' := [.ref 60, .int l1, .int l2, .int x1194, .int x1198, qU]) rfl rfl rfl rfl ?_
      refine R_ldI rfl rfl ?_
      refine R_ldI rfl rfl ?_
      have key : RR d cd_X6_ends (0, 0) 75 [.ref 60, .int l1, .int l2, qU, qU, qU] [.int (if x1194 = x1198 then (if x1194 < (6 : Int32) then (1 : Int32) else (if (h1197 63 1) = (1 : Int32) then (if x1194 = (6 : Int32) then (1 : Int32) else (if x1198 = (6 : Int32) then (1 : Int32) else (0 : Int32))) else (0 : Int32))) else (if (h1197 63 1) = (1 : Int32) then (if x1194 = (6 : Int32) then (1 : Int32) else (if x1198 = (6 : Int32) then (1 : Int32) else (0 : Int32))) else (0 : Int32)))] h1197 v h1 := by
        refine R_stI (ls' := [.ref 60, .int l1, .int l2, qU, qU, .int (if x1194 = x1198 then (if x1194 < (6 : Int32) then (1 : Int32) else (if (h1197 63 1) = (1 : Int32) then (if x1194 = (6 : Int32) then (1 : Int32) else (if x1198 = (6 : Int32) then (1 : Int32) else (0 : Int32))) else (0 : Int32))) else (if (h1197 63 1) = (1 : Int32) then (if x1194 = (6 : Int32) then (1 : Int32) else (if x1198 = (6 : Int32) then (1 : Int32) else (0 : Int32))) else (0 : Int32)))]) rfl rfl rfl rfl ?_
        refine R_ldI rfl rfl ?_
        refine R_ldI rfl rfl ?_
        obtain ⟨⟨x1213, h1214⟩, e1216, hf⟩ := qbind_some hf
        dsimp only at hf
        have key : RR d cd_X6_ends (0, 0) 96 [.ref 60, qU, .int l2, qU, qU, .int (if x1194 = x1198 then (if x1194 < (6 : Int32) then (1 : Int32) else (if (h1197 63 1) = (1 : Int32) then (if x1194 = (6 : Int32) then (1 : Int32) else (if x1198 = (6 : Int32) then (1 : Int32) else (0 : Int32))) else (0 : Int32))) else (if (h1197 63 1) = (1 : Int32) then (if x1194 = (6 : Int32) then (1 : Int32) else (if x1198 = (6 : Int32) then (1 : Int32) else (0 : Int32))) else (0 : Int32)))] [.int x1213, .int l1] h1214 v h1 := by
          clear e1216
          refine R_bin rfl ?_
          refine R_stI (ls' := [.ref 60, .int (l1 + x1213), .int l2, qU, qU, .int (if x1194 = x1198 then (if x1194 < (6 : Int32) then (1 : Int32) else (if (h1197 63 1) = (1 : Int32) then (if x1194 = (6 : Int32) then (1 : Int32) else (if x1198 = (6 : Int32) then (1 : Int32) else (0 : Int32))) else (0 : Int32))) else (if (h1197 63 1) = (1 : Int32) then (if x1194 = (6 : Int32) then (1 : Int32) else (if x1198 = (6 : Int32) then (1 : Int32) else (0 : Int32))) else (0 : Int32)))]) rfl rfl rfl rfl ?_
          refine R_ldA rfl rfl ?_
          refine R_dup rfl rfl ?_
          refine R_get rfl sh_60 rfl rfl ?_
          refine R_ldI rfl rfl ?_
          have key : RR d cd_X6_ends (0, 0) 115 [.ref 60, .int (l1 + x1213), .int l2, qU, qU, qU] [.int (if (if x1194 = x1198 then (if x1194 < (6 : Int32) then (1 : Int32) else (if (h1197 63 1) = (1 : Int32) then (if x1194 = (6 : Int32) then (1 : Int32) else (if x1198 = (6 : Int32) then (1 : Int32) else (0 : Int32))) else (0 : Int32))) else (if (h1197 63 1) = (1 : Int32) then (if x1194 = (6 : Int32) then (1 : Int32) else (if x1198 = (6 : Int32) then (1 : Int32) else (0 : Int32))) else (0 : Int32))) = 0 then (0 : Int32) else ((1 : Int32) <<< (l2 &&& 31))), .int (h1214 60 9), .ref 60] h1214 v h1 := by
            refine R_bin rfl ?_
            refine R_putI rfl sh_60 rfl ?_
            refine R_inc (ls' := [.ref 60, .int (l1 + x1213), .int (l2 + (1 : Int32)), qU, qU, qU]) rfl rfl rfl rfl ?_
            refine R_goto rfl ?_
            exact ih  (l1 + x1213) (l2 + (1 : Int32)) (qup h1214 60 9 ((h1214 60 9) ||| (if (if x1194 = x1198 then (if x1194 < (6 : Int32) then (1 : Int32) else (if (h1197 63 1) = (1 : Int32) then (if x1194 = (6 : Int32) then (1 : Int32) else (if x1198 = (6 : Int32) then (1 : Int32) else (0 : Int32))) else (0 : Int32))) else (if (h1197 63 1) = (1 : Int32) then (if x1194 = (6 : Int32) then (1 : Int32) else (if x1198 = (6 : Int32) then (1 : Int32) else (0 : Int32))) else (0 : Int32))) = 0 then (0 : Int32) else ((1 : Int32) <<< (l2 &&& 31))))) _ _ hf _ _ hE
          clear hf
          by_cases c1215 : (if x1194 = x1198 then (if x1194 < (6 : Int32) then (1 : Int32) else (if (h1197 63 1) = (1 : Int32) then (if x1194 = (6 : Int32) then (1 : Int32) else (if x1198 = (6 : Int32) then (1 : Int32) else (0 : Int32))) else (0 : Int32))) else (if (h1197 63 1) = (1 : Int32) then (if x1194 = (6 : Int32) then (1 : Int32) else (if x1198 = (6 : Int32) then (1 : Int32) else (0 : Int32))) else (0 : Int32))) = 0
          · rw [show (if (if x1194 = x1198 then (if x1194 < (6 : Int32) then (1 : Int32) else (if (h1197 63 1) = (1 : Int32) then (if x1194 = (6 : Int32) then (1 : Int32) else (if x1198 = (6 : Int32) then (1 : Int32) else (0 : Int32))) else (0 : Int32))) else (if (h1197 63 1) = (1 : Int32) then (if x1194 = (6 : Int32) then (1 : Int32) else (if x1198 = (6 : Int32) then (1 : Int32) else (0 : Int32))) else (0 : Int32))) = 0 then (0 : Int32) else ((1 : Int32) <<< (l2 &&& 31))) = (0 : Int32) from if_pos c1215] at key
            refine R_IfEq_t rfl c1215 ?_
            refine R_I rfl ?_
            refine R_drop [true, true, true, true, true, false] (ls' := [.ref 60, .int (l1 + x1213), .int l2, qU, qU, qU]) rfl ?_
            exact key
          · rw [show (if (if x1194 = x1198 then (if x1194 < (6 : Int32) then (1 : Int32) else (if (h1197 63 1) = (1 : Int32) then (if x1194 = (6 : Int32) then (1 : Int32) else (if x1198 = (6 : Int32) then (1 : Int32) else (0 : Int32))) else (0 : Int32))) else (if (h1197 63 1) = (1 : Int32) then (if x1194 = (6 : Int32) then (1 : Int32) else (if x1198 = (6 : Int32) then (1 : Int32) else (0 : Int32))) else (0 : Int32))) = 0 then (0 : Int32) else ((1 : Int32) <<< (l2 &&& 31))) = ((1 : Int32) <<< (l2 &&& 31)) from if_neg c1215] at key
            refine R_IfEq_f rfl c1215 ?_
            refine R_I rfl ?_
            refine R_ldI rfl rfl ?_
            refine R_bin rfl ?_
            refine R_goto rfl ?_
            refine R_drop [true, true, true, true, true, false] (ls' := [.ref 60, .int (l1 + x1213), .int l2, qU, qU, qU]) rfl ?_
            exact key
        clear hf
        have hf := e1216
        clear e1216
        rcases qite hf with ⟨c1208, hf⟩ | ⟨c1208, hf⟩
        · refine R_IfEq_t rfl c1208 ?_
          refine R_I rfl ?_
          refine R_drop [true, false, true, true, true, true] (ls' := [.ref 60, qU, .int l2, qU, qU, .int (if x1194 = x1198 then (if x1194 < (6 : Int32) then (1 : Int32) else (if (h1197 63 1) = (1 : Int32) then (if x1194 = (6 : Int32) then (1 : Int32) else (if x1198 = (6 : Int32) then (1 : Int32) else (0 : Int32))) else (0 : Int32))) else (if (h1197 63 1) = (1 : Int32) then (if x1194 = (6 : Int32) then (1 : Int32) else (if x1198 = (6 : Int32) then (1 : Int32) else (0 : Int32))) else (0 : Int32)))]) rfl ?_
          obtain ⟨rfl, rfl⟩ := qinj2 hf
          exact key
        · refine R_IfEq_f rfl c1208 ?_
          refine R_ldA rfl rfl ?_
          refine R_ldI rfl rfl ?_
          obtain ⟨⟨x1210, h1209⟩, e1211, hf⟩ := qbind_some hf
          dsimp only at hf
          refine R_callVi (as := [.ref 60, .int l2]) (rest := [.int l1]) rfl rfl sh_60 rfl rfl rfl rfl (t_X6_isOver (by omega) l2 h1197 e1211) ?_
          rcases qite hf with ⟨c1212, hf⟩ | ⟨c1212, hf⟩
          · refine R_IfNe_f rfl c1212 ?_
            refine R_I rfl ?_
            refine R_goto rfl ?_
            refine R_drop [true, false, true, true, true, true] (ls' := [.ref 60, qU, .int l2, qU, qU, .int (if x1194 = x1198 then (if x1194 < (6 : Int32) then (1 : Int32) else (if (h1197 63 1) = (1 : Int32) then (if x1194 = (6 : Int32) then (1 : Int32) else (if x1198 = (6 : Int32) then (1 : Int32) else (0 : Int32))) else (0 : Int32))) else (if (h1197 63 1) = (1 : Int32) then (if x1194 = (6 : Int32) then (1 : Int32) else (if x1198 = (6 : Int32) then (1 : Int32) else (0 : Int32))) else (0 : Int32)))]) rfl ?_
            obtain ⟨rfl, rfl⟩ := qinj2 hf
            exact key
          · refine R_IfNe_t rfl c1212 ?_
            refine R_I rfl ?_
            refine R_drop [true, false, true, true, true, true] (ls' := [.ref 60, qU, .int l2, qU, qU, .int (if x1194 = x1198 then (if x1194 < (6 : Int32) then (1 : Int32) else (if (h1197 63 1) = (1 : Int32) then (if x1194 = (6 : Int32) then (1 : Int32) else (if x1198 = (6 : Int32) then (1 : Int32) else (0 : Int32))) else (0 : Int32))) else (if (h1197 63 1) = (1 : Int32) then (if x1194 = (6 : Int32) then (1 : Int32) else (if x1198 = (6 : Int32) then (1 : Int32) else (0 : Int32))) else (0 : Int32)))]) rfl ?_
            obtain ⟨rfl, rfl⟩ := qinj2 hf
            exact key
      clear hf
      by_cases c1200 : x1194 = x1198
      · rw [show (if x1194 = x1198 then (if x1194 < (6 : Int32) then (1 : Int32) else (if (h1197 63 1) = (1 : Int32) then (if x1194 = (6 : Int32) then (1 : Int32) else (if x1198 = (6 : Int32) then (1 : Int32) else (0 : Int32))) else (0 : Int32))) else (if (h1197 63 1) = (1 : Int32) then (if x1194 = (6 : Int32) then (1 : Int32) else (if x1198 = (6 : Int32) then (1 : Int32) else (0 : Int32))) else (0 : Int32))) = (if x1194 < (6 : Int32) then (1 : Int32) else (if (h1197 63 1) = (1 : Int32) then (if x1194 = (6 : Int32) then (1 : Int32) else (if x1198 = (6 : Int32) then (1 : Int32) else (0 : Int32))) else (0 : Int32))) from if_pos c1200] at key
        refine R_CmNe_f rfl c1200 ?_
        refine R_ldI rfl rfl ?_
        refine R_I rfl ?_
        by_cases c1201 : x1194 < (6 : Int32)
        · rw [show (if x1194 < (6 : Int32) then (1 : Int32) else (if (h1197 63 1) = (1 : Int32) then (if x1194 = (6 : Int32) then (1 : Int32) else (if x1198 = (6 : Int32) then (1 : Int32) else (0 : Int32))) else (0 : Int32))) = (1 : Int32) from if_pos c1201] at key
          refine R_CmLt_t rfl c1201 ?_
          refine R_I rfl ?_
          refine R_goto rfl ?_
          refine R_drop [true, true, true, false, false, true] (ls' := [.ref 60, .int l1, .int l2, qU, qU, qU]) rfl ?_
          exact key
        · rw [show (if x1194 < (6 : Int32) then (1 : Int32) else (if (h1197 63 1) = (1 : Int32) then (if x1194 = (6 : Int32) then (1 : Int32) else (if x1198 = (6 : Int32) then (1 : Int32) else (0 : Int32))) else (0 : Int32))) = (if (h1197 63 1) = (1 : Int32) then (if x1194 = (6 : Int32) then (1 : Int32) else (if x1198 = (6 : Int32) then (1 : Int32) else (0 : Int32))) else (0 : Int32)) from if_neg c1201] at key
          refine R_CmLt_f rfl c1201 ?_
          refine R_ldA rfl rfl ?_
          refine R_get rfl sh_60 rfl rfl ?_
          refine R_I rfl ?_
          refine R_aldC (j := 1) rfl sh_63 (by decide) ?_
          refine R_I rfl ?_
          by_cases c1202 : (h1197 63 1) = (1 : Int32)
          · rw [show (if (h1197 63 1) = (1 : Int32) then (if x1194 = (6 : Int32) then (1 : Int32) else (if x1198 = (6 : Int32) then (1 : Int32) else (0 : Int32))) else (0 : Int32)) = (if x1194 = (6 : Int32) then (1 : Int32) else (if x1198 = (6 : Int32) then (1 : Int32) else (0 : Int32))) from if_pos c1202] at key
            refine R_CmNe_f rfl c1202 ?_
            refine R_ldI rfl rfl ?_
            refine R_I rfl ?_
            by_cases c1203 : x1194 = (6 : Int32)
            · rw [show (if x1194 = (6 : Int32) then (1 : Int32) else (if x1198 = (6 : Int32) then (1 : Int32) else (0 : Int32))) = (1 : Int32) from if_pos c1203] at key
              refine R_CmEq_t rfl c1203 ?_
              refine R_I rfl ?_
              refine R_goto rfl ?_
              refine R_drop [true, true, true, false, false, true] (ls' := [.ref 60, .int l1, .int l2, qU, qU, qU]) rfl ?_
              exact key
            · rw [show (if x1194 = (6 : Int32) then (1 : Int32) else (if x1198 = (6 : Int32) then (1 : Int32) else (0 : Int32))) = (if x1198 = (6 : Int32) then (1 : Int32) else (0 : Int32)) from if_neg c1203] at key
              refine R_CmEq_f rfl c1203 ?_
              refine R_ldI rfl rfl ?_
              refine R_I rfl ?_
              by_cases c1204 : x1198 = (6 : Int32)
              · rw [show (if x1198 = (6 : Int32) then (1 : Int32) else (0 : Int32)) = (1 : Int32) from if_pos c1204] at key
                refine R_CmNe_f rfl c1204 ?_
                refine R_I rfl ?_
                refine R_goto rfl ?_
                refine R_drop [true, true, true, false, false, true] (ls' := [.ref 60, .int l1, .int l2, qU, qU, qU]) rfl ?_
                exact key
              · rw [show (if x1198 = (6 : Int32) then (1 : Int32) else (0 : Int32)) = (0 : Int32) from if_neg c1204] at key
                refine R_CmNe_t rfl c1204 ?_
                refine R_I rfl ?_
                refine R_drop [true, true, true, false, false, true] (ls' := [.ref 60, .int l1, .int l2, qU, qU, qU]) rfl ?_
                exact key
          · rw [show (if (h1197 63 1) = (1 : Int32) then (if x1194 = (6 : Int32) then (1 : Int32) else (if x1198 = (6 : Int32) then (1 : Int32) else (0 : Int32))) else (0 : Int32)) = (0 : Int32) from if_neg c1202] at key
            refine R_CmNe_t rfl c1202 ?_
            refine R_I rfl ?_
            refine R_drop [true, true, true, false, false, true] (ls' := [.ref 60, .int l1, .int l2, qU, qU, qU]) rfl ?_
            exact key
      · rw [show (if x1194 = x1198 then (if x1194 < (6 : Int32) then (1 : Int32) else (if (h1197 63 1) = (1 : Int32) then (if x1194 = (6 : Int32) then (1 : Int32) else (if x1198 = (6 : Int32) then (1 : Int32) else (0 : Int32))) else (0 : Int32))) else (if (h1197 63 1) = (1 : Int32) then (if x1194 = (6 : Int32) then (1 : Int32) else (if x1198 = (6 : Int32) then (1 : Int32) else (0 : Int32))) else (0 : Int32))) = (if (h1197 63 1) = (1 : Int32) then (if x1194 = (6 : Int32) then (1 : Int32) else (if x1198 = (6 : Int32) then (1 : Int32) else (0 : Int32))) else (0 : Int32)) from if_neg c1200] at key
        refine R_CmNe_t rfl c1200 ?_
        refine R_ldA rfl rfl ?_
        refine R_get rfl sh_60 rfl rfl ?_
        refine R_I rfl ?_
        refine R_aldC (j := 1) rfl sh_63 (by decide) ?_
        refine R_I rfl ?_
        by_cases c1205 : (h1197 63 1) = (1 : Int32)
        · rw [show (if (h1197 63 1) = (1 : Int32) then (if x1194 = (6 : Int32) then (1 : Int32) else (if x1198 = (6 : Int32) then (1 : Int32) else (0 : Int32))) else (0 : Int32)) = (if x1194 = (6 : Int32) then (1 : Int32) else (if x1198 = (6 : Int32) then (1 : Int32) else (0 : Int32))) from if_pos c1205] at key
          refine R_CmNe_f rfl c1205 ?_
          refine R_ldI rfl rfl ?_
          refine R_I rfl ?_
          by_cases c1206 : x1194 = (6 : Int32)
          · rw [show (if x1194 = (6 : Int32) then (1 : Int32) else (if x1198 = (6 : Int32) then (1 : Int32) else (0 : Int32))) = (1 : Int32) from if_pos c1206] at key
            refine R_CmEq_t rfl c1206 ?_
            refine R_I rfl ?_
            refine R_goto rfl ?_
            refine R_drop [true, true, true, false, false, true] (ls' := [.ref 60, .int l1, .int l2, qU, qU, qU]) rfl ?_
            exact key
          · rw [show (if x1194 = (6 : Int32) then (1 : Int32) else (if x1198 = (6 : Int32) then (1 : Int32) else (0 : Int32))) = (if x1198 = (6 : Int32) then (1 : Int32) else (0 : Int32)) from if_neg c1206] at key
            refine R_CmEq_f rfl c1206 ?_
            refine R_ldI rfl rfl ?_
            refine R_I rfl ?_
            by_cases c1207 : x1198 = (6 : Int32)
            · rw [show (if x1198 = (6 : Int32) then (1 : Int32) else (0 : Int32)) = (1 : Int32) from if_pos c1207] at key
              refine R_CmNe_f rfl c1207 ?_
              refine R_I rfl ?_
              refine R_goto rfl ?_
              refine R_drop [true, true, true, false, false, true] (ls' := [.ref 60, .int l1, .int l2, qU, qU, qU]) rfl ?_
              exact key
            · rw [show (if x1198 = (6 : Int32) then (1 : Int32) else (0 : Int32)) = (0 : Int32) from if_neg c1207] at key
              refine R_CmNe_t rfl c1207 ?_
              refine R_I rfl ?_
              refine R_drop [true, true, true, false, false, true] (ls' := [.ref 60, .int l1, .int l2, qU, qU, qU]) rfl ?_
              exact key
        · rw [show (if (h1197 63 1) = (1 : Int32) then (if x1194 = (6 : Int32) then (1 : Int32) else (if x1198 = (6 : Int32) then (1 : Int32) else (0 : Int32))) else (0 : Int32)) = (0 : Int32) from if_neg c1205] at key
          refine R_CmNe_t rfl c1205 ?_
          refine R_I rfl ?_
          refine R_drop [true, true, true, false, false, true] (ls' := [.ref 60, .int l1, .int l2, qU, qU, qU]) rfl ?_
          exact key
def f_X6_ends (N : Nat) (h : qN) : Option (Int32 × qN) :=
  qbind (f_X6_ends_L4 N N (0 : Int32) (0 : Int32) h) fun (x1218, h1219) =>
  some (x1218, h1219)
set_option maxRecDepth 100000 in
theorem t_X6_ends {d N : Nat} (hd : 2 ≤ d)   (h : qN) {v0 : Int32} {h1 : qN} (hf : f_X6_ends N  h = some (v0, h1)) : EE d 109 [.ref 60] h (some (.int v0)) h1 := by
  obtain ⟨d, rfl⟩ : ∃ d0, d = d0 + 1 := ⟨d - 1, by omega⟩
  unfold f_X6_ends at hf
  refine E_intro qm_109 qc_109 (Nat.le_of_ble_eq_true rfl) rfl rfl ?_
  show RR d cd_X6_ends (0, 0) 0 [.ref 60, qU, qU, qU, qU, qU] [] h (some (.int v0)) h1
  refine R_I rfl ?_
  refine R_stI (ls' := [.ref 60, .int (0 : Int32), qU, qU, qU, qU]) rfl rfl rfl rfl ?_
  refine R_I rfl ?_
  refine R_stI (ls' := [.ref 60, .int (0 : Int32), .int (0 : Int32), qU, qU, qU]) rfl rfl rfl rfl ?_
  obtain ⟨⟨x1218, h1219⟩, e1220, hf⟩ := qbind_some hf
  dsimp only at hf
  refine t_X6_ends_L4 (N := N) (by omega) _  (0 : Int32) (0 : Int32) h x1218 h1219 e1220 _ _ ?_
  refine R_ldI rfl rfl ?_
  obtain ⟨rfl, rfl⟩ := qinj2 hf
  exact R_retI rfl
def f_X6_person (a1 : Int32) (a2 : Int32) (a3 : Int32) (h : qN) : Option (Int32 × qN) :=
  qbind (f_X6_isPerson a1 h) fun (x1224, h1223) =>
  if x1224 = 0 then
    some ((-1 : Int32), h1223)
  else
    qbind (f_X6_in a2.toInt64 (0 : Int64) (1 : Int64) h1223) fun (x1228, h1227) =>
    if x1228 = 0 then
      some ((-1 : Int32), h1227)
    else
      qbind (f_X6_in a3.toInt64 (0 : Int64) (if a2 = 0 then (999 : Int64) else (99 : Int64)) h1227) fun (x1233, h1232) =>
      if x1233 = 0 then
        some ((-1 : Int32), h1232)
      else
        qbind (
            if a2 = 0 then
              if a1 < 0 ∨ 6 ≤ a1.toNatClampNeg then none else
              some (h1232 61 a1.toNatClampNeg)
            else
              if a1 < 0 ∨ 6 ≤ a1.toNatClampNeg then none else
              some (h1232 62 a1.toNatClampNeg) : Option (Int32)) fun x1239 =>
        if a2 = 0 then
          if a1 < 0 ∨ 6 ≤ a1.toNatClampNeg then none else
          some (x1239, (qup h1232 61 a1.toNatClampNeg a3))
        else
          if a1 < 0 ∨ 6 ≤ a1.toNatClampNeg then none else
          some (x1239, (qup h1232 62 a1.toNatClampNeg a3))
set_option maxRecDepth 100000 in
theorem t_X6_person {d : Nat} (hd : 3 ≤ d) (a1 : Int32) (a2 : Int32) (a3 : Int32)  (h : qN) {v0 : Int32} {h1 : qN} (hf : f_X6_person a1 a2 a3 h = some (v0, h1)) : EE d 110 [.ref 60, .int a1, .int a2, .int a3] h (some (.int v0)) h1 := by
  obtain ⟨d, rfl⟩ : ∃ d0, d = d0 + 1 := ⟨d - 1, by omega⟩
  unfold f_X6_person at hf
  refine E_intro qm_110 qc_110 (Nat.le_of_ble_eq_true rfl) rfl rfl ?_
  show RR d cd_X6_person (0, 0) 0 [.ref 60, .int a1, .int a2, .int a3, qU] [] h (some (.int v0)) h1
  refine R_ldI rfl rfl ?_
  obtain ⟨⟨x1224, h1223⟩, e1225, hf⟩ := qbind_some hf
  dsimp only at hf
  refine R_callSi (as := [.int a1]) (rest := []) rfl rfl rfl rfl rfl rfl (t_X6_isPerson (by omega) a1 h e1225) ?_
  rcases qite hf with ⟨c1226, hf⟩ | ⟨c1226, hf⟩
  · refine R_IfEq_t rfl c1226 ?_
    refine R_I rfl ?_
    obtain ⟨rfl, rfl⟩ := qinj2 hf
    exact R_retI rfl
  · refine R_IfEq_f rfl c1226 ?_
    refine R_ldI rfl rfl ?_
    refine R_i2l rfl ?_
    refine R_L rfl ?_
    refine R_L rfl ?_
    obtain ⟨⟨x1228, h1227⟩, e1229, hf⟩ := qbind_some hf
    dsimp only at hf
    refine R_callSi (as := [.long a2.toInt64, .long (0 : Int64), .long (1 : Int64)]) (rest := []) rfl rfl rfl rfl rfl rfl (t_X6_in (by omega) a2.toInt64 (0 : Int64) (1 : Int64) h1223 e1229) ?_
    rcases qite hf with ⟨c1230, hf⟩ | ⟨c1230, hf⟩
    · refine R_IfEq_t rfl c1230 ?_
      refine R_I rfl ?_
      obtain ⟨rfl, rfl⟩ := qinj2 hf
      exact R_retI rfl
    · refine R_IfEq_f rfl c1230 ?_
      refine R_ldI rfl rfl ?_
      refine R_i2l rfl ?_
      refine R_L rfl ?_
      refine R_ldI rfl rfl ?_
      have key : RR d cd_X6_person (0, 0) 33 [.ref 60, .int a1, .int a2, .int a3, qU] [.long (if a2 = 0 then (999 : Int64) else (99 : Int64)), .long (0 : Int64), .long a3.toInt64] h1227 (some (.int v0)) h1 := by
        obtain ⟨⟨x1233, h1232⟩, e1234, hf⟩ := qbind_some hf
        dsimp only at hf
        refine R_callSi (as := [.long a3.toInt64, .long (0 : Int64), .long (if a2 = 0 then (999 : Int64) else (99 : Int64))]) (rest := []) rfl rfl rfl rfl rfl rfl (t_X6_in (by omega) a3.toInt64 (0 : Int64) (if a2 = 0 then (999 : Int64) else (99 : Int64)) h1227 e1234) ?_
        rcases qite hf with ⟨c1235, hf⟩ | ⟨c1235, hf⟩
        · refine R_IfNe_f rfl c1235 ?_
          refine R_I rfl ?_
          obtain ⟨rfl, rfl⟩ := qinj2 hf
          exact R_retI rfl
        · refine R_IfNe_t rfl c1235 ?_
          refine R_ldI rfl rfl ?_
          obtain ⟨x1239, e1243, hf⟩ := qbind_some hf
          have key : RR d cd_X6_person (0, 0) 60 [.ref 60, .int a1, .int a2, .int a3, qU] [.int x1239] h1232 (some (.int v0)) h1 := by
            clear e1243
            refine R_stI (ls' := [.ref 60, .int a1, .int a2, .int a3, .int x1239]) rfl rfl rfl rfl ?_
            refine R_ldI rfl rfl ?_
            rcases qite hf with ⟨c1240, hf⟩ | ⟨c1240, hf⟩
            · refine R_IfNe_f rfl c1240 ?_
              refine R_ldA rfl rfl ?_
              refine R_get rfl sh_60 rfl rfl ?_
              refine R_ldI rfl rfl ?_
              refine R_ldI rfl rfl ?_
              obtain ⟨c1241, hf⟩ := qchk hf
              refine R_ast rfl sh_61 c1241 ?_
              refine R_goto rfl ?_
              refine R_ldI rfl rfl ?_
              obtain ⟨rfl, rfl⟩ := qinj2 hf
              exact R_retI rfl
            · refine R_IfNe_t rfl c1240 ?_
              refine R_ldA rfl rfl ?_
              refine R_get rfl sh_60 rfl rfl ?_
              refine R_ldI rfl rfl ?_
              refine R_ldI rfl rfl ?_
              obtain ⟨c1242, hf⟩ := qchk hf
              refine R_ast rfl sh_62 c1242 ?_
              refine R_ldI rfl rfl ?_
              obtain ⟨rfl, rfl⟩ := qinj2 hf
              exact R_retI rfl
          clear hf
          have hf := e1243
          clear e1243
          rcases qite hf with ⟨c1236, hf⟩ | ⟨c1236, hf⟩
          · refine R_IfNe_f rfl c1236 ?_
            refine R_ldA rfl rfl ?_
            refine R_get rfl sh_60 rfl rfl ?_
            refine R_ldI rfl rfl ?_
            obtain ⟨c1237, hf⟩ := qchk hf
            refine R_ald rfl sh_61 c1237 ?_
            refine R_goto rfl ?_
            obtain rfl := Option.some.inj hf
            exact key
          · refine R_IfNe_t rfl c1236 ?_
            refine R_ldA rfl rfl ?_
            refine R_get rfl sh_60 rfl rfl ?_
            refine R_ldI rfl rfl ?_
            obtain ⟨c1238, hf⟩ := qchk hf
            refine R_ald rfl sh_62 c1238 ?_
            obtain rfl := Option.some.inj hf
            exact key
      clear hf
      by_cases c1231 : a2 = 0
      · rw [show (if a2 = 0 then (999 : Int64) else (99 : Int64)) = (999 : Int64) from if_pos c1231] at key
        refine R_IfNe_f rfl c1231 ?_
        refine R_L rfl ?_
        refine R_goto rfl ?_
        exact key
      · rw [show (if a2 = 0 then (999 : Int64) else (99 : Int64)) = (99 : Int64) from if_neg c1231] at key
        refine R_IfNe_t rfl c1231 ?_
        refine R_L rfl ?_
        exact key
def f_X6_rule (N : Nat) (a1 : Int32) (a2 : Int32) (h : qN) : Option (Int32 × qN) :=
  qbind (f_X6_in a1.toInt64 (0 : Int64) (1 : Int64) h) fun (x1245, h1244) =>
  if x1245 = 0 then
    some ((-1 : Int32), h1244)
  else
    qbind (f_X6_in a2.toInt64 (0 : Int64) (1 : Int64) h1244) fun (x1249, h1248) =>
    if x1249 = 0 then
      some ((-1 : Int32), h1248)
    else
      if a1 < 0 ∨ 2 ≤ a1.toNatClampNeg then none else
      if a1 < 0 ∨ 2 ≤ a1.toNatClampNeg then none else
      qbind (f_X6_ends N  (qup h1248 63 a1.toNatClampNeg a2)) fun (x1255, h1254) =>
      some ((h1248 63 a1.toNatClampNeg), h1254)
set_option maxRecDepth 100000 in
theorem t_X6_rule {d N : Nat} (hd : 3 ≤ d) (a1 : Int32) (a2 : Int32)  (h : qN) {v0 : Int32} {h1 : qN} (hf : f_X6_rule N a1 a2 h = some (v0, h1)) : EE d 111 [.ref 60, .int a1, .int a2] h (some (.int v0)) h1 := by
  obtain ⟨d, rfl⟩ : ∃ d0, d = d0 + 1 := ⟨d - 1, by omega⟩
  unfold f_X6_rule at hf
  refine E_intro qm_111 qc_111 (Nat.le_of_ble_eq_true rfl) rfl rfl ?_
  show RR d cd_X6_rule (0, 0) 0 [.ref 60, .int a1, .int a2, qU] [] h (some (.int v0)) h1
  refine R_ldI rfl rfl ?_
  refine R_i2l rfl ?_
  refine R_L rfl ?_
  refine R_L rfl ?_
  obtain ⟨⟨x1245, h1244⟩, e1246, hf⟩ := qbind_some hf
  dsimp only at hf
  refine R_callSi (as := [.long a1.toInt64, .long (0 : Int64), .long (1 : Int64)]) (rest := []) rfl rfl rfl rfl rfl rfl (t_X6_in (by omega) a1.toInt64 (0 : Int64) (1 : Int64) h e1246) ?_
  rcases qite hf with ⟨c1247, hf⟩ | ⟨c1247, hf⟩
  · refine R_IfEq_t rfl c1247 ?_
    refine R_I rfl ?_
    obtain ⟨rfl, rfl⟩ := qinj2 hf
    exact R_retI rfl
  · refine R_IfEq_f rfl c1247 ?_
    refine R_ldI rfl rfl ?_
    refine R_i2l rfl ?_
    refine R_L rfl ?_
    refine R_L rfl ?_
    obtain ⟨⟨x1249, h1248⟩, e1250, hf⟩ := qbind_some hf
    dsimp only at hf
    refine R_callSi (as := [.long a2.toInt64, .long (0 : Int64), .long (1 : Int64)]) (rest := []) rfl rfl rfl rfl rfl rfl (t_X6_in (by omega) a2.toInt64 (0 : Int64) (1 : Int64) h1244 e1250) ?_
    rcases qite hf with ⟨c1251, hf⟩ | ⟨c1251, hf⟩
    · refine R_IfNe_f rfl c1251 ?_
      refine R_I rfl ?_
      obtain ⟨rfl, rfl⟩ := qinj2 hf
      exact R_retI rfl
    · refine R_IfNe_t rfl c1251 ?_
      refine R_ldA rfl rfl ?_
      refine R_get rfl sh_60 rfl rfl ?_
      refine R_ldI rfl rfl ?_
      obtain ⟨c1252, hf⟩ := qchk hf
      refine R_ald rfl sh_63 c1252 ?_
      refine R_stI (ls' := [.ref 60, .int a1, .int a2, .int (h1248 63 a1.toNatClampNeg)]) rfl rfl rfl rfl ?_
      refine R_ldA rfl rfl ?_
      refine R_get rfl sh_60 rfl rfl ?_
      refine R_ldI rfl rfl ?_
      refine R_ldI rfl rfl ?_
      obtain ⟨c1253, hf⟩ := qchk hf
      refine R_ast rfl sh_63 c1253 ?_
      refine R_ldA rfl rfl ?_
      obtain ⟨⟨x1255, h1254⟩, e1256, hf⟩ := qbind_some hf
      dsimp only at hf
      refine R_callVi (as := [.ref 60]) (rest := []) rfl rfl sh_60 rfl rfl rfl rfl (t_X6_ends (N := N) (by omega)  (qup h1248 63 a1.toNatClampNeg a2) e1256) ?_
      refine R_pop rfl rfl ?_
      refine R_ldI rfl rfl ?_
      obtain ⟨rfl, rfl⟩ := qinj2 hf
      exact R_retI rfl
def f_X6_thing_L38 (N : Nat) : Nat → Int32 → qN → Option (qN)
  | 0, _, _ => none
  | n + 1, l2, h =>
    if (6 : Int32) ≤ l2 then
      some h
    else
      if (((6 : Int32) * (h 60 3)) + l2) < 0 ∨ 48 ≤ (((6 : Int32) * (h 60 3)) + l2).toNatClampNeg then none else
      f_X6_thing_L38 N n (l2 + (1 : Int32)) (qup h 65 (((6 : Int32) * (h 60 3)) + l2).toNatClampNeg (5 : Int32))
set_option maxRecDepth 100000 in
theorem t_X6_thing_L38 {d N : Nat} (hd : 1 ≤ d) : ∀ (n : Nat) (l2 : Int32) (h : qN) (h2 : qN), f_X6_thing_L38 N n l2 h = some h2 → ∀ (v : Option Value) (h1 : qN), RR d cd_X6_thing (0, 0) 65 [.ref 60, qU, qU] [] h2 v h1 → RR d cd_X6_thing (0, 0) 38 [.ref 60, qU, .int l2] [] h v h1 := by
  intro n
  induction n with
  | zero =>
    intro l2 h h2 hf v h1 hE
    exact absurd hf (by simp [f_X6_thing_L38])
  | succ n ih =>
    intro l2 h h2 hf v h1 hE
    unfold f_X6_thing_L38 at hf
    refine R_ldI rfl rfl ?_
    refine R_I rfl ?_
    rcases qite hf with ⟨c1263, hf⟩ | ⟨c1263, hf⟩
    · refine R_CmGe_t rfl c1263 ?_
      refine R_drop [true, true, false] (ls' := [.ref 60, qU, qU]) rfl ?_
      obtain rfl := Option.some.inj hf
      exact hE
    · refine R_CmGe_f rfl c1263 ?_
      refine R_ldA rfl rfl ?_
      refine R_get rfl sh_60 rfl rfl ?_
      refine R_I rfl ?_
      refine R_ldA rfl rfl ?_
      refine R_get rfl sh_60 rfl rfl ?_
      refine R_bin rfl ?_
      refine R_ldI rfl rfl ?_
      refine R_bin rfl ?_
      refine R_I rfl ?_
      obtain ⟨c1264, hf⟩ := qchk hf
      refine R_ast rfl sh_65 c1264 ?_
      refine R_inc (ls' := [.ref 60, qU, .int (l2 + (1 : Int32))]) rfl rfl rfl rfl ?_
      refine R_goto rfl ?_
      exact ih  (l2 + (1 : Int32)) (qup h 65 (((6 : Int32) * (h 60 3)) + l2).toNatClampNeg (5 : Int32)) _ hf _ _ hE
def f_X6_thing (N : Nat) (a1 : Int32) (h : qN) : Option (Int32 × qN) :=
  qbind (f_X6_in a1.toInt64 (0 : Int64) (6 : Int64) h) fun (x1258, h1257) =>
  if x1258 = 0 then
    some ((-1 : Int32), h1257)
  else
    if (h1257 60 3) = (8 : Int32) then
      some ((-3 : Int32), h1257)
    else
      if (h1257 60 3) < 0 ∨ 8 ≤ (h1257 60 3).toNatClampNeg then none else
      qbind (f_X6_thing_L38 N N (0 : Int32) (qup h1257 64 (h1257 60 3).toNatClampNeg a1)) fun h1266 =>
      some ((((qup h1266 60 3 ((h1266 60 3) + (1 : Int32))) 60 3) - (1 : Int32)), (qup h1266 60 3 ((h1266 60 3) + (1 : Int32))))
set_option maxRecDepth 100000 in
theorem t_X6_thing {d N : Nat} (hd : 2 ≤ d) (a1 : Int32)  (h : qN) {v0 : Int32} {h1 : qN} (hf : f_X6_thing N a1 h = some (v0, h1)) : EE d 112 [.ref 60, .int a1] h (some (.int v0)) h1 := by
  obtain ⟨d, rfl⟩ : ∃ d0, d = d0 + 1 := ⟨d - 1, by omega⟩
  unfold f_X6_thing at hf
  refine E_intro qm_112 qc_112 (Nat.le_of_ble_eq_true rfl) rfl rfl ?_
  show RR d cd_X6_thing (0, 0) 0 [.ref 60, .int a1, qU] [] h (some (.int v0)) h1
  refine R_ldI rfl rfl ?_
  refine R_i2l rfl ?_
  refine R_L rfl ?_
  refine R_L rfl ?_
  obtain ⟨⟨x1258, h1257⟩, e1259, hf⟩ := qbind_some hf
  dsimp only at hf
  refine R_callSi (as := [.long a1.toInt64, .long (0 : Int64), .long (6 : Int64)]) (rest := []) rfl rfl rfl rfl rfl rfl (t_X6_in (by omega) a1.toInt64 (0 : Int64) (6 : Int64) h e1259) ?_
  rcases qite hf with ⟨c1260, hf⟩ | ⟨c1260, hf⟩
  · refine R_IfNe_f rfl c1260 ?_
    refine R_I rfl ?_
    obtain ⟨rfl, rfl⟩ := qinj2 hf
    exact R_retI rfl
  · refine R_IfNe_t rfl c1260 ?_
    refine R_ldA rfl rfl ?_
    refine R_get rfl sh_60 rfl rfl ?_
    refine R_I rfl ?_
    rcases qite hf with ⟨c1261, hf⟩ | ⟨c1261, hf⟩
    · refine R_CmNe_f rfl c1261 ?_
      refine R_I rfl ?_
      obtain ⟨rfl, rfl⟩ := qinj2 hf
      exact R_retI rfl
    · refine R_CmNe_t rfl c1261 ?_
      refine R_ldA rfl rfl ?_
      refine R_get rfl sh_60 rfl rfl ?_
      refine R_ldA rfl rfl ?_
      refine R_get rfl sh_60 rfl rfl ?_
      refine R_ldI rfl rfl ?_
      obtain ⟨c1262, hf⟩ := qchk hf
      refine R_ast rfl sh_64 c1262 ?_
      refine R_I rfl ?_
      refine R_stI (ls' := [.ref 60, .int a1, .int (0 : Int32)]) rfl rfl rfl rfl ?_
      refine R_drop [true, false, true] (ls' := [.ref 60, qU, .int (0 : Int32)]) rfl ?_
      obtain ⟨h1266, e1267, hf⟩ := qbind_some hf
      refine t_X6_thing_L38 (N := N) (by omega) _  (0 : Int32) (qup h1257 64 (h1257 60 3).toNatClampNeg a1) h1266 e1267 _ _ ?_
      refine R_ldA rfl rfl ?_
      refine R_dup rfl rfl ?_
      refine R_get rfl sh_60 rfl rfl ?_
      refine R_I rfl ?_
      refine R_bin rfl ?_
      refine R_putI rfl sh_60 rfl ?_
      refine R_ldA rfl rfl ?_
      refine R_get rfl sh_60 rfl rfl ?_
      refine R_I rfl ?_
      refine R_bin rfl ?_
      obtain ⟨rfl, rfl⟩ := qinj2 hf
      exact R_retI rfl
def f_X6_worth (a1 : Int32) (a2 : Int32) (a3 : Int32) (h : qN) : Option (Int32 × qN) :=
  qbind (f_X6_isThing a1 h) fun (x1271, h1270) =>
  if x1271 = 0 then
    some ((-1 : Int32), h1270)
  else
    qbind (f_X6_isPerson a2 h1270) fun (x1275, h1274) =>
    if x1275 = 0 then
      some ((-1 : Int32), h1274)
    else
      qbind (f_X6_in a3.toInt64 (0 : Int64) (99 : Int64) h1274) fun (x1279, h1278) =>
      if x1279 = 0 then
        some ((-1 : Int32), h1278)
      else
        if (((6 : Int32) * a1) + a2) < 0 ∨ 48 ≤ (((6 : Int32) * a1) + a2).toNatClampNeg then none else
        if (((6 : Int32) * a1) + a2) < 0 ∨ 48 ≤ (((6 : Int32) * a1) + a2).toNatClampNeg then none else
        some ((h1278 65 (((6 : Int32) * a1) + a2).toNatClampNeg), (qup h1278 65 (((6 : Int32) * a1) + a2).toNatClampNeg a3))
set_option maxRecDepth 100000 in
theorem t_X6_worth {d : Nat} (hd : 3 ≤ d) (a1 : Int32) (a2 : Int32) (a3 : Int32)  (h : qN) {v0 : Int32} {h1 : qN} (hf : f_X6_worth a1 a2 a3 h = some (v0, h1)) : EE d 113 [.ref 60, .int a1, .int a2, .int a3] h (some (.int v0)) h1 := by
  obtain ⟨d, rfl⟩ : ∃ d0, d = d0 + 1 := ⟨d - 1, by omega⟩
  unfold f_X6_worth at hf
  refine E_intro qm_113 qc_113 (Nat.le_of_ble_eq_true rfl) rfl rfl ?_
  show RR d cd_X6_worth (0, 0) 0 [.ref 60, .int a1, .int a2, .int a3, qU] [] h (some (.int v0)) h1
  refine R_ldA rfl rfl ?_
  refine R_ldI rfl rfl ?_
  obtain ⟨⟨x1271, h1270⟩, e1272, hf⟩ := qbind_some hf
  dsimp only at hf
  refine R_callVi (as := [.ref 60, .int a1]) (rest := []) rfl rfl sh_60 rfl rfl rfl rfl (t_X6_isThing (by omega) a1 h e1272) ?_
  rcases qite hf with ⟨c1273, hf⟩ | ⟨c1273, hf⟩
  · refine R_IfEq_t rfl c1273 ?_
    refine R_I rfl ?_
    obtain ⟨rfl, rfl⟩ := qinj2 hf
    exact R_retI rfl
  · refine R_IfEq_f rfl c1273 ?_
    refine R_ldI rfl rfl ?_
    obtain ⟨⟨x1275, h1274⟩, e1276, hf⟩ := qbind_some hf
    dsimp only at hf
    refine R_callSi (as := [.int a2]) (rest := []) rfl rfl rfl rfl rfl rfl (t_X6_isPerson (by omega) a2 h1270 e1276) ?_
    rcases qite hf with ⟨c1277, hf⟩ | ⟨c1277, hf⟩
    · refine R_IfEq_t rfl c1277 ?_
      refine R_I rfl ?_
      obtain ⟨rfl, rfl⟩ := qinj2 hf
      exact R_retI rfl
    · refine R_IfEq_f rfl c1277 ?_
      refine R_ldI rfl rfl ?_
      refine R_i2l rfl ?_
      refine R_L rfl ?_
      refine R_L rfl ?_
      obtain ⟨⟨x1279, h1278⟩, e1280, hf⟩ := qbind_some hf
      dsimp only at hf
      refine R_callSi (as := [.long a3.toInt64, .long (0 : Int64), .long (99 : Int64)]) (rest := []) rfl rfl rfl rfl rfl rfl (t_X6_in (by omega) a3.toInt64 (0 : Int64) (99 : Int64) h1274 e1280) ?_
      rcases qite hf with ⟨c1281, hf⟩ | ⟨c1281, hf⟩
      · refine R_IfNe_f rfl c1281 ?_
        refine R_I rfl ?_
        obtain ⟨rfl, rfl⟩ := qinj2 hf
        exact R_retI rfl
      · refine R_IfNe_t rfl c1281 ?_
        refine R_ldA rfl rfl ?_
        refine R_get rfl sh_60 rfl rfl ?_
        refine R_I rfl ?_
        refine R_ldI rfl rfl ?_
        refine R_bin rfl ?_
        refine R_ldI rfl rfl ?_
        refine R_bin rfl ?_
        obtain ⟨c1282, hf⟩ := qchk hf
        refine R_ald rfl sh_65 c1282 ?_
        refine R_stI (ls' := [.ref 60, .int a1, .int a2, .int a3, .int (h1278 65 (((6 : Int32) * a1) + a2).toNatClampNeg)]) rfl rfl rfl rfl ?_
        refine R_ldA rfl rfl ?_
        refine R_get rfl sh_60 rfl rfl ?_
        refine R_I rfl ?_
        refine R_ldI rfl rfl ?_
        refine R_bin rfl ?_
        refine R_ldI rfl rfl ?_
        refine R_bin rfl ?_
        refine R_ldI rfl rfl ?_
        obtain ⟨c1283, hf⟩ := qchk hf
        refine R_ast rfl sh_65 c1283 ?_
        refine R_ldI rfl rfl ?_
        obtain ⟨rfl, rfl⟩ := qinj2 hf
        exact R_retI rfl
def f_X6_comes (N : Nat) (a1 : Int32) (a2 : Int32) (h : qN) : Option (Int32 × qN) :=
  if (h 60 6) < 0 ∨ 12 ≤ (h 60 6).toNatClampNeg then none else
  if ((qup h 66 (h 60 6).toNatClampNeg a1) 60 6) < 0 ∨ 12 ≤ ((qup h 66 (h 60 6).toNatClampNeg a1) 60 6).toNatClampNeg then none else
  qbind (f_X6_ends N  (qup (qup (qup (qup h 66 (h 60 6).toNatClampNeg a1) 67 ((qup h 66 (h 60 6).toNatClampNeg a1) 60 6).toNatClampNeg a2) 60 9 (((qup (qup h 66 (h 60 6).toNatClampNeg a1) 67 ((qup h 66 (h 60 6).toNatClampNeg a1) 60 6).toNatClampNeg a2) 60 9) &&& (((1 : Int32) <<< (((qup (qup h 66 (h 60 6).toNatClampNeg a1) 67 ((qup h 66 (h 60 6).toNatClampNeg a1) 60 6).toNatClampNeg a2) 60 6) &&& 31)) ^^^ (-1 : Int32)))) 60 6 (((qup (qup (qup h 66 (h 60 6).toNatClampNeg a1) 67 ((qup h 66 (h 60 6).toNatClampNeg a1) 60 6).toNatClampNeg a2) 60 9 (((qup (qup h 66 (h 60 6).toNatClampNeg a1) 67 ((qup h 66 (h 60 6).toNatClampNeg a1) 60 6).toNatClampNeg a2) 60 9) &&& (((1 : Int32) <<< (((qup (qup h 66 (h 60 6).toNatClampNeg a1) 67 ((qup h 66 (h 60 6).toNatClampNeg a1) 60 6).toNatClampNeg a2) 60 6) &&& 31)) ^^^ (-1 : Int32)))) 60 6) + (1 : Int32)))) fun (x1287, h1286) =>
  some (((h1286 60 6) - (1 : Int32)), h1286)
set_option maxRecDepth 100000 in
theorem t_X6_comes {d N : Nat} (hd : 3 ≤ d) (a1 : Int32) (a2 : Int32)  (h : qN) {v0 : Int32} {h1 : qN} (hf : f_X6_comes N a1 a2 h = some (v0, h1)) : EE d 114 [.ref 60, .int a1, .int a2] h (some (.int v0)) h1 := by
  obtain ⟨d, rfl⟩ : ∃ d0, d = d0 + 1 := ⟨d - 1, by omega⟩
  unfold f_X6_comes at hf
  refine E_intro qm_114 qc_114 (Nat.le_of_ble_eq_true rfl) rfl rfl ?_
  show RR d cd_X6_comes (0, 0) 0 [.ref 60, .int a1, .int a2] [] h (some (.int v0)) h1
  refine R_ldA rfl rfl ?_
  refine R_get rfl sh_60 rfl rfl ?_
  refine R_ldA rfl rfl ?_
  refine R_get rfl sh_60 rfl rfl ?_
  refine R_ldI rfl rfl ?_
  obtain ⟨c1284, hf⟩ := qchk hf
  refine R_ast rfl sh_66 c1284 ?_
  refine R_ldA rfl rfl ?_
  refine R_get rfl sh_60 rfl rfl ?_
  refine R_ldA rfl rfl ?_
  refine R_get rfl sh_60 rfl rfl ?_
  refine R_ldI rfl rfl ?_
  obtain ⟨c1285, hf⟩ := qchk hf
  refine R_ast rfl sh_67 c1285 ?_
  refine R_ldA rfl rfl ?_
  refine R_dup rfl rfl ?_
  refine R_get rfl sh_60 rfl rfl ?_
  refine R_I rfl ?_
  refine R_ldA rfl rfl ?_
  refine R_get rfl sh_60 rfl rfl ?_
  refine R_bin rfl ?_
  refine R_I rfl ?_
  refine R_bin rfl ?_
  refine R_bin rfl ?_
  refine R_putI rfl sh_60 rfl ?_
  refine R_ldA rfl rfl ?_
  refine R_dup rfl rfl ?_
  refine R_get rfl sh_60 rfl rfl ?_
  refine R_I rfl ?_
  refine R_bin rfl ?_
  refine R_putI rfl sh_60 rfl ?_
  refine R_ldA rfl rfl ?_
  obtain ⟨⟨x1287, h1286⟩, e1288, hf⟩ := qbind_some hf
  dsimp only at hf
  refine R_callVi (as := [.ref 60]) (rest := []) rfl rfl sh_60 rfl rfl rfl rfl (t_X6_ends (N := N) (by omega)  (qup (qup (qup (qup h 66 (h 60 6).toNatClampNeg a1) 67 ((qup h 66 (h 60 6).toNatClampNeg a1) 60 6).toNatClampNeg a2) 60 9 (((qup (qup h 66 (h 60 6).toNatClampNeg a1) 67 ((qup h 66 (h 60 6).toNatClampNeg a1) 60 6).toNatClampNeg a2) 60 9) &&& (((1 : Int32) <<< (((qup (qup h 66 (h 60 6).toNatClampNeg a1) 67 ((qup h 66 (h 60 6).toNatClampNeg a1) 60 6).toNatClampNeg a2) 60 6) &&& 31)) ^^^ (-1 : Int32)))) 60 6 (((qup (qup (qup h 66 (h 60 6).toNatClampNeg a1) 67 ((qup h 66 (h 60 6).toNatClampNeg a1) 60 6).toNatClampNeg a2) 60 9 (((qup (qup h 66 (h 60 6).toNatClampNeg a1) 67 ((qup h 66 (h 60 6).toNatClampNeg a1) 60 6).toNatClampNeg a2) 60 9) &&& (((1 : Int32) <<< (((qup (qup h 66 (h 60 6).toNatClampNeg a1) 67 ((qup h 66 (h 60 6).toNatClampNeg a1) 60 6).toNatClampNeg a2) 60 6) &&& 31)) ^^^ (-1 : Int32)))) 60 6) + (1 : Int32))) e1288) ?_
  refine R_pop rfl rfl ?_
  refine R_ldA rfl rfl ?_
  refine R_get rfl sh_60 rfl rfl ?_
  refine R_I rfl ?_
  refine R_bin rfl ?_
  obtain ⟨rfl, rfl⟩ := qinj2 hf
  exact R_retI rfl
def f_X6_suit (N : Nat) (a1 : Int32) (a2 : Int32) (h : qN) : Option (Int32 × qN) :=
  qbind (f_X6_isSide a1 h) fun (x1290, h1289) =>
  if x1290 = 0 then
    some ((-1 : Int32), h1289)
  else
    qbind (f_X6_isSide a2 h1289) fun (x1294, h1293) =>
    if x1294 = 0 then
      some ((-1 : Int32), h1293)
    else
      if a1 = a2 then
        some ((-1 : Int32), h1293)
      else
        if (h1293 60 6) = (12 : Int32) then
          some ((-3 : Int32), h1293)
        else
          qbind (f_X6_comes N a1 a2 h1293) fun (x1300, h1299) =>
          some (x1300, h1299)
set_option maxRecDepth 100000 in
theorem t_X6_suit {d N : Nat} (hd : 4 ≤ d) (a1 : Int32) (a2 : Int32)  (h : qN) {v0 : Int32} {h1 : qN} (hf : f_X6_suit N a1 a2 h = some (v0, h1)) : EE d 115 [.ref 60, .int a1, .int a2] h (some (.int v0)) h1 := by
  obtain ⟨d, rfl⟩ : ∃ d0, d = d0 + 1 := ⟨d - 1, by omega⟩
  unfold f_X6_suit at hf
  refine E_intro qm_115 qc_115 (Nat.le_of_ble_eq_true rfl) rfl rfl ?_
  show RR d cd_X6_suit (0, 0) 0 [.ref 60, .int a1, .int a2] [] h (some (.int v0)) h1
  refine R_ldA rfl rfl ?_
  refine R_ldI rfl rfl ?_
  obtain ⟨⟨x1290, h1289⟩, e1291, hf⟩ := qbind_some hf
  dsimp only at hf
  refine R_callVi (as := [.ref 60, .int a1]) (rest := []) rfl rfl sh_60 rfl rfl rfl rfl (t_X6_isSide (by omega) a1 h e1291) ?_
  rcases qite hf with ⟨c1292, hf⟩ | ⟨c1292, hf⟩
  · refine R_IfEq_t rfl c1292 ?_
    refine R_I rfl ?_
    obtain ⟨rfl, rfl⟩ := qinj2 hf
    exact R_retI rfl
  · refine R_IfEq_f rfl c1292 ?_
    refine R_ldA rfl rfl ?_
    refine R_ldI rfl rfl ?_
    obtain ⟨⟨x1294, h1293⟩, e1295, hf⟩ := qbind_some hf
    dsimp only at hf
    refine R_callVi (as := [.ref 60, .int a2]) (rest := []) rfl rfl sh_60 rfl rfl rfl rfl (t_X6_isSide (by omega) a2 h1289 e1295) ?_
    rcases qite hf with ⟨c1296, hf⟩ | ⟨c1296, hf⟩
    · refine R_IfEq_t rfl c1296 ?_
      refine R_I rfl ?_
      obtain ⟨rfl, rfl⟩ := qinj2 hf
      exact R_retI rfl
    · refine R_IfEq_f rfl c1296 ?_
      refine R_ldI rfl rfl ?_
      refine R_ldI rfl rfl ?_
      rcases qite hf with ⟨c1297, hf⟩ | ⟨c1297, hf⟩
      · refine R_CmNe_f rfl c1297 ?_
        refine R_I rfl ?_
        obtain ⟨rfl, rfl⟩ := qinj2 hf
        exact R_retI rfl
      · refine R_CmNe_t rfl c1297 ?_
        refine R_ldA rfl rfl ?_
        refine R_get rfl sh_60 rfl rfl ?_
        refine R_I rfl ?_
        rcases qite hf with ⟨c1298, hf⟩ | ⟨c1298, hf⟩
        · refine R_CmNe_f rfl c1298 ?_
          refine R_I rfl ?_
          refine R_goto rfl ?_
          obtain ⟨rfl, rfl⟩ := qinj2 hf
          exact R_retI rfl
        · refine R_CmNe_t rfl c1298 ?_
          refine R_ldA rfl rfl ?_
          refine R_ldI rfl rfl ?_
          refine R_ldI rfl rfl ?_
          obtain ⟨⟨x1300, h1299⟩, e1301, hf⟩ := qbind_some hf
          dsimp only at hf
          refine R_callVi (as := [.ref 60, .int a1, .int a2]) (rest := []) rfl rfl sh_60 rfl rfl rfl rfl (t_X6_comes (N := N) (by omega) a1 a2 h1293 e1301) ?_
          obtain ⟨rfl, rfl⟩ := qinj2 hf
          exact R_retI rfl
def f_X6_told (a1 : Int32) (a2 : Int32) (h : qN) : Option (Int32 × qN) :=
  qbind (f_X6_in a1.toInt64 (0 : Int64) ((h 60 6) - (1 : Int32)).toInt64 h) fun (x1303, h1302) =>
  if x1303 = 0 then
    some ((-1 : Int32), h1302)
  else
    qbind (f_X6_in a2.toInt64 (0 : Int64) (4 : Int64) h1302) fun (x1307, h1306) =>
    if x1307 = 0 then
      some ((-1 : Int32), h1306)
    else
      if a2 = (0 : Int32) then
        if a1 < 0 ∨ 12 ≤ a1.toNatClampNeg then none else
        some ((h1306 66 a1.toNatClampNeg), h1306)
      else
      if a2 = (1 : Int32) then
        if a1 < 0 ∨ 12 ≤ a1.toNatClampNeg then none else
        some ((h1306 67 a1.toNatClampNeg), h1306)
      else
      if a2 = (2 : Int32) then
        if a1 < 0 ∨ 12 ≤ a1.toNatClampNeg then none else
        qbind (f_X6_stands (h1306 66 a1.toNatClampNeg) h1306) fun (x1317, h1316) =>
        some (x1317, h1316)
      else
      if a2 = (3 : Int32) then
        if a1 < 0 ∨ 12 ≤ a1.toNatClampNeg then none else
        qbind (f_X6_stands (h1306 67 a1.toNatClampNeg) h1306) fun (x1322, h1321) =>
        some (x1322, h1321)
      else
        some ((((h1306 60 9) >>> (a1 &&& 31)) &&& (1 : Int32)), h1306)
set_option maxRecDepth 100000 in
theorem t_X6_told {d : Nat} (hd : 2 ≤ d) (a1 : Int32) (a2 : Int32)  (h : qN) {v0 : Int32} {h1 : qN} (hf : f_X6_told a1 a2 h = some (v0, h1)) : EE d 116 [.ref 60, .int a1, .int a2] h (some (.int v0)) h1 := by
  obtain ⟨d, rfl⟩ : ∃ d0, d = d0 + 1 := ⟨d - 1, by omega⟩
  unfold f_X6_told at hf
  refine E_intro qm_116 qc_116 (Nat.le_of_ble_eq_true rfl) rfl rfl ?_
  show RR d cd_X6_told (0, 0) 0 [.ref 60, .int a1, .int a2] [] h (some (.int v0)) h1
  refine R_ldI rfl rfl ?_
  refine R_i2l rfl ?_
  refine R_L rfl ?_
  refine R_ldA rfl rfl ?_
  refine R_get rfl sh_60 rfl rfl ?_
  refine R_I rfl ?_
  refine R_bin rfl ?_
  refine R_i2l rfl ?_
  obtain ⟨⟨x1303, h1302⟩, e1304, hf⟩ := qbind_some hf
  dsimp only at hf
  refine R_callSi (as := [.long a1.toInt64, .long (0 : Int64), .long ((h 60 6) - (1 : Int32)).toInt64]) (rest := []) rfl rfl rfl rfl rfl rfl (t_X6_in (by omega) a1.toInt64 (0 : Int64) ((h 60 6) - (1 : Int32)).toInt64 h e1304) ?_
  rcases qite hf with ⟨c1305, hf⟩ | ⟨c1305, hf⟩
  · refine R_IfEq_t rfl c1305 ?_
    refine R_I rfl ?_
    obtain ⟨rfl, rfl⟩ := qinj2 hf
    exact R_retI rfl
  · refine R_IfEq_f rfl c1305 ?_
    refine R_ldI rfl rfl ?_
    refine R_i2l rfl ?_
    refine R_L rfl ?_
    refine R_L rfl ?_
    obtain ⟨⟨x1307, h1306⟩, e1308, hf⟩ := qbind_some hf
    dsimp only at hf
    refine R_callSi (as := [.long a2.toInt64, .long (0 : Int64), .long (4 : Int64)]) (rest := []) rfl rfl rfl rfl rfl rfl (t_X6_in (by omega) a2.toInt64 (0 : Int64) (4 : Int64) h1302 e1308) ?_
    rcases qite hf with ⟨c1309, hf⟩ | ⟨c1309, hf⟩
    · refine R_IfNe_f rfl c1309 ?_
      refine R_I rfl ?_
      obtain ⟨rfl, rfl⟩ := qinj2 hf
      exact R_retI rfl
    · refine R_IfNe_t rfl c1309 ?_
      refine R_ldI rfl rfl ?_
      rcases qite hf with ⟨c1310, hf⟩ | ⟨c1310, hf⟩
      · refine R_sw rfl (by rw [c1310]) ?_
        refine R_ldA rfl rfl ?_
        refine R_get rfl sh_60 rfl rfl ?_
        refine R_ldI rfl rfl ?_
        obtain ⟨c1311, hf⟩ := qchk hf
        refine R_ald rfl sh_66 c1311 ?_
        obtain ⟨rfl, rfl⟩ := qinj2 hf
        exact R_retI rfl
      · skip
        rcases qite hf with ⟨c1312, hf⟩ | ⟨c1312, hf⟩
        · refine R_sw rfl (by rw [c1312]) ?_
          refine R_ldA rfl rfl ?_
          refine R_get rfl sh_60 rfl rfl ?_
          refine R_ldI rfl rfl ?_
          obtain ⟨c1313, hf⟩ := qchk hf
          refine R_ald rfl sh_67 c1313 ?_
          obtain ⟨rfl, rfl⟩ := qinj2 hf
          exact R_retI rfl
        · skip
          rcases qite hf with ⟨c1314, hf⟩ | ⟨c1314, hf⟩
          · refine R_sw rfl (by rw [c1314]) ?_
            refine R_ldA rfl rfl ?_
            refine R_ldA rfl rfl ?_
            refine R_get rfl sh_60 rfl rfl ?_
            refine R_ldI rfl rfl ?_
            obtain ⟨c1315, hf⟩ := qchk hf
            refine R_ald rfl sh_66 c1315 ?_
            obtain ⟨⟨x1317, h1316⟩, e1318, hf⟩ := qbind_some hf
            dsimp only at hf
            refine R_callVi (as := [.ref 60, .int (h1306 66 a1.toNatClampNeg)]) (rest := []) rfl rfl sh_60 rfl rfl rfl rfl (t_X6_stands (by omega) (h1306 66 a1.toNatClampNeg) h1306 e1318) ?_
            obtain ⟨rfl, rfl⟩ := qinj2 hf
            exact R_retI rfl
          · skip
            rcases qite hf with ⟨c1319, hf⟩ | ⟨c1319, hf⟩
            · refine R_sw rfl (by rw [c1319]) ?_
              refine R_ldA rfl rfl ?_
              refine R_ldA rfl rfl ?_
              refine R_get rfl sh_60 rfl rfl ?_
              refine R_ldI rfl rfl ?_
              obtain ⟨c1320, hf⟩ := qchk hf
              refine R_ald rfl sh_67 c1320 ?_
              obtain ⟨⟨x1322, h1321⟩, e1323, hf⟩ := qbind_some hf
              dsimp only at hf
              refine R_callVi (as := [.ref 60, .int (h1306 67 a1.toNatClampNeg)]) (rest := []) rfl rfl sh_60 rfl rfl rfl rfl (t_X6_stands (by omega) (h1306 67 a1.toNatClampNeg) h1306 e1323) ?_
              obtain ⟨rfl, rfl⟩ := qinj2 hf
              exact R_retI rfl
            · skip
              refine R_sw rfl (sw_def (fun j hj => by (have hj2 : j = 0 ∨ j = 1 ∨ j = 2 ∨ j = 3 := by simpa using (show j < 4 from hj) |> fun z => by omega); rcases hj2 with rfl | rfl | rfl | rfl <;> assumption)) ?_
              refine R_ldA rfl rfl ?_
              refine R_get rfl sh_60 rfl rfl ?_
              refine R_ldI rfl rfl ?_
              refine R_bin rfl ?_
              refine R_I rfl ?_
              refine R_bin rfl ?_
              obtain ⟨rfl, rfl⟩ := qinj2 hf
              exact R_retI rfl
def f_X6_hand (a1 : Int32) (h : qN) : Option (Int32 × qN) :=
  qbind (f_X6_isThing a1 h) fun (x1325, h1324) =>
  if x1325 = 0 then
    some ((-1 : Int32), h1324)
  else
    if a1 < 0 ∨ 8 ≤ a1.toNatClampNeg then none else
    some ((h1324 64 a1.toNatClampNeg), h1324)
set_option maxRecDepth 100000 in
theorem t_X6_hand {d : Nat} (hd : 3 ≤ d) (a1 : Int32)  (h : qN) {v0 : Int32} {h1 : qN} (hf : f_X6_hand a1 h = some (v0, h1)) : EE d 117 [.ref 60, .int a1] h (some (.int v0)) h1 := by
  obtain ⟨d, rfl⟩ : ∃ d0, d = d0 + 1 := ⟨d - 1, by omega⟩
  unfold f_X6_hand at hf
  refine E_intro qm_117 qc_117 (Nat.le_of_ble_eq_true rfl) rfl rfl ?_
  show RR d cd_X6_hand (0, 0) 0 [.ref 60, .int a1] [] h (some (.int v0)) h1
  refine R_ldA rfl rfl ?_
  refine R_ldI rfl rfl ?_
  obtain ⟨⟨x1325, h1324⟩, e1326, hf⟩ := qbind_some hf
  dsimp only at hf
  refine R_callVi (as := [.ref 60, .int a1]) (rest := []) rfl rfl sh_60 rfl rfl rfl rfl (t_X6_isThing (by omega) a1 h e1326) ?_
  rcases qite hf with ⟨c1327, hf⟩ | ⟨c1327, hf⟩
  · refine R_IfEq_t rfl c1327 ?_
    refine R_I rfl ?_
    obtain ⟨rfl, rfl⟩ := qinj2 hf
    exact R_retI rfl
  · refine R_IfEq_f rfl c1327 ?_
    refine R_ldA rfl rfl ?_
    refine R_get rfl sh_60 rfl rfl ?_
    refine R_ldI rfl rfl ?_
    obtain ⟨c1328, hf⟩ := qchk hf
    refine R_ald rfl sh_64 c1328 ?_
    refine R_goto rfl ?_
    obtain ⟨rfl, rfl⟩ := qinj2 hf
    exact R_retI rfl
def f_X6_purse (a1 : Int32) (h : qN) : Option (Int32 × qN) :=
  qbind (f_X6_isPerson a1 h) fun (x1330, h1329) =>
  if x1330 = 0 then
    some ((-1 : Int32), h1329)
  else
    if a1 < 0 ∨ 6 ≤ a1.toNatClampNeg then none else
    some ((h1329 61 a1.toNatClampNeg), h1329)
set_option maxRecDepth 100000 in
theorem t_X6_purse {d : Nat} (hd : 3 ≤ d) (a1 : Int32)  (h : qN) {v0 : Int32} {h1 : qN} (hf : f_X6_purse a1 h = some (v0, h1)) : EE d 118 [.ref 60, .int a1] h (some (.int v0)) h1 := by
  obtain ⟨d, rfl⟩ : ∃ d0, d = d0 + 1 := ⟨d - 1, by omega⟩
  unfold f_X6_purse at hf
  refine E_intro qm_118 qc_118 (Nat.le_of_ble_eq_true rfl) rfl rfl ?_
  show RR d cd_X6_purse (0, 0) 0 [.ref 60, .int a1] [] h (some (.int v0)) h1
  refine R_ldI rfl rfl ?_
  obtain ⟨⟨x1330, h1329⟩, e1331, hf⟩ := qbind_some hf
  dsimp only at hf
  refine R_callSi (as := [.int a1]) (rest := []) rfl rfl rfl rfl rfl rfl (t_X6_isPerson (by omega) a1 h e1331) ?_
  rcases qite hf with ⟨c1332, hf⟩ | ⟨c1332, hf⟩
  · refine R_IfEq_t rfl c1332 ?_
    refine R_I rfl ?_
    obtain ⟨rfl, rfl⟩ := qinj2 hf
    exact R_retI rfl
  · refine R_IfEq_f rfl c1332 ?_
    refine R_ldA rfl rfl ?_
    refine R_get rfl sh_60 rfl rfl ?_
    refine R_ldI rfl rfl ?_
    obtain ⟨c1333, hf⟩ := qchk hf
    refine R_ald rfl sh_61 c1333 ?_
    refine R_goto rfl ?_
    obtain ⟨rfl, rfl⟩ := qinj2 hf
    exact R_retI rfl
def f_X6_standsIn_L4 (N : Nat) (l1 : Int32) : Nat → Int32 → Int32 → qN → Option (Int32 × qN)
  | 0, _, _, _ => none
  | n + 1, l2, l3, h =>
    if (h 60 6) ≤ l3 then
      some (l2, h)
    else
      qbind (f_X6_isOver l3 h) fun (x1336, h1335) =>
      qbind (
          if x1336 = 0 then
            if l3 < 0 ∨ 12 ≤ l3.toNatClampNeg then none else
            qbind (f_X6_stands (h1335 66 l3.toNatClampNeg) h1335) fun (x1341, h1340) =>
            if x1341 = l1 then
              some ((1 : Int32), h1340)
            else
              if l3 < 0 ∨ 12 ≤ l3.toNatClampNeg then none else
              qbind (f_X6_stands (h1340 67 l3.toNatClampNeg) h1340) fun (x1346, h1345) =>
              if x1346 = l1 then
                some ((1 : Int32), h1345)
              else
                some ((0 : Int32), h1345)
          else
            some ((0 : Int32), h1335) : Option (Int32 × qN)) fun (x1349, h1350) =>
      f_X6_standsIn_L4 N l1 n (l2 + x1349) (l3 + (1 : Int32)) h1350
set_option maxRecDepth 100000 in
theorem t_X6_standsIn_L4 {d N : Nat} (hd : 1 ≤ d) : ∀ (n : Nat) (l1 : Int32) (l2 : Int32) (l3 : Int32) (h : qN) (y2 : Int32) (h2 : qN), f_X6_standsIn_L4 N l1 n l2 l3 h = some (y2, h2) → ∀ (v : Option Value) (h1 : qN), RR d cd_X6_standsIn (0, 0) 62 [qU, qU, .int y2, qU] [] h2 v h1 → RR d cd_X6_standsIn (0, 0) 4 [.ref 60, .int l1, .int l2, .int l3] [] h v h1 := by
  intro n
  induction n with
  | zero =>
    intro l1 l2 l3 h y2 h2 hf v h1 hE
    exact absurd hf (by simp [f_X6_standsIn_L4])
  | succ n ih =>
    intro l1 l2 l3 h y2 h2 hf v h1 hE
    unfold f_X6_standsIn_L4 at hf
    refine R_ldI rfl rfl ?_
    refine R_ldA rfl rfl ?_
    refine R_get rfl sh_60 rfl rfl ?_
    rcases qite hf with ⟨c1334, hf⟩ | ⟨c1334, hf⟩
    · refine R_CmGe_t rfl c1334 ?_
      refine R_drop [false, false, true, false] (ls' := [qU, qU, .int l2, qU]) rfl ?_
      obtain ⟨rfl, rfl⟩ := qinj2 hf
      exact hE
    · refine R_CmGe_f rfl c1334 ?_
      refine R_ldI rfl rfl ?_
      refine R_ldA rfl rfl ?_
      refine R_ldI rfl rfl ?_
      obtain ⟨⟨x1336, h1335⟩, e1337, hf⟩ := qbind_some hf
      dsimp only at hf
      refine R_callVi (as := [.ref 60, .int l3]) (rest := [.int l2]) rfl rfl sh_60 rfl rfl rfl rfl (t_X6_isOver (by omega) l3 h e1337) ?_
      obtain ⟨⟨x1349, h1350⟩, e1351, hf⟩ := qbind_some hf
      dsimp only at hf
      have key : RR d cd_X6_standsIn (0, 0) 54 [.ref 60, .int l1, qU, .int l3] [.int x1349, .int l2] h1350 v h1 := by
        clear e1351
        refine R_bin rfl ?_
        refine R_stI (ls' := [.ref 60, .int l1, .int (l2 + x1349), .int l3]) rfl rfl rfl rfl ?_
        refine R_inc (ls' := [.ref 60, .int l1, .int (l2 + x1349), .int (l3 + (1 : Int32))]) rfl rfl rfl rfl ?_
        refine R_goto rfl ?_
        exact ih l1 (l2 + x1349) (l3 + (1 : Int32)) h1350 _ _ hf _ _ hE
      clear hf
      have hf := e1351
      clear e1351
      rcases qite hf with ⟨c1338, hf⟩ | ⟨c1338, hf⟩
      · refine R_IfNe_f rfl c1338 ?_
        refine R_ldA rfl rfl ?_
        refine R_ldA rfl rfl ?_
        refine R_get rfl sh_60 rfl rfl ?_
        refine R_ldI rfl rfl ?_
        obtain ⟨c1339, hf⟩ := qchk hf
        refine R_ald rfl sh_66 c1339 ?_
        obtain ⟨⟨x1341, h1340⟩, e1342, hf⟩ := qbind_some hf
        dsimp only at hf
        refine R_callVi (as := [.ref 60, .int (h1335 66 l3.toNatClampNeg)]) (rest := [.int l2]) rfl rfl sh_60 rfl rfl rfl rfl (t_X6_stands (by omega) (h1335 66 l3.toNatClampNeg) h1335 e1342) ?_
        refine R_ldI rfl rfl ?_
        rcases qite hf with ⟨c1343, hf⟩ | ⟨c1343, hf⟩
        · refine R_CmEq_t rfl c1343 ?_
          refine R_I rfl ?_
          refine R_goto rfl ?_
          refine R_drop [true, true, false, true] (ls' := [.ref 60, .int l1, qU, .int l3]) rfl ?_
          obtain ⟨rfl, rfl⟩ := qinj2 hf
          exact key
        · refine R_CmEq_f rfl c1343 ?_
          refine R_ldA rfl rfl ?_
          refine R_ldA rfl rfl ?_
          refine R_get rfl sh_60 rfl rfl ?_
          refine R_ldI rfl rfl ?_
          obtain ⟨c1344, hf⟩ := qchk hf
          refine R_ald rfl sh_67 c1344 ?_
          obtain ⟨⟨x1346, h1345⟩, e1347, hf⟩ := qbind_some hf
          dsimp only at hf
          refine R_callVi (as := [.ref 60, .int (h1340 67 l3.toNatClampNeg)]) (rest := [.int l2]) rfl rfl sh_60 rfl rfl rfl rfl (t_X6_stands (by omega) (h1340 67 l3.toNatClampNeg) h1340 e1347) ?_
          refine R_ldI rfl rfl ?_
          rcases qite hf with ⟨c1348, hf⟩ | ⟨c1348, hf⟩
          · refine R_CmNe_f rfl c1348 ?_
            refine R_I rfl ?_
            refine R_goto rfl ?_
            refine R_drop [true, true, false, true] (ls' := [.ref 60, .int l1, qU, .int l3]) rfl ?_
            obtain ⟨rfl, rfl⟩ := qinj2 hf
            exact key
          · refine R_CmNe_t rfl c1348 ?_
            refine R_I rfl ?_
            refine R_drop [true, true, false, true] (ls' := [.ref 60, .int l1, qU, .int l3]) rfl ?_
            obtain ⟨rfl, rfl⟩ := qinj2 hf
            exact key
      · refine R_IfNe_t rfl c1338 ?_
        refine R_I rfl ?_
        refine R_drop [true, true, false, true] (ls' := [.ref 60, .int l1, qU, .int l3]) rfl ?_
        obtain ⟨rfl, rfl⟩ := qinj2 hf
        exact key
def f_X6_standsIn (N : Nat) (a1 : Int32) (h : qN) : Option (Int32 × qN) :=
  qbind (f_X6_standsIn_L4 N a1 N (0 : Int32) (0 : Int32) h) fun (x1353, h1354) =>
  some (x1353, h1354)
set_option maxRecDepth 100000 in
theorem t_X6_standsIn {d N : Nat} (hd : 2 ≤ d) (a1 : Int32)  (h : qN) {v0 : Int32} {h1 : qN} (hf : f_X6_standsIn N a1 h = some (v0, h1)) : EE d 119 [.ref 60, .int a1] h (some (.int v0)) h1 := by
  obtain ⟨d, rfl⟩ : ∃ d0, d = d0 + 1 := ⟨d - 1, by omega⟩
  unfold f_X6_standsIn at hf
  refine E_intro qm_119 qc_119 (Nat.le_of_ble_eq_true rfl) rfl rfl ?_
  show RR d cd_X6_standsIn (0, 0) 0 [.ref 60, .int a1, qU, qU] [] h (some (.int v0)) h1
  refine R_I rfl ?_
  refine R_stI (ls' := [.ref 60, .int a1, .int (0 : Int32), qU]) rfl rfl rfl rfl ?_
  refine R_I rfl ?_
  refine R_stI (ls' := [.ref 60, .int a1, .int (0 : Int32), .int (0 : Int32)]) rfl rfl rfl rfl ?_
  obtain ⟨⟨x1353, h1354⟩, e1355, hf⟩ := qbind_some hf
  dsimp only at hf
  refine t_X6_standsIn_L4 (N := N) (by omega) _ a1 (0 : Int32) (0 : Int32) h x1353 h1354 e1355 _ _ ?_
  refine R_ldI rfl rfl ?_
  obtain ⟨rfl, rfl⟩ := qinj2 hf
  exact R_retI rfl
def f_X6_valueOf_L16 (N : Nat) (l1 : Int32) : Nat → Int32 → Int32 → qN → Option (Int32 × qN)
  | 0, _, _, _ => none
  | n + 1, l2, l3, h =>
    if (h 60 3) ≤ l3 then
      some (l2, h)
    else
      if l3 < 0 ∨ 8 ≤ l3.toNatClampNeg then none else
      qbind (
          if (h 64 l3.toNatClampNeg) = l1 then
            if (((6 : Int32) * l3) + l1) < 0 ∨ 48 ≤ (((6 : Int32) * l3) + l1).toNatClampNeg then none else
            some (h 65 (((6 : Int32) * l3) + l1).toNatClampNeg)
          else
            some (0 : Int32) : Option (Int32)) fun x1366 =>
      f_X6_valueOf_L16 N l1 n (l2 + x1366) (l3 + (1 : Int32)) h
set_option maxRecDepth 100000 in
theorem t_X6_valueOf_L16 {d N : Nat} (hd : 2 ≤ d) : ∀ (n : Nat) (l1 : Int32) (l2 : Int32) (l3 : Int32) (h : qN) (y2 : Int32) (h2 : qN), f_X6_valueOf_L16 N l1 n l2 l3 h = some (y2, h2) → ∀ (v : Option Value) (h1 : qN), RR d cd_X6_valueOf (0, 0) 58 [qU, qU, .int y2, qU] [] h2 v h1 → RR d cd_X6_valueOf (0, 0) 16 [.ref 60, .int l1, .int l2, .int l3] [] h v h1 := by
  intro n
  induction n with
  | zero =>
    intro l1 l2 l3 h y2 h2 hf v h1 hE
    exact absurd hf (by simp [f_X6_valueOf_L16])
  | succ n ih =>
    intro l1 l2 l3 h y2 h2 hf v h1 hE
    unfold f_X6_valueOf_L16 at hf
    refine R_ldI rfl rfl ?_
    refine R_ldA rfl rfl ?_
    refine R_get rfl sh_60 rfl rfl ?_
    rcases qite hf with ⟨c1362, hf⟩ | ⟨c1362, hf⟩
    · refine R_CmGe_t rfl c1362 ?_
      refine R_drop [false, false, true, false] (ls' := [qU, qU, .int l2, qU]) rfl ?_
      obtain ⟨rfl, rfl⟩ := qinj2 hf
      exact hE
    · refine R_CmGe_f rfl c1362 ?_
      refine R_ldI rfl rfl ?_
      refine R_ldA rfl rfl ?_
      refine R_get rfl sh_60 rfl rfl ?_
      refine R_ldI rfl rfl ?_
      obtain ⟨c1363, hf⟩ := qchk hf
      refine R_ald rfl sh_64 c1363 ?_
      refine R_ldI rfl rfl ?_
      obtain ⟨x1366, e1367, hf⟩ := qbind_some hf
      have key : RR d cd_X6_valueOf (0, 0) 50 [.ref 60, .int l1, qU, .int l3] [.int x1366, .int l2] h v h1 := by
        clear e1367
        refine R_bin rfl ?_
        refine R_stI (ls' := [.ref 60, .int l1, .int (l2 + x1366), .int l3]) rfl rfl rfl rfl ?_
        refine R_inc (ls' := [.ref 60, .int l1, .int (l2 + x1366), .int (l3 + (1 : Int32))]) rfl rfl rfl rfl ?_
        refine R_goto rfl ?_
        exact ih l1 (l2 + x1366) (l3 + (1 : Int32)) h _ _ hf _ _ hE
      clear hf
      have hf := e1367
      clear e1367
      rcases qite hf with ⟨c1364, hf⟩ | ⟨c1364, hf⟩
      · refine R_CmNe_f rfl c1364 ?_
        refine R_ldA rfl rfl ?_
        refine R_get rfl sh_60 rfl rfl ?_
        refine R_I rfl ?_
        refine R_ldI rfl rfl ?_
        refine R_bin rfl ?_
        refine R_ldI rfl rfl ?_
        refine R_bin rfl ?_
        obtain ⟨c1365, hf⟩ := qchk hf
        refine R_ald rfl sh_65 c1365 ?_
        refine R_goto rfl ?_
        refine R_drop [true, true, false, true] (ls' := [.ref 60, .int l1, qU, .int l3]) rfl ?_
        obtain rfl := Option.some.inj hf
        exact key
      · refine R_CmNe_t rfl c1364 ?_
        refine R_I rfl ?_
        refine R_drop [true, true, false, true] (ls' := [.ref 60, .int l1, qU, .int l3]) rfl ?_
        obtain rfl := Option.some.inj hf
        exact key
def f_X6_valueOf (N : Nat) (a1 : Int32) (h : qN) : Option (Int32 × qN) :=
  if a1 < 0 ∨ 6 ≤ a1.toNatClampNeg then none else
  qbind (f_X6_standsIn N a1 h) fun (x1360, h1359) =>
  qbind (f_X6_valueOf_L16 N a1 N ((-(h 62 a1.toNatClampNeg)) * x1360) (0 : Int32) h1359) fun (x1369, h1370) =>
  some (x1369, h1370)
set_option maxRecDepth 100000 in
theorem t_X6_valueOf {d N : Nat} (hd : 3 ≤ d) (a1 : Int32)  (h : qN) {v0 : Int32} {h1 : qN} (hf : f_X6_valueOf N a1 h = some (v0, h1)) : EE d 120 [.ref 60, .int a1] h (some (.int v0)) h1 := by
  obtain ⟨d, rfl⟩ : ∃ d0, d = d0 + 1 := ⟨d - 1, by omega⟩
  unfold f_X6_valueOf at hf
  refine E_intro qm_120 qc_120 (Nat.le_of_ble_eq_true rfl) rfl rfl ?_
  show RR d cd_X6_valueOf (0, 0) 0 [.ref 60, .int a1, qU, qU] [] h (some (.int v0)) h1
  refine R_ldA rfl rfl ?_
  refine R_get rfl sh_60 rfl rfl ?_
  refine R_ldI rfl rfl ?_
  obtain ⟨c1358, hf⟩ := qchk hf
  refine R_ald rfl sh_62 c1358 ?_
  refine R_un rfl ?_
  refine R_ldA rfl rfl ?_
  refine R_ldI rfl rfl ?_
  obtain ⟨⟨x1360, h1359⟩, e1361, hf⟩ := qbind_some hf
  dsimp only at hf
  refine R_callVi (as := [.ref 60, .int a1]) (rest := [.int (-(h 62 a1.toNatClampNeg))]) rfl rfl sh_60 rfl rfl rfl rfl (t_X6_standsIn (N := N) (by omega) a1 h e1361) ?_
  refine R_bin rfl ?_
  refine R_stI (ls' := [.ref 60, .int a1, .int ((-(h 62 a1.toNatClampNeg)) * x1360), qU]) rfl rfl rfl rfl ?_
  refine R_I rfl ?_
  refine R_stI (ls' := [.ref 60, .int a1, .int ((-(h 62 a1.toNatClampNeg)) * x1360), .int (0 : Int32)]) rfl rfl rfl rfl ?_
  obtain ⟨⟨x1369, h1370⟩, e1371, hf⟩ := qbind_some hf
  dsimp only at hf
  refine t_X6_valueOf_L16 (N := N) (by omega) _ a1 ((-(h 62 a1.toNatClampNeg)) * x1360) (0 : Int32) h1359 x1369 h1370 e1371 _ _ ?_
  refine R_ldI rfl rfl ?_
  obtain ⟨rfl, rfl⟩ := qinj2 hf
  exact R_retI rfl
def f_X6_value (N : Nat) (a1 : Int32) (h : qN) : Option (Int32 × qN) :=
  qbind (f_X6_isPerson a1 h) fun (x1375, h1374) =>
  if x1375 = 0 then
    some ((-100001 : Int32), h1374)
  else
    qbind (f_X6_valueOf N a1 h1374) fun (x1379, h1378) =>
    some (x1379, h1378)
set_option maxRecDepth 100000 in
theorem t_X6_value {d N : Nat} (hd : 4 ≤ d) (a1 : Int32)  (h : qN) {v0 : Int32} {h1 : qN} (hf : f_X6_value N a1 h = some (v0, h1)) : EE d 121 [.ref 60, .int a1] h (some (.int v0)) h1 := by
  obtain ⟨d, rfl⟩ : ∃ d0, d = d0 + 1 := ⟨d - 1, by omega⟩
  unfold f_X6_value at hf
  refine E_intro qm_121 qc_121 (Nat.le_of_ble_eq_true rfl) rfl rfl ?_
  show RR d cd_X6_value (0, 0) 0 [.ref 60, .int a1] [] h (some (.int v0)) h1
  refine R_ldI rfl rfl ?_
  obtain ⟨⟨x1375, h1374⟩, e1376, hf⟩ := qbind_some hf
  dsimp only at hf
  refine R_callSi (as := [.int a1]) (rest := []) rfl rfl rfl rfl rfl rfl (t_X6_isPerson (by omega) a1 h e1376) ?_
  rcases qite hf with ⟨c1377, hf⟩ | ⟨c1377, hf⟩
  · refine R_IfEq_t rfl c1377 ?_
    refine R_I rfl ?_
    obtain ⟨rfl, rfl⟩ := qinj2 hf
    exact R_retI rfl
  · refine R_IfEq_f rfl c1377 ?_
    refine R_ldA rfl rfl ?_
    refine R_ldI rfl rfl ?_
    obtain ⟨⟨x1379, h1378⟩, e1380, hf⟩ := qbind_some hf
    dsimp only at hf
    refine R_callVi (as := [.ref 60, .int a1]) (rest := []) rfl rfl sh_60 rfl rfl rfl rfl (t_X6_valueOf (N := N) (by omega) a1 h1374 e1380) ?_
    refine R_goto rfl ?_
    obtain ⟨rfl, rfl⟩ := qinj2 hf
    exact R_retI rfl
def f_X6_size_L4 (N : Nat) : Nat → Int32 → Int32 → qN → Option (Int32 × qN)
  | 0, _, _, _ => none
  | n + 1, l1, l2, h =>
    if l2 = 0 then
      some (l1, h)
    else
      f_X6_size_L4 N n (l1 + (1 : Int32)) (l2 &&& (l2 - (1 : Int32))) h
set_option maxRecDepth 100000 in
theorem t_X6_size_L4 {d N : Nat} (hd : 0 ≤ d) : ∀ (n : Nat) (l1 : Int32) (l2 : Int32) (h : qN) (y1 : Int32) (h2 : qN), f_X6_size_L4 N n l1 l2 h = some (y1, h2) → ∀ (v : Option Value) (h1 : qN), RR d cd_X6_size (0, 0) 20 [qU, .int y1, qU] [] h2 v h1 → RR d cd_X6_size (0, 0) 4 [qU, .int l1, .int l2] [] h v h1 := by
  intro n
  induction n with
  | zero =>
    intro l1 l2 h y1 h2 hf v h1 hE
    exact absurd hf (by simp [f_X6_size_L4])
  | succ n ih =>
    intro l1 l2 h y1 h2 hf v h1 hE
    unfold f_X6_size_L4 at hf
    refine R_ldI rfl rfl ?_
    rcases qite hf with ⟨c1381, hf⟩ | ⟨c1381, hf⟩
    · refine R_IfEq_t rfl c1381 ?_
      refine R_drop [true, true, false] (ls' := [qU, .int l1, qU]) rfl ?_
      obtain ⟨rfl, rfl⟩ := qinj2 hf
      exact hE
    · refine R_IfEq_f rfl c1381 ?_
      refine R_inc (ls' := [qU, .int (l1 + (1 : Int32)), .int l2]) rfl rfl rfl rfl ?_
      refine R_ldI rfl rfl ?_
      refine R_ldI rfl rfl ?_
      refine R_I rfl ?_
      refine R_bin rfl ?_
      refine R_bin rfl ?_
      refine R_stI (ls' := [qU, .int (l1 + (1 : Int32)), .int (l2 &&& (l2 - (1 : Int32)))]) rfl rfl rfl rfl ?_
      refine R_goto rfl ?_
      exact ih  (l1 + (1 : Int32)) (l2 &&& (l2 - (1 : Int32))) h _ _ hf _ _ hE
def f_X6_size (N : Nat) (a0 : Int32) (h : qN) : Option (Int32 × qN) :=
  qbind (f_X6_size_L4 N N (0 : Int32) a0 h) fun (x1383, h1384) =>
  some (x1383, h1384)
set_option maxRecDepth 100000 in
theorem t_X6_size {d N : Nat} (hd : 1 ≤ d) (a0 : Int32)  (h : qN) {v0 : Int32} {h1 : qN} (hf : f_X6_size N a0 h = some (v0, h1)) : EE d 122 [.int a0] h (some (.int v0)) h1 := by
  obtain ⟨d, rfl⟩ : ∃ d0, d = d0 + 1 := ⟨d - 1, by omega⟩
  unfold f_X6_size at hf
  refine E_intro qm_122 qc_122 (Nat.le_of_ble_eq_true rfl) rfl rfl ?_
  show RR d cd_X6_size (0, 0) 0 [.int a0, qU, qU] [] h (some (.int v0)) h1
  refine R_I rfl ?_
  refine R_stI (ls' := [.int a0, .int (0 : Int32), qU]) rfl rfl rfl rfl ?_
  refine R_ldI rfl rfl ?_
  refine R_stI (ls' := [.int a0, .int (0 : Int32), .int a0]) rfl rfl rfl rfl ?_
  refine R_drop [false, true, true] (ls' := [qU, .int (0 : Int32), .int a0]) rfl ?_
  obtain ⟨⟨x1383, h1384⟩, e1385, hf⟩ := qbind_some hf
  dsimp only at hf
  refine t_X6_size_L4 (N := N) (by omega) _  (0 : Int32) a0 h x1383 h1384 e1385 _ _ ?_
  refine R_ldI rfl rfl ?_
  obtain ⟨rfl, rfl⟩ := qinj2 hf
  exact R_retI rfl
def f_X6_costAll_L4 (N : Nat) : Nat → Int32 → Int32 → qN → Option (Int32 × qN)
  | 0, _, _, _ => none
  | n + 1, l1, l2, h =>
    if (6 : Int32) ≤ l2 then
      some (l1, h)
    else
      if l2 < 0 ∨ 6 ≤ l2.toNatClampNeg then none else
      qbind (f_X6_standsIn N l2 h) fun (x1391, h1390) =>
      f_X6_costAll_L4 N n (l1 + ((h 62 l2.toNatClampNeg) * x1391)) (l2 + (1 : Int32)) h1390
set_option maxRecDepth 100000 in
theorem t_X6_costAll_L4 {d N : Nat} (hd : 2 ≤ d) : ∀ (n : Nat) (l1 : Int32) (l2 : Int32) (h : qN) (y1 : Int32) (h2 : qN), f_X6_costAll_L4 N n l1 l2 h = some (y1, h2) → ∀ (v : Option Value) (h1 : qN), RR d cd_X6_costAll (0, 0) 31 [qU, .int y1, qU] [] h2 v h1 → RR d cd_X6_costAll (0, 0) 4 [.ref 60, .int l1, .int l2] [] h v h1 := by
  intro n
  induction n with
  | zero =>
    intro l1 l2 h y1 h2 hf v h1 hE
    exact absurd hf (by simp [f_X6_costAll_L4])
  | succ n ih =>
    intro l1 l2 h y1 h2 hf v h1 hE
    unfold f_X6_costAll_L4 at hf
    refine R_ldI rfl rfl ?_
    refine R_I rfl ?_
    rcases qite hf with ⟨c1388, hf⟩ | ⟨c1388, hf⟩
    · refine R_CmGe_t rfl c1388 ?_
      refine R_drop [false, true, false] (ls' := [qU, .int l1, qU]) rfl ?_
      obtain ⟨rfl, rfl⟩ := qinj2 hf
      exact hE
    · refine R_CmGe_f rfl c1388 ?_
      refine R_ldI rfl rfl ?_
      refine R_ldA rfl rfl ?_
      refine R_get rfl sh_60 rfl rfl ?_
      refine R_ldI rfl rfl ?_
      obtain ⟨c1389, hf⟩ := qchk hf
      refine R_ald rfl sh_62 c1389 ?_
      refine R_ldA rfl rfl ?_
      refine R_ldI rfl rfl ?_
      obtain ⟨⟨x1391, h1390⟩, e1392, hf⟩ := qbind_some hf
      dsimp only at hf
      refine R_callVi (as := [.ref 60, .int l2]) (rest := [.int (h 62 l2.toNatClampNeg), .int l1]) rfl rfl sh_60 rfl rfl rfl rfl (t_X6_standsIn (N := N) (by omega) l2 h e1392) ?_
      refine R_bin rfl ?_
      refine R_bin rfl ?_
      refine R_stI (ls' := [.ref 60, .int (l1 + ((h 62 l2.toNatClampNeg) * x1391)), .int l2]) rfl rfl rfl rfl ?_
      refine R_inc (ls' := [.ref 60, .int (l1 + ((h 62 l2.toNatClampNeg) * x1391)), .int (l2 + (1 : Int32))]) rfl rfl rfl rfl ?_
      refine R_goto rfl ?_
      exact ih  (l1 + ((h 62 l2.toNatClampNeg) * x1391)) (l2 + (1 : Int32)) h1390 _ _ hf _ _ hE
def f_X6_costAll (N : Nat) (h : qN) : Option (Int32 × qN) :=
  qbind (f_X6_costAll_L4 N N (0 : Int32) (0 : Int32) h) fun (x1394, h1395) =>
  some (x1394, h1395)
set_option maxRecDepth 100000 in
theorem t_X6_costAll {d N : Nat} (hd : 3 ≤ d)   (h : qN) {v0 : Int32} {h1 : qN} (hf : f_X6_costAll N  h = some (v0, h1)) : EE d 123 [.ref 60] h (some (.int v0)) h1 := by
  obtain ⟨d, rfl⟩ : ∃ d0, d = d0 + 1 := ⟨d - 1, by omega⟩
  unfold f_X6_costAll at hf
  refine E_intro qm_123 qc_123 (Nat.le_of_ble_eq_true rfl) rfl rfl ?_
  show RR d cd_X6_costAll (0, 0) 0 [.ref 60, qU, qU] [] h (some (.int v0)) h1
  refine R_I rfl ?_
  refine R_stI (ls' := [.ref 60, .int (0 : Int32), qU]) rfl rfl rfl rfl ?_
  refine R_I rfl ?_
  refine R_stI (ls' := [.ref 60, .int (0 : Int32), .int (0 : Int32)]) rfl rfl rfl rfl ?_
  obtain ⟨⟨x1394, h1395⟩, e1396, hf⟩ := qbind_some hf
  dsimp only at hf
  refine t_X6_costAll_L4 (N := N) (by omega) _  (0 : Int32) (0 : Int32) h x1394 h1395 e1396 _ _ ?_
  refine R_ldI rfl rfl ?_
  obtain ⟨rfl, rfl⟩ := qinj2 hf
  exact R_retI rfl
def f_X6_count (N : Nat) (a1 : Int32) (h : qN) : Option (Int32 × qN) :=
  if a1 = 0 then
    some ((h 60 3), h)
  else
    if a1 = (1 : Int32) then
      some ((h 60 6), h)
    else
      if a1 = (2 : Int32) then
        qbind (f_X6_size N (h 60 9) h) fun (x1403, h1402) =>
        some (x1403, h1402)
      else
        if a1 = (3 : Int32) then
          qbind (f_X6_costAll N  h) fun (x1407, h1406) =>
          some (x1407, h1406)
        else
          if a1 = (4 : Int32) then
            some ((h 60 10), h)
          else
            some ((-1 : Int32), h)
set_option maxRecDepth 100000 in
theorem t_X6_count {d N : Nat} (hd : 4 ≤ d) (a1 : Int32)  (h : qN) {v0 : Int32} {h1 : qN} (hf : f_X6_count N a1 h = some (v0, h1)) : EE d 124 [.ref 60, .int a1] h (some (.int v0)) h1 := by
  obtain ⟨d, rfl⟩ : ∃ d0, d = d0 + 1 := ⟨d - 1, by omega⟩
  unfold f_X6_count at hf
  refine E_intro qm_124 qc_124 (Nat.le_of_ble_eq_true rfl) rfl rfl ?_
  show RR d cd_X6_count (0, 0) 0 [.ref 60, .int a1] [] h (some (.int v0)) h1
  refine R_ldI rfl rfl ?_
  rcases qite hf with ⟨c1399, hf⟩ | ⟨c1399, hf⟩
  · refine R_IfNe_f rfl c1399 ?_
    refine R_ldA rfl rfl ?_
    refine R_get rfl sh_60 rfl rfl ?_
    refine R_goto rfl ?_
    obtain ⟨rfl, rfl⟩ := qinj2 hf
    exact R_retI rfl
  · refine R_IfNe_t rfl c1399 ?_
    refine R_ldI rfl rfl ?_
    refine R_I rfl ?_
    rcases qite hf with ⟨c1400, hf⟩ | ⟨c1400, hf⟩
    · refine R_CmNe_f rfl c1400 ?_
      refine R_ldA rfl rfl ?_
      refine R_get rfl sh_60 rfl rfl ?_
      refine R_goto rfl ?_
      obtain ⟨rfl, rfl⟩ := qinj2 hf
      exact R_retI rfl
    · refine R_CmNe_t rfl c1400 ?_
      refine R_ldI rfl rfl ?_
      refine R_I rfl ?_
      rcases qite hf with ⟨c1401, hf⟩ | ⟨c1401, hf⟩
      · refine R_CmNe_f rfl c1401 ?_
        refine R_ldA rfl rfl ?_
        refine R_get rfl sh_60 rfl rfl ?_
        obtain ⟨⟨x1403, h1402⟩, e1404, hf⟩ := qbind_some hf
        dsimp only at hf
        refine R_callSi (as := [.int (h 60 9)]) (rest := []) rfl rfl rfl rfl rfl rfl (t_X6_size (N := N) (by omega) (h 60 9) h e1404) ?_
        refine R_goto rfl ?_
        obtain ⟨rfl, rfl⟩ := qinj2 hf
        exact R_retI rfl
      · refine R_CmNe_t rfl c1401 ?_
        refine R_ldI rfl rfl ?_
        refine R_I rfl ?_
        rcases qite hf with ⟨c1405, hf⟩ | ⟨c1405, hf⟩
        · refine R_CmNe_f rfl c1405 ?_
          refine R_ldA rfl rfl ?_
          obtain ⟨⟨x1407, h1406⟩, e1408, hf⟩ := qbind_some hf
          dsimp only at hf
          refine R_callVi (as := [.ref 60]) (rest := []) rfl rfl sh_60 rfl rfl rfl rfl (t_X6_costAll (N := N) (by omega)  h e1408) ?_
          refine R_goto rfl ?_
          obtain ⟨rfl, rfl⟩ := qinj2 hf
          exact R_retI rfl
        · refine R_CmNe_t rfl c1405 ?_
          refine R_ldI rfl rfl ?_
          refine R_I rfl ?_
          rcases qite hf with ⟨c1409, hf⟩ | ⟨c1409, hf⟩
          · refine R_CmNe_f rfl c1409 ?_
            refine R_ldA rfl rfl ?_
            refine R_get rfl sh_60 rfl rfl ?_
            refine R_goto rfl ?_
            obtain ⟨rfl, rfl⟩ := qinj2 hf
            exact R_retI rfl
          · refine R_CmNe_t rfl c1409 ?_
            refine R_I rfl ?_
            obtain ⟨rfl, rfl⟩ := qinj2 hf
            exact R_retI rfl
def f_X6_type_L17 (N : Nat) (l1 : Int64) (l3 : Int32) : Nat → Int32 → qN → Option ((Int32 × qN) ⊕ (qN))
  | 0, _, _ => none
  | n + 1, l4, h =>
    if l3 ≤ l4 then
      some (.inr h)
    else
      qbind (f_X6_in ((l1 >>> (((8 : Int32) * l4).toInt64 &&& 63)) &&& (255 : Int64)) (32 : Int64) (126 : Int64) h) fun (x1416, h1415) =>
      if x1416 = 0 then
        some (.inl ((-1 : Int32), h1415))
      else
        f_X6_type_L17 N l1 l3 n (l4 + (1 : Int32)) h1415
set_option maxRecDepth 100000 in
theorem t_X6_type_L17 {d N : Nat} (hd : 1 ≤ d) : ∀ (n : Nat) (l1 : Int64) (l3 : Int32) (l4 : Int32) (h : qN) (res : (Int32 × qN) ⊕ (qN)), f_X6_type_L17 N l1 l3 n l4 h = some res → ∀ (v : Option Value) (h1 : qN), (∀ (rv : Int32) (rh : qN), res = .inl (rv, rh) → v = some (.int rv) ∧ h1 = rh) → (∀ (h2 : qN), res = .inr h2 → RR d cd_X6_type (0, 0) 54 [.ref 60, .long l1, qU, .int l3, qU] [] h2 v h1) → RR d cd_X6_type (0, 0) 17 [.ref 60, .long l1, qU, .int l3, .int l4] [] h v h1 := by
  intro n
  induction n with
  | zero =>
    intro l1 l3 l4 h res hf v h1 hR hE
    exact absurd hf (by simp [f_X6_type_L17])
  | succ n ih =>
    intro l1 l3 l4 h res hf v h1 hR hE
    unfold f_X6_type_L17 at hf
    refine R_ldI rfl rfl ?_
    refine R_ldI rfl rfl ?_
    rcases qite hf with ⟨c1414, hf⟩ | ⟨c1414, hf⟩
    · refine R_CmGe_t rfl c1414 ?_
      refine R_drop [true, true, true, true, false] (ls' := [.ref 60, .long l1, qU, .int l3, qU]) rfl ?_
      obtain rfl := Option.some.inj hf
      exact hE _ rfl
    · refine R_CmGe_f rfl c1414 ?_
      refine R_ldL rfl rfl ?_
      refine R_I rfl ?_
      refine R_ldI rfl rfl ?_
      refine R_bin rfl ?_
      refine R_lsh rfl ?_
      refine R_L rfl ?_
      refine R_lbin rfl ?_
      refine R_L rfl ?_
      refine R_L rfl ?_
      obtain ⟨⟨x1416, h1415⟩, e1417, hf⟩ := qbind_some hf
      dsimp only at hf
      refine R_callSi (as := [.long ((l1 >>> (((8 : Int32) * l4).toInt64 &&& 63)) &&& (255 : Int64)), .long (32 : Int64), .long (126 : Int64)]) (rest := []) rfl rfl rfl rfl rfl rfl (t_X6_in (by omega) ((l1 >>> (((8 : Int32) * l4).toInt64 &&& 63)) &&& (255 : Int64)) (32 : Int64) (126 : Int64) h e1417) ?_
      rcases qite hf with ⟨c1418, hf⟩ | ⟨c1418, hf⟩
      · refine R_IfNe_f rfl c1418 ?_
        refine R_I rfl ?_
        obtain rfl := Option.some.inj hf
        obtain ⟨rfl, rfl⟩ := hR _ _ rfl
        exact R_retI rfl
      · refine R_IfNe_t rfl c1418 ?_
        refine R_inc (ls' := [.ref 60, .long l1, qU, .int l3, .int (l4 + (1 : Int32))]) rfl rfl rfl rfl ?_
        refine R_goto rfl ?_
        exact ih l1 l3 (l4 + (1 : Int32)) h1415 _ hf _ _ hR hE
def f_X6_type_L73 (N : Nat) (l1 : Int64) : Nat → Int32 → qN → Option (qN)
  | 0, _, _ => none
  | n + 1, l4, h =>
    if l4 < 0 then
      some h
    else
      if (h 60 12) < 0 ∨ 80 ≤ (h 60 12).toNatClampNeg then none else
      f_X6_type_L73 N l1 n (l4 + (-1 : Int32)) (qup (qup h 68 (h 60 12).toNatClampNeg ((l1 >>> (((8 : Int32) * l4).toInt64 &&& 63)) &&& (255 : Int64)).toInt32) 60 12 (((qup h 68 (h 60 12).toNatClampNeg ((l1 >>> (((8 : Int32) * l4).toInt64 &&& 63)) &&& (255 : Int64)).toInt32) 60 12) + (1 : Int32)))
set_option maxRecDepth 100000 in
theorem t_X6_type_L73 {d N : Nat} (hd : 1 ≤ d) : ∀ (n : Nat) (l1 : Int64) (l4 : Int32) (h : qN) (h2 : qN), f_X6_type_L73 N l1 n l4 h = some h2 → ∀ (v : Option Value) (h1 : qN), RR d cd_X6_type (0, 0) 115 [.ref 60, qU, qU, qU, qU] [] h2 v h1 → RR d cd_X6_type (0, 0) 73 [.ref 60, .long l1, qU, qU, .int l4] [] h v h1 := by
  intro n
  induction n with
  | zero =>
    intro l1 l4 h h2 hf v h1 hE
    exact absurd hf (by simp [f_X6_type_L73])
  | succ n ih =>
    intro l1 l4 h h2 hf v h1 hE
    unfold f_X6_type_L73 at hf
    refine R_ldI rfl rfl ?_
    rcases qite hf with ⟨c1423, hf⟩ | ⟨c1423, hf⟩
    · refine R_IfLt_t rfl c1423 ?_
      refine R_drop [true, false, true, true, false] (ls' := [.ref 60, qU, qU, qU, qU]) rfl ?_
      obtain rfl := Option.some.inj hf
      exact hE
    · refine R_IfLt_f rfl c1423 ?_
      refine R_ldA rfl rfl ?_
      refine R_get rfl sh_60 rfl rfl ?_
      refine R_ldA rfl rfl ?_
      refine R_get rfl sh_60 rfl rfl ?_
      refine R_ldL rfl rfl ?_
      refine R_I rfl ?_
      refine R_ldI rfl rfl ?_
      refine R_bin rfl ?_
      refine R_lsh rfl ?_
      refine R_L rfl ?_
      refine R_lbin rfl ?_
      refine R_l2i rfl ?_
      obtain ⟨c1424, hf⟩ := qchk hf
      refine R_ast rfl sh_68 c1424 ?_
      refine R_ldA rfl rfl ?_
      refine R_dup rfl rfl ?_
      refine R_get rfl sh_60 rfl rfl ?_
      refine R_I rfl ?_
      refine R_bin rfl ?_
      refine R_putI rfl sh_60 rfl ?_
      refine R_inc (ls' := [.ref 60, .long l1, qU, qU, .int (l4 + (-1 : Int32))]) rfl rfl rfl rfl ?_
      refine R_goto rfl ?_
      exact ih l1 (l4 + (-1 : Int32)) (qup (qup h 68 (h 60 12).toNatClampNeg ((l1 >>> (((8 : Int32) * l4).toInt64 &&& 63)) &&& (255 : Int64)).toInt32) 60 12 (((qup h 68 (h 60 12).toNatClampNeg ((l1 >>> (((8 : Int32) * l4).toInt64 &&& 63)) &&& (255 : Int64)).toInt32) 60 12) + (1 : Int32))) _ hf _ _ hE
def f_X6_type (N : Nat) (a1 : Int64) (a3 : Int32) (h : qN) : Option (Int32 × qN) :=
  qbind (f_X6_in a3.toInt64 (1 : Int64) (8 : Int64) h) fun (x1411, h1410) =>
  if x1411 = 0 then
    some ((-1 : Int32), h1410)
  else
    qbind (f_X6_type_L17 N a1 a3 N (0 : Int32) h1410) fun
      | .inl (x1430, h1431) => some (x1430, h1431)
      | .inr h1420 =>
        if ((h1420 60 12) + a3) ≤ (80 : Int32) then
          qbind (f_X6_type_L73 N a1 N (a3 - (1 : Int32)) h1420) fun h1426 =>
          some ((h1426 60 12), h1426)
        else
          some ((-3 : Int32), h1420)
set_option maxRecDepth 100000 in
theorem t_X6_type {d N : Nat} (hd : 2 ≤ d) (a1 : Int64) (a3 : Int32)  (h : qN) {v0 : Int32} {h1 : qN} (hf : f_X6_type N a1 a3 h = some (v0, h1)) : EE d 125 [.ref 60, .long a1, .int a3] h (some (.int v0)) h1 := by
  obtain ⟨d, rfl⟩ : ∃ d0, d = d0 + 1 := ⟨d - 1, by omega⟩
  unfold f_X6_type at hf
  refine E_intro qm_125 qc_125 (Nat.le_of_ble_eq_true rfl) rfl rfl ?_
  show RR d cd_X6_type (0, 0) 0 [.ref 60, .long a1, qU, .int a3, qU] [] h (some (.int v0)) h1
  refine R_ldI rfl rfl ?_
  refine R_i2l rfl ?_
  refine R_L rfl ?_
  refine R_L rfl ?_
  obtain ⟨⟨x1411, h1410⟩, e1412, hf⟩ := qbind_some hf
  dsimp only at hf
  refine R_callSi (as := [.long a3.toInt64, .long (1 : Int64), .long (8 : Int64)]) (rest := []) rfl rfl rfl rfl rfl rfl (t_X6_in (by omega) a3.toInt64 (1 : Int64) (8 : Int64) h e1412) ?_
  rcases qite hf with ⟨c1413, hf⟩ | ⟨c1413, hf⟩
  · refine R_IfNe_f rfl c1413 ?_
    refine R_I rfl ?_
    obtain ⟨rfl, rfl⟩ := qinj2 hf
    exact R_retI rfl
  · refine R_IfNe_t rfl c1413 ?_
    refine R_I rfl ?_
    refine R_stI (ls' := [.ref 60, .long a1, qU, .int a3, .int (0 : Int32)]) rfl rfl rfl rfl ?_
    obtain ⟨⟨x1430, h1431⟩ | h1420, e1421, hf⟩ := qbind_some hf
    · dsimp only at hf
      refine t_X6_type_L17 (N := N) (by omega) _ a1 a3 (0 : Int32) h1410 _ e1421 _ _ (fun rv rh he => ?_) (fun _ he => by cases he)
      cases he
      obtain ⟨rfl, rfl⟩ := qinj2 hf
      exact ⟨rfl, rfl⟩
    · dsimp only at hf
      refine t_X6_type_L17 (N := N) (by omega) _ a1 a3 (0 : Int32) h1410 _ e1421 _ _ (fun _ _ he => by cases he) (fun z0 he => ?_)
      cases he
      refine R_ldA rfl rfl ?_
      refine R_get rfl sh_60 rfl rfl ?_
      refine R_ldI rfl rfl ?_
      refine R_bin rfl ?_
      refine R_I rfl ?_
      rcases qite hf with ⟨c1422, hf⟩ | ⟨c1422, hf⟩
      · refine R_CmLe_t rfl c1422 ?_
        refine R_ldI rfl rfl ?_
        refine R_I rfl ?_
        refine R_bin rfl ?_
        refine R_stI (ls' := [.ref 60, .long a1, qU, .int a3, .int (a3 - (1 : Int32))]) rfl rfl rfl rfl ?_
        refine R_drop [true, true, true, false, true] (ls' := [.ref 60, .long a1, qU, qU, .int (a3 - (1 : Int32))]) rfl ?_
        obtain ⟨h1426, e1427, hf⟩ := qbind_some hf
        refine t_X6_type_L73 (N := N) (by omega) _ a1 (a3 - (1 : Int32)) h1420 h1426 e1427 _ _ ?_
        refine R_ldA rfl rfl ?_
        refine R_get rfl sh_60 rfl rfl ?_
        obtain ⟨rfl, rfl⟩ := qinj2 hf
        exact R_retI rfl
      · refine R_CmLe_f rfl c1422 ?_
        refine R_I rfl ?_
        obtain ⟨rfl, rfl⟩ := qinj2 hf
        exact R_retI rfl
def f_X6_here_L0 (N : Nat) : Nat → qN → Option (qN)
  | 0, _ => none
  | n + 1, h =>
    if (h 60 12) ≤ (h 60 13) then
      some h
    else
      if (h 60 13) < 0 ∨ 80 ≤ (h 60 13).toNatClampNeg then none else
      if (h 68 (h 60 13).toNatClampNeg) = (32 : Int32) then
        f_X6_here_L0 N n (qup h 60 13 ((h 60 13) + (1 : Int32)))
      else
        some h
set_option maxRecDepth 100000 in
theorem t_X6_here_L0 {d N : Nat} (hd : 0 ≤ d) : ∀ (n : Nat) (h : qN) (h2 : qN), f_X6_here_L0 N n h = some h2 → ∀ (v : Option Value) (h1 : qN), RR d cd_X6_here (0, 0) 38 [.ref 60] [] h2 v h1 → RR d cd_X6_here (0, 0) 0 [.ref 60] [] h v h1 := by
  intro n
  induction n with
  | zero =>
    intro h h2 hf v h1 hE
    exact absurd hf (by simp [f_X6_here_L0])
  | succ n ih =>
    intro h h2 hf v h1 hE
    unfold f_X6_here_L0 at hf
    refine R_ldA rfl rfl ?_
    refine R_get rfl sh_60 rfl rfl ?_
    refine R_ldA rfl rfl ?_
    refine R_get rfl sh_60 rfl rfl ?_
    rcases qite hf with ⟨c1432, hf⟩ | ⟨c1432, hf⟩
    · refine R_CmGe_t rfl c1432 ?_
      obtain rfl := Option.some.inj hf
      exact hE
    · refine R_CmGe_f rfl c1432 ?_
      refine R_ldA rfl rfl ?_
      refine R_get rfl sh_60 rfl rfl ?_
      refine R_ldA rfl rfl ?_
      refine R_get rfl sh_60 rfl rfl ?_
      obtain ⟨c1433, hf⟩ := qchk hf
      refine R_ald rfl sh_68 c1433 ?_
      refine R_I rfl ?_
      rcases qite hf with ⟨c1434, hf⟩ | ⟨c1434, hf⟩
      · refine R_CmNe_f rfl c1434 ?_
        refine R_ldA rfl rfl ?_
        refine R_dup rfl rfl ?_
        refine R_get rfl sh_60 rfl rfl ?_
        refine R_I rfl ?_
        refine R_bin rfl ?_
        refine R_putI rfl sh_60 rfl ?_
        refine R_goto rfl ?_
        exact ih  (qup h 60 13 ((h 60 13) + (1 : Int32))) _ hf _ _ hE
      · refine R_CmNe_t rfl c1434 ?_
        obtain rfl := Option.some.inj hf
        exact hE
def f_X6_here (N : Nat) (h : qN) : Option (Int32 × qN) :=
  qbind (f_X6_here_L0 N N h) fun h1436 =>
  if (h1436 60 12) ≤ (h1436 60 13) then
    some ((0 : Int32), h1436)
  else
    if (h1436 60 13) < 0 ∨ 80 ≤ (h1436 60 13).toNatClampNeg then none else
    some ((h1436 68 (h1436 60 13).toNatClampNeg), h1436)
set_option maxRecDepth 100000 in
theorem t_X6_here {d N : Nat} (hd : 1 ≤ d)   (h : qN) {v0 : Int32} {h1 : qN} (hf : f_X6_here N  h = some (v0, h1)) : EE d 126 [.ref 60] h (some (.int v0)) h1 := by
  obtain ⟨d, rfl⟩ : ∃ d0, d = d0 + 1 := ⟨d - 1, by omega⟩
  unfold f_X6_here at hf
  refine E_intro qm_126 qc_126 (Nat.le_of_ble_eq_true rfl) rfl rfl ?_
  show RR d cd_X6_here (0, 0) 0 [.ref 60] [] h (some (.int v0)) h1
  obtain ⟨h1436, e1437, hf⟩ := qbind_some hf
  refine t_X6_here_L0 (N := N) (by omega) _  h h1436 e1437 _ _ ?_
  refine R_ldA rfl rfl ?_
  refine R_get rfl sh_60 rfl rfl ?_
  refine R_ldA rfl rfl ?_
  refine R_get rfl sh_60 rfl rfl ?_
  rcases qite hf with ⟨c1438, hf⟩ | ⟨c1438, hf⟩
  · refine R_CmGe_t rfl c1438 ?_
    refine R_I rfl ?_
    obtain ⟨rfl, rfl⟩ := qinj2 hf
    exact R_retI rfl
  · refine R_CmGe_f rfl c1438 ?_
    refine R_ldA rfl rfl ?_
    refine R_get rfl sh_60 rfl rfl ?_
    refine R_ldA rfl rfl ?_
    refine R_get rfl sh_60 rfl rfl ?_
    obtain ⟨c1439, hf⟩ := qchk hf
    refine R_ald rfl sh_68 c1439 ?_
    refine R_goto rfl ?_
    obtain ⟨rfl, rfl⟩ := qinj2 hf
    exact R_retI rfl
