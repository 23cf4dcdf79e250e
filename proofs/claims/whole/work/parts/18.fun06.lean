def f_X6_has (N : Nat) (a1 : Int32) (h : qN) : Option (Int32 × qN) :=
  qbind (
      if (h 60 14) = 0 then
        qbind (f_X6_here N  h) fun (x1444, h1443) =>
        if x1444 = a1 then
          some ((1 : Int32), h1443)
        else
          some ((0 : Int32), h1443)
      else
        some ((0 : Int32), h) : Option (Int32 × qN)) fun (x1447, h1448) =>
  if x1447 = 0 then
    if x1447 = 0 ∨ x1447 = 1 then
      some (x1447, (qup h1448 60 13 ((h1448 60 13) + (0 : Int32))))
    else none
  else
    if x1447 = 0 ∨ x1447 = 1 then
      some (x1447, (qup h1448 60 13 ((h1448 60 13) + (1 : Int32))))
    else none
set_option maxRecDepth 100000 in
theorem t_X6_has {d N : Nat} (hd : 2 ≤ d) (a1 : Int32)  (h : qN) {v0 : Int32} {h1 : qN} (hf : f_X6_has N a1 h = some (v0, h1)) : EE d 127 [.ref 60, .int a1] h (some (.int v0)) h1 := by
  obtain ⟨d, rfl⟩ : ∃ d0, d = d0 + 1 := ⟨d - 1, by omega⟩
  unfold f_X6_has at hf
  refine E_intro qm_127 qc_127 (Nat.le_of_ble_eq_true rfl) rfl rfl ?_
  show RR d cd_X6_has (0, 0) 0 [.ref 60, .int a1, qU] [] h (some (.int v0)) h1
  refine R_ldA rfl rfl ?_
  refine R_get rfl sh_60 rfl rfl ?_
  obtain ⟨⟨x1447, h1448⟩, e1452, hf⟩ := qbind_some hf
  dsimp only at hf
  have key : RR d cd_X6_has (0, 0) 20 [.ref 60, qU, qU] [.int x1447] h1448 (some (.int v0)) h1 := by
    clear e1452
    refine R_stI (ls' := [.ref 60, qU, .int x1447]) rfl rfl rfl rfl ?_
    refine R_ldA rfl rfl ?_
    refine R_dup rfl rfl ?_
    refine R_get rfl sh_60 rfl rfl ?_
    refine R_ldI rfl rfl ?_
    rcases qite hf with ⟨c1449, hf⟩ | ⟨c1449, hf⟩
    · refine R_IfEq_t rfl c1449 ?_
      refine R_I rfl ?_
      refine R_bin rfl ?_
      refine R_putI rfl sh_60 rfl ?_
      refine R_ldI rfl rfl ?_
      obtain ⟨c1450, hf⟩ := qreq hf
      obtain ⟨rfl, rfl⟩ := qinj2 hf
      exact R_retZ rfl c1450
    · refine R_IfEq_f rfl c1449 ?_
      refine R_I rfl ?_
      refine R_goto rfl ?_
      refine R_bin rfl ?_
      refine R_putI rfl sh_60 rfl ?_
      refine R_ldI rfl rfl ?_
      obtain ⟨c1451, hf⟩ := qreq hf
      obtain ⟨rfl, rfl⟩ := qinj2 hf
      exact R_retZ rfl c1451
  clear hf
  have hf := e1452
  clear e1452
  rcases qite hf with ⟨c1442, hf⟩ | ⟨c1442, hf⟩
  · refine R_IfNe_f rfl c1442 ?_
    refine R_ldA rfl rfl ?_
    obtain ⟨⟨x1444, h1443⟩, e1445, hf⟩ := qbind_some hf
    dsimp only at hf
    refine R_callVi (as := [.ref 60]) (rest := []) rfl rfl sh_60 rfl rfl rfl rfl (t_X6_here (N := N) (by omega)  h e1445) ?_
    refine R_ldI rfl rfl ?_
    rcases qite hf with ⟨c1446, hf⟩ | ⟨c1446, hf⟩
    · refine R_CmNe_f rfl c1446 ?_
      refine R_I rfl ?_
      refine R_goto rfl ?_
      refine R_drop [true, false, true] (ls' := [.ref 60, qU, qU]) rfl ?_
      obtain ⟨rfl, rfl⟩ := qinj2 hf
      exact key
    · refine R_CmNe_t rfl c1446 ?_
      refine R_I rfl ?_
      refine R_drop [true, false, true] (ls' := [.ref 60, qU, qU]) rfl ?_
      obtain ⟨rfl, rfl⟩ := qinj2 hf
      exact key
  · refine R_IfNe_t rfl c1442 ?_
    refine R_I rfl ?_
    refine R_drop [true, false, true] (ls' := [.ref 60, qU, qU]) rfl ?_
    obtain ⟨rfl, rfl⟩ := qinj2 hf
    exact key
def f_X6_digit (N : Nat) (a1 : Int32) (h : qN) : Option (Int32 × qN) :=
  qbind (
      if (h 60 14) = 0 then
        qbind (f_X6_here N  h) fun (x1455, h1454) =>
        qbind (f_X6_in x1455.toInt64 (48 : Int64) ((48 : Int32) + a1).toInt64 h1454) fun (x1458, h1457) =>
        if x1458 = 0 then
          some ((1 : Int32), h1457)
        else
          some ((0 : Int32), h1457)
      else
        some ((1 : Int32), h) : Option (Int32 × qN)) fun (x1461, h1462) =>
  if x1461 = 0 ∨ x1461 = 1 then
    qbind (
        if ((qup h1462 60 14 x1461) 60 14) = 0 then
          qbind (f_X6_here N  (qup h1462 60 14 x1461)) fun (x1466, h1465) =>
          some ((x1466 - (48 : Int32)), h1465)
        else
          some ((0 : Int32), (qup h1462 60 14 x1461)) : Option (Int32 × qN)) fun (x1468, h1469) =>
    if (h1469 60 14) = 0 then
      some (x1468, (qup h1469 60 13 ((h1469 60 13) + (1 : Int32))))
    else
      some (x1468, (qup h1469 60 13 ((h1469 60 13) + (0 : Int32))))
  else none
set_option maxRecDepth 100000 in
theorem t_X6_digit {d N : Nat} (hd : 2 ≤ d) (a1 : Int32)  (h : qN) {v0 : Int32} {h1 : qN} (hf : f_X6_digit N a1 h = some (v0, h1)) : EE d 128 [.ref 60, .int a1] h (some (.int v0)) h1 := by
  obtain ⟨d, rfl⟩ : ∃ d0, d = d0 + 1 := ⟨d - 1, by omega⟩
  unfold f_X6_digit at hf
  refine E_intro qm_128 qc_128 (Nat.le_of_ble_eq_true rfl) rfl rfl ?_
  show RR d cd_X6_digit (0, 0) 0 [.ref 60, .int a1, qU] [] h (some (.int v0)) h1
  refine R_ldA rfl rfl ?_
  refine R_ldA rfl rfl ?_
  refine R_get rfl sh_60 rfl rfl ?_
  obtain ⟨⟨x1461, h1462⟩, e1472, hf⟩ := qbind_some hf
  dsimp only at hf
  have key : RR d cd_X6_digit (0, 0) 32 [.ref 60, qU, qU] [.int x1461, .ref 60] h1462 (some (.int v0)) h1 := by
    clear e1472
    obtain ⟨c1463, hf⟩ := qreq hf
    refine R_putZ rfl sh_60 rfl c1463 ?_
    refine R_ldA rfl rfl ?_
    refine R_get rfl sh_60 rfl rfl ?_
    obtain ⟨⟨x1468, h1469⟩, e1471, hf⟩ := qbind_some hf
    dsimp only at hf
    have key : RR d cd_X6_digit (0, 0) 53 [.ref 60, qU, qU] [.int x1468] h1469 (some (.int v0)) h1 := by
      clear e1471
      refine R_stI (ls' := [.ref 60, qU, .int x1468]) rfl rfl rfl rfl ?_
      refine R_ldA rfl rfl ?_
      refine R_dup rfl rfl ?_
      refine R_get rfl sh_60 rfl rfl ?_
      refine R_ldA rfl rfl ?_
      refine R_get rfl sh_60 rfl rfl ?_
      rcases qite hf with ⟨c1470, hf⟩ | ⟨c1470, hf⟩
      · refine R_IfEq_t rfl c1470 ?_
        refine R_I rfl ?_
        refine R_bin rfl ?_
        refine R_putI rfl sh_60 rfl ?_
        refine R_ldI rfl rfl ?_
        obtain ⟨rfl, rfl⟩ := qinj2 hf
        exact R_retI rfl
      · refine R_IfEq_f rfl c1470 ?_
        refine R_I rfl ?_
        refine R_goto rfl ?_
        refine R_bin rfl ?_
        refine R_putI rfl sh_60 rfl ?_
        refine R_ldI rfl rfl ?_
        obtain ⟨rfl, rfl⟩ := qinj2 hf
        exact R_retI rfl
    clear hf
    have hf := e1471
    clear e1471
    rcases qite hf with ⟨c1464, hf⟩ | ⟨c1464, hf⟩
    · refine R_IfEq_t rfl c1464 ?_
      refine R_ldA rfl rfl ?_
      obtain ⟨⟨x1466, h1465⟩, e1467, hf⟩ := qbind_some hf
      dsimp only at hf
      refine R_callVi (as := [.ref 60]) (rest := []) rfl rfl sh_60 rfl rfl rfl rfl (t_X6_here (N := N) (by omega)  (qup h1462 60 14 x1461) e1467) ?_
      refine R_I rfl ?_
      refine R_bin rfl ?_
      obtain ⟨rfl, rfl⟩ := qinj2 hf
      exact key
    · refine R_IfEq_f rfl c1464 ?_
      refine R_I rfl ?_
      refine R_goto rfl ?_
      obtain ⟨rfl, rfl⟩ := qinj2 hf
      exact key
  clear hf
  have hf := e1472
  clear e1472
  rcases qite hf with ⟨c1453, hf⟩ | ⟨c1453, hf⟩
  · refine R_IfNe_f rfl c1453 ?_
    refine R_ldA rfl rfl ?_
    obtain ⟨⟨x1455, h1454⟩, e1456, hf⟩ := qbind_some hf
    dsimp only at hf
    refine R_callVi (as := [.ref 60]) (rest := [.ref 60]) rfl rfl sh_60 rfl rfl rfl rfl (t_X6_here (N := N) (by omega)  h e1456) ?_
    refine R_i2l rfl ?_
    refine R_L rfl ?_
    refine R_I rfl ?_
    refine R_ldI rfl rfl ?_
    refine R_bin rfl ?_
    refine R_i2l rfl ?_
    obtain ⟨⟨x1458, h1457⟩, e1459, hf⟩ := qbind_some hf
    dsimp only at hf
    refine R_callSi (as := [.long x1455.toInt64, .long (48 : Int64), .long ((48 : Int32) + a1).toInt64]) (rest := [.ref 60]) rfl rfl rfl rfl rfl rfl (t_X6_in (by omega) x1455.toInt64 (48 : Int64) ((48 : Int32) + a1).toInt64 h1454 e1459) ?_
    rcases qite hf with ⟨c1460, hf⟩ | ⟨c1460, hf⟩
    · refine R_IfNe_f rfl c1460 ?_
      refine R_I rfl ?_
      refine R_goto rfl ?_
      refine R_drop [true, false, true] (ls' := [.ref 60, qU, qU]) rfl ?_
      obtain ⟨rfl, rfl⟩ := qinj2 hf
      exact key
    · refine R_IfNe_t rfl c1460 ?_
      refine R_I rfl ?_
      refine R_drop [true, false, true] (ls' := [.ref 60, qU, qU]) rfl ?_
      obtain ⟨rfl, rfl⟩ := qinj2 hf
      exact key
  · refine R_IfNe_t rfl c1453 ?_
    refine R_I rfl ?_
    refine R_goto rfl ?_
    refine R_drop [true, false, true] (ls' := [.ref 60, qU, qU]) rfl ?_
    obtain ⟨rfl, rfl⟩ := qinj2 hf
    exact key
def f_X6_thingClause_L27 (N : Nat) (l1 : Int32) : Nat → Int32 → qN → Option (qN)
  | 0, _, _ => none
  | n + 1, l2, h =>
    if (7 : Int32) ≤ l2 then
      some h
    else
      qbind (f_X6_digit N (9 : Int32) h) fun (x1485, h1484) =>
      if (l1 + l2) < 0 ∨ 56 ≤ (l1 + l2).toNatClampNeg then none else
      f_X6_thingClause_L27 N l1 n (l2 + (1 : Int32)) (qup h1484 69 (l1 + l2).toNatClampNeg x1485)
set_option maxRecDepth 100000 in
theorem t_X6_thingClause_L27 {d N : Nat} (hd : 2 ≤ d) : ∀ (n : Nat) (l1 : Int32) (l2 : Int32) (h : qN) (h2 : qN), f_X6_thingClause_L27 N l1 n l2 h = some h2 → ∀ (v : Option Value) (h1 : qN), RR d cd_X6_thingClause (0, 0) 53 [qU, qU, qU] [] h2 v h1 → RR d cd_X6_thingClause (0, 0) 27 [.ref 60, .int l1, .int l2] [] h v h1 := by
  intro n
  induction n with
  | zero =>
    intro l1 l2 h h2 hf v h1 hE
    exact absurd hf (by simp [f_X6_thingClause_L27])
  | succ n ih =>
    intro l1 l2 h h2 hf v h1 hE
    unfold f_X6_thingClause_L27 at hf
    refine R_ldI rfl rfl ?_
    refine R_I rfl ?_
    rcases qite hf with ⟨c1483, hf⟩ | ⟨c1483, hf⟩
    · refine R_CmGe_t rfl c1483 ?_
      refine R_drop [false, false, false] (ls' := [qU, qU, qU]) rfl ?_
      obtain rfl := Option.some.inj hf
      exact hE
    · refine R_CmGe_f rfl c1483 ?_
      refine R_ldA rfl rfl ?_
      refine R_get rfl sh_60 rfl rfl ?_
      refine R_ldI rfl rfl ?_
      refine R_ldI rfl rfl ?_
      refine R_bin rfl ?_
      refine R_ldA rfl rfl ?_
      refine R_I rfl ?_
      obtain ⟨⟨x1485, h1484⟩, e1486, hf⟩ := qbind_some hf
      dsimp only at hf
      refine R_callVi (as := [.ref 60, .int (9 : Int32)]) (rest := [.int (l1 + l2), .ref 69]) rfl rfl sh_60 rfl rfl rfl rfl (t_X6_digit (N := N) (by omega) (9 : Int32) h e1486) ?_
      obtain ⟨c1487, hf⟩ := qchk hf
      refine R_ast rfl sh_69 c1487 ?_
      refine R_inc (ls' := [.ref 60, .int l1, .int (l2 + (1 : Int32))]) rfl rfl rfl rfl ?_
      refine R_goto rfl ?_
      exact ih l1 (l2 + (1 : Int32)) (qup h1484 69 (l1 + l2).toNatClampNeg x1485) _ hf _ _ hE
def f_X6_thingClause (N : Nat) (a1 : Int32) (h : qN) : Option (qN) :=
  qbind (f_X6_has N (45 : Int32) h) fun (x1474, h1473) =>
  qbind (
      if x1474 = 0 then
        qbind (f_X6_digit N (5 : Int32) h1473) fun (x1478, h1477) =>
        some (x1478, h1477)
      else
        some ((6 : Int32), h1473) : Option (Int32 × qN)) fun (x1480, h1481) =>
  if a1 < 0 ∨ 56 ≤ a1.toNatClampNeg then none else
  qbind (f_X6_thingClause_L27 N a1 N (1 : Int32) (qup h1481 69 a1.toNatClampNeg x1480)) fun h1489 =>
  some h1489
set_option maxRecDepth 100000 in
theorem t_X6_thingClause {d N : Nat} (hd : 3 ≤ d) (a1 : Int32)  (h : qN) {h1 : qN} (hf : f_X6_thingClause N a1 h = some h1) : EE d 129 [.ref 60, .int a1] h none h1 := by
  obtain ⟨d, rfl⟩ : ∃ d0, d = d0 + 1 := ⟨d - 1, by omega⟩
  unfold f_X6_thingClause at hf
  refine E_intro qm_129 qc_129 (Nat.le_of_ble_eq_true rfl) rfl rfl ?_
  show RR d cd_X6_thingClause (0, 0) 0 [.ref 60, .int a1, qU] [] h none h1
  refine R_ldA rfl rfl ?_
  refine R_get rfl sh_60 rfl rfl ?_
  refine R_ldI rfl rfl ?_
  refine R_ldA rfl rfl ?_
  refine R_I rfl ?_
  obtain ⟨⟨x1474, h1473⟩, e1475, hf⟩ := qbind_some hf
  dsimp only at hf
  refine R_callVi (as := [.ref 60, .int (45 : Int32)]) (rest := [.int a1, .ref 69]) rfl rfl sh_60 rfl rfl rfl rfl (t_X6_has (N := N) (by omega) (45 : Int32) h e1475) ?_
  obtain ⟨⟨x1480, h1481⟩, e1493, hf⟩ := qbind_some hf
  dsimp only at hf
  have key : RR d cd_X6_thingClause (0, 0) 24 [.ref 60, .int a1, qU] [.int x1480, .int a1, .ref 69] h1481 none h1 := by
    clear e1493
    obtain ⟨c1482, hf⟩ := qchk hf
    refine R_ast rfl sh_69 c1482 ?_
    refine R_I rfl ?_
    refine R_stI (ls' := [.ref 60, .int a1, .int (1 : Int32)]) rfl rfl rfl rfl ?_
    obtain ⟨h1489, e1490, hf⟩ := qbind_some hf
    refine t_X6_thingClause_L27 (N := N) (by omega) _ a1 (1 : Int32) (qup h1481 69 a1.toNatClampNeg x1480) h1489 e1490 _ _ ?_
    obtain rfl := Option.some.inj hf
    exact R_retV rfl
  clear hf
  have hf := e1493
  clear e1493
  rcases qite hf with ⟨c1476, hf⟩ | ⟨c1476, hf⟩
  · refine R_IfEq_t rfl c1476 ?_
    refine R_ldA rfl rfl ?_
    refine R_I rfl ?_
    obtain ⟨⟨x1478, h1477⟩, e1479, hf⟩ := qbind_some hf
    dsimp only at hf
    refine R_callVi (as := [.ref 60, .int (5 : Int32)]) (rest := [.int a1, .ref 69]) rfl rfl sh_60 rfl rfl rfl rfl (t_X6_digit (N := N) (by omega) (5 : Int32) h1473 e1479) ?_
    obtain ⟨rfl, rfl⟩ := qinj2 hf
    exact key
  · refine R_IfEq_f rfl c1476 ?_
    refine R_I rfl ?_
    refine R_goto rfl ?_
    obtain ⟨rfl, rfl⟩ := qinj2 hf
    exact key
def f_X6_side (N : Nat) (a1 : Int32) (h : qN) : Option (Int32 × qN) :=
  qbind (
      if (h 60 14) = 0 then
        qbind (f_X6_here N  h) fun (x1496, h1495) =>
        some (x1496, h1495)
      else
        some ((0 : Int32), h) : Option (Int32 × qN)) fun (x1498, h1499) =>
  qbind (f_X6_in x1498.toInt64 (97 : Int64) (104 : Int64) h1499) fun (x1501, h1500) =>
  qbind (
      if x1501 = 0 then
        qbind (f_X6_in x1498.toInt64 (48 : Int64) (53 : Int64) h1500) fun (x1505, h1504) =>
        if x1505 = 0 then
          some ((-4 : Int32), h1504)
        else
          some ((x1498 - (38 : Int32)), h1504)
      else
        qbind (f_X6_isThing (x1498 - (97 : Int32)) h1500) fun (x1509, h1508) =>
        if x1509 = 0 then
          qbind (f_X6_in x1498.toInt64 (48 : Int64) (53 : Int64) h1508) fun (x1513, h1512) =>
          if x1513 = 0 then
            some ((-4 : Int32), h1512)
          else
            some ((x1498 - (38 : Int32)), h1512)
        else
          some ((x1498 - (97 : Int32)), h1508) : Option (Int32 × qN)) fun (x1516, h1517) =>
  if (if (h1517 60 14) = 0 then (if x1516 < 0 then (1 : Int32) else (if x1516 = a1 then (1 : Int32) else (0 : Int32))) else (1 : Int32)) = 0 ∨ (if (h1517 60 14) = 0 then (if x1516 < 0 then (1 : Int32) else (if x1516 = a1 then (1 : Int32) else (0 : Int32))) else (1 : Int32)) = 1 then
    if ((qup h1517 60 14 (if (h1517 60 14) = 0 then (if x1516 < 0 then (1 : Int32) else (if x1516 = a1 then (1 : Int32) else (0 : Int32))) else (1 : Int32))) 60 14) = 0 then
      some (x1516, (qup (qup h1517 60 14 (if (h1517 60 14) = 0 then (if x1516 < 0 then (1 : Int32) else (if x1516 = a1 then (1 : Int32) else (0 : Int32))) else (1 : Int32))) 60 13 (((qup h1517 60 14 (if (h1517 60 14) = 0 then (if x1516 < 0 then (1 : Int32) else (if x1516 = a1 then (1 : Int32) else (0 : Int32))) else (1 : Int32))) 60 13) + (1 : Int32))))
    else
      some (x1516, (qup (qup h1517 60 14 (if (h1517 60 14) = 0 then (if x1516 < 0 then (1 : Int32) else (if x1516 = a1 then (1 : Int32) else (0 : Int32))) else (1 : Int32))) 60 13 (((qup h1517 60 14 (if (h1517 60 14) = 0 then (if x1516 < 0 then (1 : Int32) else (if x1516 = a1 then (1 : Int32) else (0 : Int32))) else (1 : Int32))) 60 13) + (0 : Int32))))
  else none
set_option maxRecDepth 100000 in
theorem t_X6_side {d N : Nat} (hd : 3 ≤ d) (a1 : Int32)  (h : qN) {v0 : Int32} {h1 : qN} (hf : f_X6_side N a1 h = some (v0, h1)) : EE d 130 [.ref 60, .int a1] h (some (.int v0)) h1 := by
  obtain ⟨d, rfl⟩ : ∃ d0, d = d0 + 1 := ⟨d - 1, by omega⟩
  unfold f_X6_side at hf
  refine E_intro qm_130 qc_130 (Nat.le_of_ble_eq_true rfl) rfl rfl ?_
  show RR d cd_X6_side (0, 0) 0 [.ref 60, .int a1, qU, qU] [] h (some (.int v0)) h1
  refine R_ldA rfl rfl ?_
  refine R_get rfl sh_60 rfl rfl ?_
  obtain ⟨⟨x1498, h1499⟩, e1524, hf⟩ := qbind_some hf
  dsimp only at hf
  have key : RR d cd_X6_side (0, 0) 15 [.ref 60, .int a1, qU, qU] [.int x1498] h1499 (some (.int v0)) h1 := by
    clear e1524
    refine R_stI (ls' := [.ref 60, .int a1, .int x1498, qU]) rfl rfl rfl rfl ?_
    refine R_ldI rfl rfl ?_
    refine R_i2l rfl ?_
    refine R_L rfl ?_
    refine R_L rfl ?_
    obtain ⟨⟨x1501, h1500⟩, e1502, hf⟩ := qbind_some hf
    dsimp only at hf
    refine R_callSi (as := [.long x1498.toInt64, .long (97 : Int64), .long (104 : Int64)]) (rest := []) rfl rfl rfl rfl rfl rfl (t_X6_in (by omega) x1498.toInt64 (97 : Int64) (104 : Int64) h1499 e1502) ?_
    obtain ⟨⟨x1516, h1517⟩, e1523, hf⟩ := qbind_some hf
    dsimp only at hf
    have key : RR d cd_X6_side (0, 0) 71 [.ref 60, .int a1, qU, qU] [.int x1516] h1517 (some (.int v0)) h1 := by
      clear e1523
      refine R_stI (ls' := [.ref 60, .int a1, qU, .int x1516]) rfl rfl rfl rfl ?_
      refine R_ldA rfl rfl ?_
      refine R_ldA rfl rfl ?_
      refine R_get rfl sh_60 rfl rfl ?_
      have key : RR d cd_X6_side (0, 0) 94 [.ref 60, qU, qU, .int x1516] [.int (if (h1517 60 14) = 0 then (if x1516 < 0 then (1 : Int32) else (if x1516 = a1 then (1 : Int32) else (0 : Int32))) else (1 : Int32)), .ref 60] h1517 (some (.int v0)) h1 := by
        obtain ⟨c1521, hf⟩ := qreq hf
        refine R_putZ rfl sh_60 rfl c1521 ?_
        refine R_ldA rfl rfl ?_
        refine R_dup rfl rfl ?_
        refine R_get rfl sh_60 rfl rfl ?_
        refine R_ldA rfl rfl ?_
        refine R_get rfl sh_60 rfl rfl ?_
        rcases qite hf with ⟨c1522, hf⟩ | ⟨c1522, hf⟩
        · refine R_IfEq_t rfl c1522 ?_
          refine R_I rfl ?_
          refine R_bin rfl ?_
          refine R_putI rfl sh_60 rfl ?_
          refine R_ldI rfl rfl ?_
          obtain ⟨rfl, rfl⟩ := qinj2 hf
          exact R_retI rfl
        · refine R_IfEq_f rfl c1522 ?_
          refine R_I rfl ?_
          refine R_goto rfl ?_
          refine R_bin rfl ?_
          refine R_putI rfl sh_60 rfl ?_
          refine R_ldI rfl rfl ?_
          obtain ⟨rfl, rfl⟩ := qinj2 hf
          exact R_retI rfl
      clear hf
      by_cases c1518 : (h1517 60 14) = 0
      · rw [show (if (h1517 60 14) = 0 then (if x1516 < 0 then (1 : Int32) else (if x1516 = a1 then (1 : Int32) else (0 : Int32))) else (1 : Int32)) = (if x1516 < 0 then (1 : Int32) else (if x1516 = a1 then (1 : Int32) else (0 : Int32))) from if_pos c1518] at key
        refine R_IfNe_f rfl c1518 ?_
        refine R_ldI rfl rfl ?_
        by_cases c1519 : x1516 < 0
        · rw [show (if x1516 < 0 then (1 : Int32) else (if x1516 = a1 then (1 : Int32) else (0 : Int32))) = (1 : Int32) from if_pos c1519] at key
          refine R_IfLt_t rfl c1519 ?_
          refine R_I rfl ?_
          refine R_goto rfl ?_
          refine R_drop [true, false, true, true] (ls' := [.ref 60, qU, qU, .int x1516]) rfl ?_
          exact key
        · rw [show (if x1516 < 0 then (1 : Int32) else (if x1516 = a1 then (1 : Int32) else (0 : Int32))) = (if x1516 = a1 then (1 : Int32) else (0 : Int32)) from if_neg c1519] at key
          refine R_IfLt_f rfl c1519 ?_
          refine R_ldI rfl rfl ?_
          refine R_ldI rfl rfl ?_
          by_cases c1520 : x1516 = a1
          · rw [show (if x1516 = a1 then (1 : Int32) else (0 : Int32)) = (1 : Int32) from if_pos c1520] at key
            refine R_CmNe_f rfl c1520 ?_
            refine R_I rfl ?_
            refine R_goto rfl ?_
            refine R_drop [true, false, true, true] (ls' := [.ref 60, qU, qU, .int x1516]) rfl ?_
            exact key
          · rw [show (if x1516 = a1 then (1 : Int32) else (0 : Int32)) = (0 : Int32) from if_neg c1520] at key
            refine R_CmNe_t rfl c1520 ?_
            refine R_I rfl ?_
            refine R_drop [true, false, true, true] (ls' := [.ref 60, qU, qU, .int x1516]) rfl ?_
            exact key
      · rw [show (if (h1517 60 14) = 0 then (if x1516 < 0 then (1 : Int32) else (if x1516 = a1 then (1 : Int32) else (0 : Int32))) else (1 : Int32)) = (1 : Int32) from if_neg c1518] at key
        refine R_IfNe_t rfl c1518 ?_
        refine R_I rfl ?_
        refine R_goto rfl ?_
        refine R_drop [true, false, true, true] (ls' := [.ref 60, qU, qU, .int x1516]) rfl ?_
        exact key
    clear hf
    have hf := e1523
    clear e1523
    rcases qite hf with ⟨c1503, hf⟩ | ⟨c1503, hf⟩
    · refine R_IfEq_t rfl c1503 ?_
      refine R_ldI rfl rfl ?_
      refine R_i2l rfl ?_
      refine R_L rfl ?_
      refine R_L rfl ?_
      obtain ⟨⟨x1505, h1504⟩, e1506, hf⟩ := qbind_some hf
      dsimp only at hf
      refine R_callSi (as := [.long x1498.toInt64, .long (48 : Int64), .long (53 : Int64)]) (rest := []) rfl rfl rfl rfl rfl rfl (t_X6_in (by omega) x1498.toInt64 (48 : Int64) (53 : Int64) h1500 e1506) ?_
      rcases qite hf with ⟨c1507, hf⟩ | ⟨c1507, hf⟩
      · refine R_IfEq_t rfl c1507 ?_
        refine R_I rfl ?_
        refine R_drop [true, true, false, true] (ls' := [.ref 60, .int a1, qU, qU]) rfl ?_
        obtain ⟨rfl, rfl⟩ := qinj2 hf
        exact key
      · refine R_IfEq_f rfl c1507 ?_
        refine R_ldI rfl rfl ?_
        refine R_I rfl ?_
        refine R_bin rfl ?_
        refine R_goto rfl ?_
        refine R_drop [true, true, false, true] (ls' := [.ref 60, .int a1, qU, qU]) rfl ?_
        obtain ⟨rfl, rfl⟩ := qinj2 hf
        exact key
    · refine R_IfEq_f rfl c1503 ?_
      refine R_ldA rfl rfl ?_
      refine R_ldI rfl rfl ?_
      refine R_I rfl ?_
      refine R_bin rfl ?_
      obtain ⟨⟨x1509, h1508⟩, e1510, hf⟩ := qbind_some hf
      dsimp only at hf
      refine R_callVi (as := [.ref 60, .int (x1498 - (97 : Int32))]) (rest := []) rfl rfl sh_60 rfl rfl rfl rfl (t_X6_isThing (by omega) (x1498 - (97 : Int32)) h1500 e1510) ?_
      rcases qite hf with ⟨c1511, hf⟩ | ⟨c1511, hf⟩
      · refine R_IfEq_t rfl c1511 ?_
        refine R_ldI rfl rfl ?_
        refine R_i2l rfl ?_
        refine R_L rfl ?_
        refine R_L rfl ?_
        obtain ⟨⟨x1513, h1512⟩, e1514, hf⟩ := qbind_some hf
        dsimp only at hf
        refine R_callSi (as := [.long x1498.toInt64, .long (48 : Int64), .long (53 : Int64)]) (rest := []) rfl rfl rfl rfl rfl rfl (t_X6_in (by omega) x1498.toInt64 (48 : Int64) (53 : Int64) h1508 e1514) ?_
        rcases qite hf with ⟨c1515, hf⟩ | ⟨c1515, hf⟩
        · refine R_IfEq_t rfl c1515 ?_
          refine R_I rfl ?_
          refine R_drop [true, true, false, true] (ls' := [.ref 60, .int a1, qU, qU]) rfl ?_
          obtain ⟨rfl, rfl⟩ := qinj2 hf
          exact key
        · refine R_IfEq_f rfl c1515 ?_
          refine R_ldI rfl rfl ?_
          refine R_I rfl ?_
          refine R_bin rfl ?_
          refine R_goto rfl ?_
          refine R_drop [true, true, false, true] (ls' := [.ref 60, .int a1, qU, qU]) rfl ?_
          obtain ⟨rfl, rfl⟩ := qinj2 hf
          exact key
      · refine R_IfEq_f rfl c1511 ?_
        refine R_ldI rfl rfl ?_
        refine R_I rfl ?_
        refine R_bin rfl ?_
        refine R_goto rfl ?_
        refine R_drop [true, true, false, true] (ls' := [.ref 60, .int a1, qU, qU]) rfl ?_
        obtain ⟨rfl, rfl⟩ := qinj2 hf
        exact key
  clear hf
  have hf := e1524
  clear e1524
  rcases qite hf with ⟨c1494, hf⟩ | ⟨c1494, hf⟩
  · refine R_IfEq_t rfl c1494 ?_
    refine R_ldA rfl rfl ?_
    obtain ⟨⟨x1496, h1495⟩, e1497, hf⟩ := qbind_some hf
    dsimp only at hf
    refine R_callVi (as := [.ref 60]) (rest := []) rfl rfl sh_60 rfl rfl rfl rfl (t_X6_here (N := N) (by omega)  h e1497) ?_
    obtain ⟨rfl, rfl⟩ := qinj2 hf
    exact key
  · refine R_IfEq_f rfl c1494 ?_
    refine R_I rfl ?_
    refine R_goto rfl ?_
    obtain ⟨rfl, rfl⟩ := qinj2 hf
    exact key
def f_X6_readAll_L14 (N : Nat) (l1 : Int32) : Nat → Int32 → Int32 → qN → Option (Int32 × qN)
  | 0, _, _, _ => none
  | n + 1, l2, l3, h =>
    if l3 = 0 then
      some (l2, h)
    else
      qbind (
          if l1 = 0 then
            qbind (f_X6_side N (-4 : Int32) h) fun (x1528, h1527) =>
            if ((2 : Int32) * l2) < 0 ∨ 56 ≤ ((2 : Int32) * l2).toNatClampNeg then none else
            if ((2 : Int32) * l2) < 0 ∨ 56 ≤ ((2 : Int32) * l2).toNatClampNeg then none else
            qbind (f_X6_side N ((qup h1527 69 ((2 : Int32) * l2).toNatClampNeg x1528) 69 ((2 : Int32) * l2).toNatClampNeg) (qup h1527 69 ((2 : Int32) * l2).toNatClampNeg x1528)) fun (x1533, h1532) =>
            if (((2 : Int32) * l2) + (1 : Int32)) < 0 ∨ 56 ≤ (((2 : Int32) * l2) + (1 : Int32)).toNatClampNeg then none else
            some (qup h1532 69 (((2 : Int32) * l2) + (1 : Int32)).toNatClampNeg x1533)
          else
            qbind (f_X6_thingClause N ((7 : Int32) * l2) h) fun h1536 =>
            some h1536 : Option (qN)) fun h1538 =>
      qbind (
          if (if l1 = 0 then (12 : Int32) else (8 : Int32)) ≤ (l2 + (1 : Int32)) then
            some ((0 : Int32), h1538)
          else
            qbind (f_X6_has N (if l1 = 0 then (44 : Int32) else (59 : Int32)) h1538) fun (x1543, h1542) =>
            if x1543 = 0 then
              some ((0 : Int32), h1542)
            else
              some ((1 : Int32), h1542) : Option (Int32 × qN)) fun (x1546, h1547) =>
      f_X6_readAll_L14 N l1 n (l2 + (1 : Int32)) x1546 h1547
set_option maxRecDepth 100000 in
theorem t_X6_readAll_L14 {d N : Nat} (hd : 3 ≤ d) : ∀ (n : Nat) (l1 : Int32) (l2 : Int32) (l3 : Int32) (h : qN) (y2 : Int32) (h2 : qN), f_X6_readAll_L14 N l1 n l2 l3 h = some (y2, h2) → ∀ (v : Option Value) (h1 : qN), RR d cd_X6_readAll (0, 0) 114 [.ref 60, qU, .int y2, qU] [] h2 v h1 → RR d cd_X6_readAll (0, 0) 14 [.ref 60, .int l1, .int l2, .int l3] [] h v h1 := by
  intro n
  induction n with
  | zero =>
    intro l1 l2 l3 h y2 h2 hf v h1 hE
    exact absurd hf (by simp [f_X6_readAll_L14])
  | succ n ih =>
    intro l1 l2 l3 h y2 h2 hf v h1 hE
    unfold f_X6_readAll_L14 at hf
    refine R_ldI rfl rfl ?_
    rcases qite hf with ⟨c1525, hf⟩ | ⟨c1525, hf⟩
    · refine R_IfEq_t rfl c1525 ?_
      refine R_drop [true, false, true, false] (ls' := [.ref 60, qU, .int l2, qU]) rfl ?_
      obtain ⟨rfl, rfl⟩ := qinj2 hf
      exact hE
    · refine R_IfEq_f rfl c1525 ?_
      refine R_ldI rfl rfl ?_
      obtain ⟨h1538, e1549, hf⟩ := qbind_some hf
      have key : RR d cd_X6_readAll (0, 0) 69 [.ref 60, .int l1, .int l2, qU] [] h1538 v h1 := by
        clear e1549
        refine R_inc (ls' := [.ref 60, .int l1, .int (l2 + (1 : Int32)), qU]) rfl rfl rfl rfl ?_
        refine R_ldI rfl rfl ?_
        refine R_ldI rfl rfl ?_
        have key : RR d cd_X6_readAll (0, 0) 84 [.ref 60, .int l1, .int (l2 + (1 : Int32)), qU] [.int (if l1 = 0 then (12 : Int32) else (8 : Int32)), .int (l2 + (1 : Int32))] h1538 v h1 := by
          obtain ⟨⟨x1546, h1547⟩, e1548, hf⟩ := qbind_some hf
          dsimp only at hf
          have key : RR d cd_X6_readAll (0, 0) 110 [.ref 60, .int l1, .int (l2 + (1 : Int32)), qU] [.int x1546] h1547 v h1 := by
            clear e1548
            refine R_stI (ls' := [.ref 60, .int l1, .int (l2 + (1 : Int32)), .int x1546]) rfl rfl rfl rfl ?_
            refine R_goto rfl ?_
            exact ih l1 (l2 + (1 : Int32)) x1546 h1547 _ _ hf _ _ hE
          clear hf
          have hf := e1548
          clear e1548
          rcases qite hf with ⟨c1540, hf⟩ | ⟨c1540, hf⟩
          · refine R_CmGe_t rfl c1540 ?_
            refine R_I rfl ?_
            obtain ⟨rfl, rfl⟩ := qinj2 hf
            exact key
          · refine R_CmGe_f rfl c1540 ?_
            refine R_ldA rfl rfl ?_
            refine R_ldI rfl rfl ?_
            have key : RR d cd_X6_readAll (0, 0) 99 [.ref 60, .int l1, .int (l2 + (1 : Int32)), qU] [.int (if l1 = 0 then (44 : Int32) else (59 : Int32)), .ref 60] h1538 v h1 := by
              obtain ⟨⟨x1543, h1542⟩, e1544, hf⟩ := qbind_some hf
              dsimp only at hf
              refine R_callVi (as := [.ref 60, .int (if l1 = 0 then (44 : Int32) else (59 : Int32))]) (rest := []) rfl rfl sh_60 rfl rfl rfl rfl (t_X6_has (N := N) (by omega) (if l1 = 0 then (44 : Int32) else (59 : Int32)) h1538 e1544) ?_
              rcases qite hf with ⟨c1545, hf⟩ | ⟨c1545, hf⟩
              · refine R_IfEq_t rfl c1545 ?_
                refine R_I rfl ?_
                obtain ⟨rfl, rfl⟩ := qinj2 hf
                exact key
              · refine R_IfEq_f rfl c1545 ?_
                refine R_I rfl ?_
                refine R_goto rfl ?_
                obtain ⟨rfl, rfl⟩ := qinj2 hf
                exact key
            clear hf
            by_cases c1541 : l1 = 0
            · rw [show (if l1 = 0 then (44 : Int32) else (59 : Int32)) = (44 : Int32) from if_pos c1541] at key
              refine R_IfEq_t rfl c1541 ?_
              refine R_I rfl ?_
              exact key
            · rw [show (if l1 = 0 then (44 : Int32) else (59 : Int32)) = (59 : Int32) from if_neg c1541] at key
              refine R_IfEq_f rfl c1541 ?_
              refine R_I rfl ?_
              refine R_goto rfl ?_
              exact key
        clear hf
        by_cases c1539 : l1 = 0
        · rw [show (if l1 = 0 then (12 : Int32) else (8 : Int32)) = (12 : Int32) from if_pos c1539] at key
          refine R_IfEq_t rfl c1539 ?_
          refine R_I rfl ?_
          exact key
        · rw [show (if l1 = 0 then (12 : Int32) else (8 : Int32)) = (8 : Int32) from if_neg c1539] at key
          refine R_IfEq_f rfl c1539 ?_
          refine R_I rfl ?_
          refine R_goto rfl ?_
          exact key
      clear hf
      have hf := e1549
      clear e1549
      rcases qite hf with ⟨c1526, hf⟩ | ⟨c1526, hf⟩
      · refine R_IfEq_t rfl c1526 ?_
        refine R_ldA rfl rfl ?_
        refine R_get rfl sh_60 rfl rfl ?_
        refine R_I rfl ?_
        refine R_ldI rfl rfl ?_
        refine R_bin rfl ?_
        refine R_ldA rfl rfl ?_
        refine R_I rfl ?_
        obtain ⟨⟨x1528, h1527⟩, e1529, hf⟩ := qbind_some hf
        dsimp only at hf
        refine R_callVi (as := [.ref 60, .int (-4 : Int32)]) (rest := [.int ((2 : Int32) * l2), .ref 69]) rfl rfl sh_60 rfl rfl rfl rfl (t_X6_side (N := N) (by omega) (-4 : Int32) h e1529) ?_
        obtain ⟨c1530, hf⟩ := qchk hf
        refine R_ast rfl sh_69 c1530 ?_
        refine R_ldA rfl rfl ?_
        refine R_get rfl sh_60 rfl rfl ?_
        refine R_I rfl ?_
        refine R_ldI rfl rfl ?_
        refine R_bin rfl ?_
        refine R_I rfl ?_
        refine R_bin rfl ?_
        refine R_ldA rfl rfl ?_
        refine R_ldA rfl rfl ?_
        refine R_get rfl sh_60 rfl rfl ?_
        refine R_I rfl ?_
        refine R_ldI rfl rfl ?_
        refine R_bin rfl ?_
        obtain ⟨c1531, hf⟩ := qchk hf
        refine R_ald rfl sh_69 c1531 ?_
        obtain ⟨⟨x1533, h1532⟩, e1534, hf⟩ := qbind_some hf
        dsimp only at hf
        refine R_callVi (as := [.ref 60, .int ((qup h1527 69 ((2 : Int32) * l2).toNatClampNeg x1528) 69 ((2 : Int32) * l2).toNatClampNeg)]) (rest := [.int (((2 : Int32) * l2) + (1 : Int32)), .ref 69]) rfl rfl sh_60 rfl rfl rfl rfl (t_X6_side (N := N) (by omega) ((qup h1527 69 ((2 : Int32) * l2).toNatClampNeg x1528) 69 ((2 : Int32) * l2).toNatClampNeg) (qup h1527 69 ((2 : Int32) * l2).toNatClampNeg x1528) e1534) ?_
        obtain ⟨c1535, hf⟩ := qchk hf
        refine R_ast rfl sh_69 c1535 ?_
        refine R_drop [true, true, true, false] (ls' := [.ref 60, .int l1, .int l2, qU]) rfl ?_
        obtain rfl := Option.some.inj hf
        exact key
      · refine R_IfEq_f rfl c1526 ?_
        refine R_ldA rfl rfl ?_
        refine R_I rfl ?_
        refine R_ldI rfl rfl ?_
        refine R_bin rfl ?_
        obtain ⟨h1536, e1537, hf⟩ := qbind_some hf
        refine R_callVv (as := [.ref 60, .int ((7 : Int32) * l2)]) (rest := []) rfl rfl sh_60 rfl rfl rfl rfl (t_X6_thingClause (N := N) (by omega) ((7 : Int32) * l2) h e1537) ?_
        refine R_goto rfl ?_
        refine R_drop [true, true, true, false] (ls' := [.ref 60, .int l1, .int l2, qU]) rfl ?_
        obtain rfl := Option.some.inj hf
        exact key
def f_X6_readAll (N : Nat) (a1 : Int32) (h : qN) : Option (Int32 × qN) :=
  qbind (f_X6_readAll_L14 N a1 N (0 : Int32) (1 : Int32) (qup (qup h 60 13 (0 : Int32)) 60 14 (0 : Int32))) fun (x1551, h1552) =>
  qbind (
      if (h1552 60 14) = 0 then
        qbind (f_X6_here N  h1552) fun (x1556, h1555) =>
        if x1556 = 0 then
          some ((0 : Int32), h1555)
        else
          some ((1 : Int32), h1555)
      else
        some ((1 : Int32), h1552) : Option (Int32 × qN)) fun (x1559, h1560) =>
  if x1559 = 0 ∨ x1559 = 1 then
    if ((qup (qup h1560 60 14 x1559) 60 12 (0 : Int32)) 60 14) = 0 then
      some (x1551, (qup (qup h1560 60 14 x1559) 60 12 (0 : Int32)))
    else
      some (((-20 : Int32) - ((qup (qup h1560 60 14 x1559) 60 12 (0 : Int32)) 60 13)), (qup (qup h1560 60 14 x1559) 60 12 (0 : Int32)))
  else none
set_option maxRecDepth 100000 in
theorem t_X6_readAll {d N : Nat} (hd : 4 ≤ d) (a1 : Int32)  (h : qN) {v0 : Int32} {h1 : qN} (hf : f_X6_readAll N a1 h = some (v0, h1)) : EE d 131 [.ref 60, .int a1] h (some (.int v0)) h1 := by
  obtain ⟨d, rfl⟩ : ∃ d0, d = d0 + 1 := ⟨d - 1, by omega⟩
  unfold f_X6_readAll at hf
  refine E_intro qm_131 qc_131 (Nat.le_of_ble_eq_true rfl) rfl rfl ?_
  show RR d cd_X6_readAll (0, 0) 0 [.ref 60, .int a1, qU, qU] [] h (some (.int v0)) h1
  refine R_ldA rfl rfl ?_
  refine R_I rfl ?_
  refine R_putI rfl sh_60 rfl ?_
  refine R_ldA rfl rfl ?_
  refine R_I rfl ?_
  refine R_putZ rfl sh_60 rfl (by decide) ?_
  refine R_I rfl ?_
  refine R_stI (ls' := [.ref 60, .int a1, .int (0 : Int32), qU]) rfl rfl rfl rfl ?_
  refine R_I rfl ?_
  refine R_stI (ls' := [.ref 60, .int a1, .int (0 : Int32), .int (1 : Int32)]) rfl rfl rfl rfl ?_
  obtain ⟨⟨x1551, h1552⟩, e1553, hf⟩ := qbind_some hf
  dsimp only at hf
  refine t_X6_readAll_L14 (N := N) (by omega) _ a1 (0 : Int32) (1 : Int32) (qup (qup h 60 13 (0 : Int32)) 60 14 (0 : Int32)) x1551 h1552 e1553 _ _ ?_
  refine R_ldA rfl rfl ?_
  refine R_ldA rfl rfl ?_
  refine R_get rfl sh_60 rfl rfl ?_
  obtain ⟨⟨x1559, h1560⟩, e1563, hf⟩ := qbind_some hf
  dsimp only at hf
  have key : RR d cd_X6_readAll (0, 0) 134 [.ref 60, qU, .int x1551, qU] [.int x1559, .ref 60] h1560 (some (.int v0)) h1 := by
    clear e1563
    obtain ⟨c1561, hf⟩ := qreq hf
    refine R_putZ rfl sh_60 rfl c1561 ?_
    refine R_ldA rfl rfl ?_
    refine R_I rfl ?_
    refine R_putI rfl sh_60 rfl ?_
    refine R_ldA rfl rfl ?_
    refine R_get rfl sh_60 rfl rfl ?_
    rcases qite hf with ⟨c1562, hf⟩ | ⟨c1562, hf⟩
    · refine R_IfEq_t rfl c1562 ?_
      refine R_ldI rfl rfl ?_
      obtain ⟨rfl, rfl⟩ := qinj2 hf
      exact R_retI rfl
    · refine R_IfEq_f rfl c1562 ?_
      refine R_I rfl ?_
      refine R_ldA rfl rfl ?_
      refine R_get rfl sh_60 rfl rfl ?_
      refine R_bin rfl ?_
      refine R_goto rfl ?_
      obtain ⟨rfl, rfl⟩ := qinj2 hf
      exact R_retI rfl
  clear hf
  have hf := e1563
  clear e1563
  rcases qite hf with ⟨c1554, hf⟩ | ⟨c1554, hf⟩
  · refine R_IfNe_f rfl c1554 ?_
    refine R_ldA rfl rfl ?_
    obtain ⟨⟨x1556, h1555⟩, e1557, hf⟩ := qbind_some hf
    dsimp only at hf
    refine R_callVi (as := [.ref 60]) (rest := [.ref 60]) rfl rfl sh_60 rfl rfl rfl rfl (t_X6_here (N := N) (by omega)  h1552 e1557) ?_
    rcases qite hf with ⟨c1558, hf⟩ | ⟨c1558, hf⟩
    · refine R_IfEq_t rfl c1558 ?_
      refine R_I rfl ?_
      obtain ⟨rfl, rfl⟩ := qinj2 hf
      exact key
    · refine R_IfEq_f rfl c1558 ?_
      refine R_I rfl ?_
      refine R_goto rfl ?_
      obtain ⟨rfl, rfl⟩ := qinj2 hf
      exact key
  · refine R_IfNe_t rfl c1554 ?_
    refine R_I rfl ?_
    refine R_goto rfl ?_
    obtain ⟨rfl, rfl⟩ := qinj2 hf
    exact key
def f_X6_village_L49 (N : Nat) (l1 : Int32) (l2 : Int32) : Nat → Int32 → qN → Option (qN)
  | 0, _, _ => none
  | n + 1, l3, h =>
    if (6 : Int32) ≤ l3 then
      some h
    else
      if ((((7 : Int32) * l2) + (1 : Int32)) + l3) < 0 ∨ 56 ≤ ((((7 : Int32) * l2) + (1 : Int32)) + l3).toNatClampNeg then none else
      if (((6 : Int32) * l2) + l3) < 0 ∨ 48 ≤ (((6 : Int32) * l2) + l3).toNatClampNeg then none else
      f_X6_village_L49 N l1 l2 n (l3 + (1 : Int32)) (qup h 65 (((6 : Int32) * l2) + l3).toNatClampNeg (h 69 ((((7 : Int32) * l2) + (1 : Int32)) + l3).toNatClampNeg))
set_option maxRecDepth 100000 in
theorem t_X6_village_L49 {d N : Nat} (hd : 4 ≤ d) : ∀ (n : Nat) (l1 : Int32) (l2 : Int32) (l3 : Int32) (h : qN) (h2 : qN), f_X6_village_L49 N l1 l2 n l3 h = some h2 → ∀ (v : Option Value) (h1 : qN), RR d cd_X6_village (0, 0) 85 [.ref 60, .int l1, .int l2, qU] [] h2 v h1 → RR d cd_X6_village (0, 0) 49 [.ref 60, .int l1, .int l2, .int l3] [] h v h1 := by
  intro n
  induction n with
  | zero =>
    intro l1 l2 l3 h h2 hf v h1 hE
    exact absurd hf (by simp [f_X6_village_L49])
  | succ n ih =>
    intro l1 l2 l3 h h2 hf v h1 hE
    unfold f_X6_village_L49 at hf
    refine R_ldI rfl rfl ?_
    refine R_I rfl ?_
    rcases qite hf with ⟨c1574, hf⟩ | ⟨c1574, hf⟩
    · refine R_CmGe_t rfl c1574 ?_
      refine R_drop [true, true, true, false] (ls' := [.ref 60, .int l1, .int l2, qU]) rfl ?_
      obtain rfl := Option.some.inj hf
      exact hE
    · refine R_CmGe_f rfl c1574 ?_
      refine R_ldA rfl rfl ?_
      refine R_get rfl sh_60 rfl rfl ?_
      refine R_I rfl ?_
      refine R_ldI rfl rfl ?_
      refine R_bin rfl ?_
      refine R_ldI rfl rfl ?_
      refine R_bin rfl ?_
      refine R_ldA rfl rfl ?_
      refine R_get rfl sh_60 rfl rfl ?_
      refine R_I rfl ?_
      refine R_ldI rfl rfl ?_
      refine R_bin rfl ?_
      refine R_I rfl ?_
      refine R_bin rfl ?_
      refine R_ldI rfl rfl ?_
      refine R_bin rfl ?_
      obtain ⟨c1575, hf⟩ := qchk hf
      refine R_ald rfl sh_69 c1575 ?_
      obtain ⟨c1576, hf⟩ := qchk hf
      refine R_ast rfl sh_65 c1576 ?_
      refine R_inc (ls' := [.ref 60, .int l1, .int l2, .int (l3 + (1 : Int32))]) rfl rfl rfl rfl ?_
      refine R_goto rfl ?_
      exact ih l1 l2 (l3 + (1 : Int32)) (qup h 65 (((6 : Int32) * l2) + l3).toNatClampNeg (h 69 ((((7 : Int32) * l2) + (1 : Int32)) + l3).toNatClampNeg)) _ hf _ _ hE
def f_X6_village_L27 (N : Nat) (l1 : Int32) : Nat → Int32 → qN → Option (qN)
  | 0, _, _ => none
  | n + 1, l2, h =>
    if l1 ≤ l2 then
      some h
    else
      if ((7 : Int32) * l2) < 0 ∨ 56 ≤ ((7 : Int32) * l2).toNatClampNeg then none else
      if l2 < 0 ∨ 8 ≤ l2.toNatClampNeg then none else
      qbind (f_X6_village_L49 N l1 l2 N (0 : Int32) (qup h 64 l2.toNatClampNeg (h 69 ((7 : Int32) * l2).toNatClampNeg))) fun h1578 =>
      f_X6_village_L27 N l1 n (l2 + (1 : Int32)) h1578
set_option maxRecDepth 100000 in
theorem t_X6_village_L27 {d N : Nat} (hd : 4 ≤ d) : ∀ (n : Nat) (l1 : Int32) (l2 : Int32) (h : qN) (h2 : qN), f_X6_village_L27 N l1 n l2 h = some h2 → ∀ (v : Option Value) (h1 : qN), RR d cd_X6_village (0, 0) 91 [qU, .int l1, qU, qU] [] h2 v h1 → RR d cd_X6_village (0, 0) 27 [.ref 60, .int l1, .int l2, qU] [] h v h1 := by
  intro n
  induction n with
  | zero =>
    intro l1 l2 h h2 hf v h1 hE
    exact absurd hf (by simp [f_X6_village_L27])
  | succ n ih =>
    intro l1 l2 h h2 hf v h1 hE
    unfold f_X6_village_L27 at hf
    refine R_ldI rfl rfl ?_
    refine R_ldI rfl rfl ?_
    rcases qite hf with ⟨c1571, hf⟩ | ⟨c1571, hf⟩
    · refine R_CmGe_t rfl c1571 ?_
      refine R_drop [false, true, false, true] (ls' := [qU, .int l1, qU, qU]) rfl ?_
      obtain rfl := Option.some.inj hf
      exact hE
    · refine R_CmGe_f rfl c1571 ?_
      refine R_ldA rfl rfl ?_
      refine R_get rfl sh_60 rfl rfl ?_
      refine R_ldI rfl rfl ?_
      refine R_ldA rfl rfl ?_
      refine R_get rfl sh_60 rfl rfl ?_
      refine R_I rfl ?_
      refine R_ldI rfl rfl ?_
      refine R_bin rfl ?_
      obtain ⟨c1572, hf⟩ := qchk hf
      refine R_ald rfl sh_69 c1572 ?_
      obtain ⟨c1573, hf⟩ := qchk hf
      refine R_ast rfl sh_64 c1573 ?_
      refine R_I rfl ?_
      refine R_stI (ls' := [.ref 60, .int l1, .int l2, .int (0 : Int32)]) rfl rfl rfl rfl ?_
      obtain ⟨h1578, e1579, hf⟩ := qbind_some hf
      refine t_X6_village_L49 (N := N) (by omega) _ l1 l2 (0 : Int32) (qup h 64 l2.toNatClampNeg (h 69 ((7 : Int32) * l2).toNatClampNeg)) h1578 e1579 _ _ ?_
      refine R_inc (ls' := [.ref 60, .int l1, .int (l2 + (1 : Int32)), qU]) rfl rfl rfl rfl ?_
      refine R_goto rfl ?_
      exact ih l1 (l2 + (1 : Int32)) h1578 _ hf _ _ hE
def f_X6_village (N : Nat) (h : qN) : Option (Int32 × qN) :=
  qbind (f_X6_readAll N (1 : Int32) h) fun (x1567, h1566) =>
  qbind (
      if x1567 ≤ 0 then
        some h1566
      else
        some (qup (qup (qup h1566 60 3 x1567) 60 6 (0 : Int32)) 60 9 (0 : Int32)) : Option (qN)) fun h1570 =>
  qbind (f_X6_village_L27 N x1567 N (0 : Int32) h1570) fun h1583 =>
  some (x1567, h1583)
set_option maxRecDepth 100000 in
theorem t_X6_village {d N : Nat} (hd : 5 ≤ d)   (h : qN) {v0 : Int32} {h1 : qN} (hf : f_X6_village N  h = some (v0, h1)) : EE d 132 [.ref 60] h (some (.int v0)) h1 := by
  obtain ⟨d, rfl⟩ : ∃ d0, d = d0 + 1 := ⟨d - 1, by omega⟩
  unfold f_X6_village at hf
  refine E_intro qm_132 qc_132 (Nat.le_of_ble_eq_true rfl) rfl rfl ?_
  show RR d cd_X6_village (0, 0) 0 [.ref 60, qU, qU, qU] [] h (some (.int v0)) h1
  refine R_ldA rfl rfl ?_
  refine R_I rfl ?_
  obtain ⟨⟨x1567, h1566⟩, e1568, hf⟩ := qbind_some hf
  dsimp only at hf
  refine R_callVi (as := [.ref 60, .int (1 : Int32)]) (rest := []) rfl rfl sh_60 rfl rfl rfl rfl (t_X6_readAll (N := N) (by omega) (1 : Int32) h e1568) ?_
  refine R_stI (ls' := [.ref 60, .int x1567, qU, qU]) rfl rfl rfl rfl ?_
  refine R_ldI rfl rfl ?_
  obtain ⟨h1570, e1587, hf⟩ := qbind_some hf
  have key : RR d cd_X6_village (0, 0) 25 [.ref 60, .int x1567, qU, qU] [] h1570 (some (.int v0)) h1 := by
    clear e1587
    refine R_I rfl ?_
    refine R_stI (ls' := [.ref 60, .int x1567, .int (0 : Int32), qU]) rfl rfl rfl rfl ?_
    obtain ⟨h1583, e1584, hf⟩ := qbind_some hf
    refine t_X6_village_L27 (N := N) (by omega) _ x1567 (0 : Int32) h1570 h1583 e1584 _ _ ?_
    refine R_ldI rfl rfl ?_
    obtain ⟨rfl, rfl⟩ := qinj2 hf
    exact R_retI rfl
  clear hf
  have hf := e1587
  clear e1587
  rcases qite hf with ⟨c1569, hf⟩ | ⟨c1569, hf⟩
  · refine R_IfLe_t rfl c1569 ?_
    obtain rfl := Option.some.inj hf
    exact key
  · refine R_IfLe_f rfl c1569 ?_
    refine R_ldA rfl rfl ?_
    refine R_ldI rfl rfl ?_
    refine R_putI rfl sh_60 rfl ?_
    refine R_ldA rfl rfl ?_
    refine R_I rfl ?_
    refine R_putI rfl sh_60 rfl ?_
    refine R_ldA rfl rfl ?_
    refine R_I rfl ?_
    refine R_putI rfl sh_60 rfl ?_
    obtain rfl := Option.some.inj hf
    exact key
def f_X6_suits_L26 (N : Nat) (l1 : Int32) : Nat → Int32 → qN → Option (qN)
  | 0, _, _ => none
  | n + 1, l2, h =>
    if l1 ≤ l2 then
      some h
    else
      if ((2 : Int32) * l2) < 0 ∨ 56 ≤ ((2 : Int32) * l2).toNatClampNeg then none else
      if (((2 : Int32) * l2) + (1 : Int32)) < 0 ∨ 56 ≤ (((2 : Int32) * l2) + (1 : Int32)).toNatClampNeg then none else
      qbind (f_X6_comes N (h 69 ((2 : Int32) * l2).toNatClampNeg) (h 69 (((2 : Int32) * l2) + (1 : Int32)).toNatClampNeg) h) fun (x1596, h1595) =>
      f_X6_suits_L26 N l1 n (l2 + (1 : Int32)) h1595
set_option maxRecDepth 100000 in
theorem t_X6_suits_L26 {d N : Nat} (hd : 4 ≤ d) : ∀ (n : Nat) (l1 : Int32) (l2 : Int32) (h : qN) (h2 : qN), f_X6_suits_L26 N l1 n l2 h = some h2 → ∀ (v : Option Value) (h1 : qN), RR d cd_X6_suits (0, 0) 60 [qU, .int l1, qU] [] h2 v h1 → RR d cd_X6_suits (0, 0) 26 [.ref 60, .int l1, .int l2] [] h v h1 := by
  intro n
  induction n with
  | zero =>
    intro l1 l2 h h2 hf v h1 hE
    exact absurd hf (by simp [f_X6_suits_L26])
  | succ n ih =>
    intro l1 l2 h h2 hf v h1 hE
    unfold f_X6_suits_L26 at hf
    refine R_ldI rfl rfl ?_
    refine R_ldI rfl rfl ?_
    rcases qite hf with ⟨c1592, hf⟩ | ⟨c1592, hf⟩
    · refine R_CmGe_t rfl c1592 ?_
      refine R_drop [false, true, false] (ls' := [qU, .int l1, qU]) rfl ?_
      obtain rfl := Option.some.inj hf
      exact hE
    · refine R_CmGe_f rfl c1592 ?_
      refine R_ldA rfl rfl ?_
      refine R_ldA rfl rfl ?_
      refine R_get rfl sh_60 rfl rfl ?_
      refine R_I rfl ?_
      refine R_ldI rfl rfl ?_
      refine R_bin rfl ?_
      obtain ⟨c1593, hf⟩ := qchk hf
      refine R_ald rfl sh_69 c1593 ?_
      refine R_ldA rfl rfl ?_
      refine R_get rfl sh_60 rfl rfl ?_
      refine R_I rfl ?_
      refine R_ldI rfl rfl ?_
      refine R_bin rfl ?_
      refine R_I rfl ?_
      refine R_bin rfl ?_
      obtain ⟨c1594, hf⟩ := qchk hf
      refine R_ald rfl sh_69 c1594 ?_
      obtain ⟨⟨x1596, h1595⟩, e1597, hf⟩ := qbind_some hf
      dsimp only at hf
      refine R_callVi (as := [.ref 60, .int (h 69 ((2 : Int32) * l2).toNatClampNeg), .int (h 69 (((2 : Int32) * l2) + (1 : Int32)).toNatClampNeg)]) (rest := []) rfl rfl sh_60 rfl rfl rfl rfl (t_X6_comes (N := N) (by omega) (h 69 ((2 : Int32) * l2).toNatClampNeg) (h 69 (((2 : Int32) * l2) + (1 : Int32)).toNatClampNeg) h e1597) ?_
      refine R_pop rfl rfl ?_
      refine R_inc (ls' := [.ref 60, .int l1, .int (l2 + (1 : Int32))]) rfl rfl rfl rfl ?_
      refine R_goto rfl ?_
      exact ih l1 (l2 + (1 : Int32)) h1595 _ hf _ _ hE
def f_X6_suits (N : Nat) (h : qN) : Option (Int32 × qN) :=
  qbind (f_X6_readAll N (0 : Int32) h) fun (x1589, h1588) =>
  if x1589 ≤ 0 then
    qbind (f_X6_suits_L26 N x1589 N (0 : Int32) h1588) fun h1599 =>
    some (x1589, h1599)
  else
    if ((h1588 60 6) + x1589) ≤ (12 : Int32) then
      qbind (f_X6_suits_L26 N x1589 N (0 : Int32) h1588) fun h1604 =>
      some (x1589, h1604)
    else
      some ((-3 : Int32), h1588)
set_option maxRecDepth 100000 in
theorem t_X6_suits {d N : Nat} (hd : 5 ≤ d)   (h : qN) {v0 : Int32} {h1 : qN} (hf : f_X6_suits N  h = some (v0, h1)) : EE d 133 [.ref 60] h (some (.int v0)) h1 := by
  obtain ⟨d, rfl⟩ : ∃ d0, d = d0 + 1 := ⟨d - 1, by omega⟩
  unfold f_X6_suits at hf
  refine E_intro qm_133 qc_133 (Nat.le_of_ble_eq_true rfl) rfl rfl ?_
  show RR d cd_X6_suits (0, 0) 0 [.ref 60, qU, qU] [] h (some (.int v0)) h1
  refine R_ldA rfl rfl ?_
  refine R_I rfl ?_
  obtain ⟨⟨x1589, h1588⟩, e1590, hf⟩ := qbind_some hf
  dsimp only at hf
  refine R_callVi (as := [.ref 60, .int (0 : Int32)]) (rest := []) rfl rfl sh_60 rfl rfl rfl rfl (t_X6_readAll (N := N) (by omega) (0 : Int32) h e1590) ?_
  refine R_stI (ls' := [.ref 60, .int x1589, qU]) rfl rfl rfl rfl ?_
  refine R_ldI rfl rfl ?_
  rcases qite hf with ⟨c1591, hf⟩ | ⟨c1591, hf⟩
  · refine R_IfLe_t rfl c1591 ?_
    refine R_I rfl ?_
    refine R_stI (ls' := [.ref 60, .int x1589, .int (0 : Int32)]) rfl rfl rfl rfl ?_
    obtain ⟨h1599, e1600, hf⟩ := qbind_some hf
    refine t_X6_suits_L26 (N := N) (by omega) _ x1589 (0 : Int32) h1588 h1599 e1600 _ _ ?_
    refine R_ldI rfl rfl ?_
    obtain ⟨rfl, rfl⟩ := qinj2 hf
    exact R_retI rfl
  · refine R_IfLe_f rfl c1591 ?_
    refine R_ldA rfl rfl ?_
    refine R_get rfl sh_60 rfl rfl ?_
    refine R_ldI rfl rfl ?_
    refine R_bin rfl ?_
    refine R_I rfl ?_
    rcases qite hf with ⟨c1603, hf⟩ | ⟨c1603, hf⟩
    · refine R_CmLe_t rfl c1603 ?_
      refine R_I rfl ?_
      refine R_stI (ls' := [.ref 60, .int x1589, .int (0 : Int32)]) rfl rfl rfl rfl ?_
      obtain ⟨h1604, e1605, hf⟩ := qbind_some hf
      refine t_X6_suits_L26 (N := N) (by omega) _ x1589 (0 : Int32) h1588 h1604 e1605 _ _ ?_
      refine R_ldI rfl rfl ?_
      obtain ⟨rfl, rfl⟩ := qinj2 hf
      exact R_retI rfl
    · refine R_CmLe_f rfl c1603 ?_
      refine R_I rfl ?_
      obtain ⟨rfl, rfl⟩ := qinj2 hf
      exact R_retI rfl
def f_X6_stay_L2 (N : Nat) (l1 : Int32) : Nat → Int32 → qN → Option (qN)
  | 0, _, _ => none
  | n + 1, l2, h =>
    if (h 60 6) ≤ l2 then
      some h
    else
      if (h 63 0) = (1 : Int32) then
        if l1 < 0 ∨ 8 ≤ l1.toNatClampNeg then none else
        if (h 64 l1.toNatClampNeg) = (6 : Int32) then
          some h
        else
          qbind (f_X6_isOver l2 h) fun (x1613, h1612) =>
          qbind (
              if x1613 = 0 then
                if l2 < 0 ∨ 12 ≤ l2.toNatClampNeg then none else
                if (h1612 66 l2.toNatClampNeg) = l1 then
                  if l1 < 0 ∨ 8 ≤ l1.toNatClampNeg then none else
                  some ((10 : Int32) + (h1612 64 l1.toNatClampNeg))
                else
                  if l2 < 0 ∨ 12 ≤ l2.toNatClampNeg then none else
                  some (h1612 66 l2.toNatClampNeg)
              else
                if l2 < 0 ∨ 12 ≤ l2.toNatClampNeg then none else
                some (h1612 66 l2.toNatClampNeg) : Option (Int32)) fun x1621 =>
          if l2 < 0 ∨ 12 ≤ l2.toNatClampNeg then none else
          qbind (f_X6_isOver l2 (qup h1612 66 l2.toNatClampNeg x1621)) fun (x1624, h1623) =>
          qbind (
              if x1624 = 0 then
                if l2 < 0 ∨ 12 ≤ l2.toNatClampNeg then none else
                if (h1623 67 l2.toNatClampNeg) = l1 then
                  if l1 < 0 ∨ 8 ≤ l1.toNatClampNeg then none else
                  some ((10 : Int32) + (h1623 64 l1.toNatClampNeg))
                else
                  if l2 < 0 ∨ 12 ≤ l2.toNatClampNeg then none else
                  some (h1623 67 l2.toNatClampNeg)
              else
                if l2 < 0 ∨ 12 ≤ l2.toNatClampNeg then none else
                some (h1623 67 l2.toNatClampNeg) : Option (Int32)) fun x1632 =>
          if l2 < 0 ∨ 12 ≤ l2.toNatClampNeg then none else
          f_X6_stay_L2 N l1 n (l2 + (1 : Int32)) (qup h1623 67 l2.toNatClampNeg x1632)
      else
        some h
set_option maxRecDepth 100000 in
theorem t_X6_stay_L2 {d N : Nat} (hd : 1 ≤ d) : ∀ (n : Nat) (l1 : Int32) (l2 : Int32) (h : qN) (h2 : qN), f_X6_stay_L2 N l1 n l2 h = some h2 → ∀ (v : Option Value) (h1 : qN), RR d cd_X6_stay (0, 0) 121 [qU, qU, qU] [] h2 v h1 → RR d cd_X6_stay (0, 0) 2 [.ref 60, .int l1, .int l2] [] h v h1 := by
  intro n
  induction n with
  | zero =>
    intro l1 l2 h h2 hf v h1 hE
    exact absurd hf (by simp [f_X6_stay_L2])
  | succ n ih =>
    intro l1 l2 h h2 hf v h1 hE
    unfold f_X6_stay_L2 at hf
    refine R_ldI rfl rfl ?_
    refine R_ldA rfl rfl ?_
    refine R_get rfl sh_60 rfl rfl ?_
    rcases qite hf with ⟨c1608, hf⟩ | ⟨c1608, hf⟩
    · refine R_CmGe_t rfl c1608 ?_
      refine R_drop [false, false, false] (ls' := [qU, qU, qU]) rfl ?_
      obtain rfl := Option.some.inj hf
      exact hE
    · refine R_CmGe_f rfl c1608 ?_
      refine R_ldA rfl rfl ?_
      refine R_get rfl sh_60 rfl rfl ?_
      refine R_I rfl ?_
      refine R_aldC (j := 0) rfl sh_63 (by decide) ?_
      refine R_I rfl ?_
      rcases qite hf with ⟨c1609, hf⟩ | ⟨c1609, hf⟩
      · refine R_CmNe_f rfl c1609 ?_
        refine R_ldA rfl rfl ?_
        refine R_get rfl sh_60 rfl rfl ?_
        refine R_ldI rfl rfl ?_
        obtain ⟨c1610, hf⟩ := qchk hf
        refine R_ald rfl sh_64 c1610 ?_
        refine R_I rfl ?_
        rcases qite hf with ⟨c1611, hf⟩ | ⟨c1611, hf⟩
        · refine R_CmEq_t rfl c1611 ?_
          refine R_drop [false, false, false] (ls' := [qU, qU, qU]) rfl ?_
          obtain rfl := Option.some.inj hf
          exact hE
        · refine R_CmEq_f rfl c1611 ?_
          refine R_ldA rfl rfl ?_
          refine R_get rfl sh_60 rfl rfl ?_
          refine R_ldI rfl rfl ?_
          refine R_ldA rfl rfl ?_
          refine R_ldI rfl rfl ?_
          obtain ⟨⟨x1613, h1612⟩, e1614, hf⟩ := qbind_some hf
          dsimp only at hf
          refine R_callVi (as := [.ref 60, .int l2]) (rest := [.int l2, .ref 66]) rfl rfl sh_60 rfl rfl rfl rfl (t_X6_isOver (by omega) l2 h e1614) ?_
          obtain ⟨x1621, e1635, hf⟩ := qbind_some hf
          have key : RR d cd_X6_stay (0, 0) 72 [.ref 60, .int l1, .int l2] [.int x1621, .int l2, .ref 66] h1612 v h1 := by
            clear e1635
            obtain ⟨c1622, hf⟩ := qchk hf
            refine R_ast rfl sh_66 c1622 ?_
            refine R_ldA rfl rfl ?_
            refine R_get rfl sh_60 rfl rfl ?_
            refine R_ldI rfl rfl ?_
            refine R_ldA rfl rfl ?_
            refine R_ldI rfl rfl ?_
            obtain ⟨⟨x1624, h1623⟩, e1625, hf⟩ := qbind_some hf
            dsimp only at hf
            refine R_callVi (as := [.ref 60, .int l2]) (rest := [.int l2, .ref 67]) rfl rfl sh_60 rfl rfl rfl rfl (t_X6_isOver (by omega) l2 (qup h1612 66 l2.toNatClampNeg x1621) e1625) ?_
            obtain ⟨x1632, e1634, hf⟩ := qbind_some hf
            have key : RR d cd_X6_stay (0, 0) 114 [.ref 60, .int l1, .int l2] [.int x1632, .int l2, .ref 67] h1623 v h1 := by
              clear e1634
              obtain ⟨c1633, hf⟩ := qchk hf
              refine R_ast rfl sh_67 c1633 ?_
              refine R_inc (ls' := [.ref 60, .int l1, .int (l2 + (1 : Int32))]) rfl rfl rfl rfl ?_
              refine R_goto rfl ?_
              exact ih l1 (l2 + (1 : Int32)) (qup h1623 67 l2.toNatClampNeg x1632) _ hf _ _ hE
            clear hf
            have hf := e1634
            clear e1634
            rcases qite hf with ⟨c1626, hf⟩ | ⟨c1626, hf⟩
            · refine R_IfNe_f rfl c1626 ?_
              refine R_ldA rfl rfl ?_
              refine R_get rfl sh_60 rfl rfl ?_
              refine R_ldI rfl rfl ?_
              obtain ⟨c1627, hf⟩ := qchk hf
              refine R_ald rfl sh_67 c1627 ?_
              refine R_ldI rfl rfl ?_
              rcases qite hf with ⟨c1628, hf⟩ | ⟨c1628, hf⟩
              · refine R_CmNe_f rfl c1628 ?_
                refine R_I rfl ?_
                refine R_ldA rfl rfl ?_
                refine R_get rfl sh_60 rfl rfl ?_
                refine R_ldI rfl rfl ?_
                obtain ⟨c1629, hf⟩ := qchk hf
                refine R_ald rfl sh_64 c1629 ?_
                refine R_bin rfl ?_
                refine R_goto rfl ?_
                obtain rfl := Option.some.inj hf
                exact key
              · refine R_CmNe_t rfl c1628 ?_
                refine R_ldA rfl rfl ?_
                refine R_get rfl sh_60 rfl rfl ?_
                refine R_ldI rfl rfl ?_
                obtain ⟨c1630, hf⟩ := qchk hf
                refine R_ald rfl sh_67 c1630 ?_
                obtain rfl := Option.some.inj hf
                exact key
            · refine R_IfNe_t rfl c1626 ?_
              refine R_ldA rfl rfl ?_
              refine R_get rfl sh_60 rfl rfl ?_
              refine R_ldI rfl rfl ?_
              obtain ⟨c1631, hf⟩ := qchk hf
              refine R_ald rfl sh_67 c1631 ?_
              obtain rfl := Option.some.inj hf
              exact key
          clear hf
          have hf := e1635
          clear e1635
          rcases qite hf with ⟨c1615, hf⟩ | ⟨c1615, hf⟩
          · refine R_IfNe_f rfl c1615 ?_
            refine R_ldA rfl rfl ?_
            refine R_get rfl sh_60 rfl rfl ?_
            refine R_ldI rfl rfl ?_
            obtain ⟨c1616, hf⟩ := qchk hf
            refine R_ald rfl sh_66 c1616 ?_
            refine R_ldI rfl rfl ?_
            rcases qite hf with ⟨c1617, hf⟩ | ⟨c1617, hf⟩
            · refine R_CmNe_f rfl c1617 ?_
              refine R_I rfl ?_
              refine R_ldA rfl rfl ?_
              refine R_get rfl sh_60 rfl rfl ?_
              refine R_ldI rfl rfl ?_
              obtain ⟨c1618, hf⟩ := qchk hf
              refine R_ald rfl sh_64 c1618 ?_
              refine R_bin rfl ?_
              refine R_goto rfl ?_
              obtain rfl := Option.some.inj hf
              exact key
            · refine R_CmNe_t rfl c1617 ?_
              refine R_ldA rfl rfl ?_
              refine R_get rfl sh_60 rfl rfl ?_
              refine R_ldI rfl rfl ?_
              obtain ⟨c1619, hf⟩ := qchk hf
              refine R_ald rfl sh_66 c1619 ?_
              obtain rfl := Option.some.inj hf
              exact key
          · refine R_IfNe_t rfl c1615 ?_
            refine R_ldA rfl rfl ?_
            refine R_get rfl sh_60 rfl rfl ?_
            refine R_ldI rfl rfl ?_
            obtain ⟨c1620, hf⟩ := qchk hf
            refine R_ald rfl sh_66 c1620 ?_
            obtain rfl := Option.some.inj hf
            exact key
      · refine R_CmNe_t rfl c1609 ?_
        refine R_drop [false, false, false] (ls' := [qU, qU, qU]) rfl ?_
        obtain rfl := Option.some.inj hf
        exact hE
def f_X6_stay (N : Nat) (a1 : Int32) (h : qN) : Option (qN) :=
  qbind (f_X6_stay_L2 N a1 N (0 : Int32) h) fun h1637 =>
  some h1637
set_option maxRecDepth 100000 in
theorem t_X6_stay {d N : Nat} (hd : 2 ≤ d) (a1 : Int32)  (h : qN) {h1 : qN} (hf : f_X6_stay N a1 h = some h1) : EE d 134 [.ref 60, .int a1] h none h1 := by
  obtain ⟨d, rfl⟩ : ∃ d0, d = d0 + 1 := ⟨d - 1, by omega⟩
  unfold f_X6_stay at hf
  refine E_intro qm_134 qc_134 (Nat.le_of_ble_eq_true rfl) rfl rfl ?_
  show RR d cd_X6_stay (0, 0) 0 [.ref 60, .int a1, qU] [] h none h1
  refine R_I rfl ?_
  refine R_stI (ls' := [.ref 60, .int a1, .int (0 : Int32)]) rfl rfl rfl rfl ?_
  obtain ⟨h1637, e1638, hf⟩ := qbind_some hf
  refine t_X6_stay_L2 (N := N) (by omega) _ a1 (0 : Int32) h h1637 e1638 _ _ ?_
  obtain rfl := Option.some.inj hf
  exact R_retV rfl
def f_X6_sells (N : Nat) (a1 : Int32) (a2 : Int32) (h : qN) : Option (Int32 × qN) :=
  qbind (f_X6_stay N a1 h) fun h1641 =>
  if a1 < 0 ∨ 8 ≤ a1.toNatClampNeg then none else
  qbind (f_X6_ends N  (qup h1641 64 a1.toNatClampNeg a2)) fun (x1645, h1644) =>
  some (x1645, h1644)
set_option maxRecDepth 100000 in
theorem t_X6_sells {d N : Nat} (hd : 3 ≤ d) (a1 : Int32) (a2 : Int32)  (h : qN) {v0 : Int32} {h1 : qN} (hf : f_X6_sells N a1 a2 h = some (v0, h1)) : EE d 135 [.ref 60, .int a1, .int a2] h (some (.int v0)) h1 := by
  obtain ⟨d, rfl⟩ : ∃ d0, d = d0 + 1 := ⟨d - 1, by omega⟩
  unfold f_X6_sells at hf
  refine E_intro qm_135 qc_135 (Nat.le_of_ble_eq_true rfl) rfl rfl ?_
  show RR d cd_X6_sells (0, 0) 0 [.ref 60, .int a1, .int a2] [] h (some (.int v0)) h1
  refine R_ldA rfl rfl ?_
  refine R_ldI rfl rfl ?_
  obtain ⟨h1641, e1642, hf⟩ := qbind_some hf
  refine R_callVv (as := [.ref 60, .int a1]) (rest := []) rfl rfl sh_60 rfl rfl rfl rfl (t_X6_stay (N := N) (by omega) a1 h e1642) ?_
  refine R_ldA rfl rfl ?_
  refine R_get rfl sh_60 rfl rfl ?_
  refine R_ldI rfl rfl ?_
  refine R_ldI rfl rfl ?_
  obtain ⟨c1643, hf⟩ := qchk hf
  refine R_ast rfl sh_64 c1643 ?_
  refine R_ldA rfl rfl ?_
  obtain ⟨⟨x1645, h1644⟩, e1646, hf⟩ := qbind_some hf
  dsimp only at hf
  refine R_callVi (as := [.ref 60]) (rest := []) rfl rfl sh_60 rfl rfl rfl rfl (t_X6_ends (N := N) (by omega)  (qup h1641 64 a1.toNatClampNeg a2) e1646) ?_
  obtain ⟨rfl, rfl⟩ := qinj2 hf
  exact R_retI rfl
def f_X6_comesTo (a1 : Int32) (a2 : Int32) (h : qN) : Option (qN) :=
  if a1 = (6 : Int32) then
    some h
  else
    if a1 < 0 ∨ 6 ≤ a1.toNatClampNeg then none else
    if ((h 61 a1.toNatClampNeg) + a2) ≤ (9999 : Int32) then
      if a1 < 0 ∨ 6 ≤ a1.toNatClampNeg then none else
      if a1 < 0 ∨ 6 ≤ a1.toNatClampNeg then none else
      some (qup h 61 a1.toNatClampNeg ((h 61 a1.toNatClampNeg) + a2))
    else
      if a1 < 0 ∨ 6 ≤ a1.toNatClampNeg then none else
      some (qup h 61 a1.toNatClampNeg (9999 : Int32))
set_option maxRecDepth 100000 in
theorem t_X6_comesTo {d : Nat} (hd : 1 ≤ d) (a1 : Int32) (a2 : Int32)  (h : qN) {h1 : qN} (hf : f_X6_comesTo a1 a2 h = some h1) : EE d 136 [.ref 60, .int a1, .int a2] h none h1 := by
  obtain ⟨d, rfl⟩ : ∃ d0, d = d0 + 1 := ⟨d - 1, by omega⟩
  unfold f_X6_comesTo at hf
  refine E_intro qm_136 qc_136 (Nat.le_of_ble_eq_true rfl) rfl rfl ?_
  show RR d cd_X6_comesTo (0, 0) 0 [.ref 60, .int a1, .int a2] [] h none h1
  refine R_ldI rfl rfl ?_
  refine R_I rfl ?_
  rcases qite hf with ⟨c1647, hf⟩ | ⟨c1647, hf⟩
  · refine R_CmEq_t rfl c1647 ?_
    obtain rfl := Option.some.inj hf
    exact R_retV rfl
  · refine R_CmEq_f rfl c1647 ?_
    refine R_ldA rfl rfl ?_
    refine R_get rfl sh_60 rfl rfl ?_
    refine R_ldI rfl rfl ?_
    refine R_ldA rfl rfl ?_
    refine R_get rfl sh_60 rfl rfl ?_
    refine R_ldI rfl rfl ?_
    obtain ⟨c1648, hf⟩ := qchk hf
    refine R_ald rfl sh_61 c1648 ?_
    refine R_ldI rfl rfl ?_
    refine R_bin rfl ?_
    refine R_I rfl ?_
    rcases qite hf with ⟨c1649, hf⟩ | ⟨c1649, hf⟩
    · refine R_CmLe_t rfl c1649 ?_
      refine R_ldA rfl rfl ?_
      refine R_get rfl sh_60 rfl rfl ?_
      refine R_ldI rfl rfl ?_
      obtain ⟨c1650, hf⟩ := qchk hf
      refine R_ald rfl sh_61 c1650 ?_
      refine R_ldI rfl rfl ?_
      refine R_bin rfl ?_
      obtain ⟨c1651, hf⟩ := qchk hf
      refine R_ast rfl sh_61 c1651 ?_
      obtain rfl := Option.some.inj hf
      exact R_retV rfl
    · refine R_CmLe_f rfl c1649 ?_
      refine R_I rfl ?_
      refine R_goto rfl ?_
      obtain ⟨c1652, hf⟩ := qchk hf
      refine R_ast rfl sh_61 c1652 ?_
      obtain rfl := Option.some.inj hf
      exact R_retV rfl
def f_X6_sale (N : Nat) (a1 : Int32) (a2 : Int32) (a3 : Int32) (h : qN) : Option (Int32 × qN) :=
  qbind (f_X6_isThing a1 h) fun (x1654, h1653) =>
  if x1654 = 0 then
    some ((-1 : Int32), h1653)
  else
    qbind (f_X6_isPerson a2 h1653) fun (x1658, h1657) =>
    if x1658 = 0 then
      some ((-1 : Int32), h1657)
    else
      qbind (f_X6_in a3.toInt64 (0 : Int64) (999 : Int64) h1657) fun (x1662, h1661) =>
      if x1662 = 0 then
        some ((-1 : Int32), h1661)
      else
        if a1 < 0 ∨ 8 ≤ a1.toNatClampNeg then none else
        if (h1661 64 a1.toNatClampNeg) = a2 then
          some ((-2 : Int32), h1661)
        else
          if a2 < 0 ∨ 6 ≤ a2.toNatClampNeg then none else
          if a3 ≤ (h1661 61 a2.toNatClampNeg) then
            if a2 < 0 ∨ 6 ≤ a2.toNatClampNeg then none else
            if a2 < 0 ∨ 6 ≤ a2.toNatClampNeg then none else
            if a1 < 0 ∨ 8 ≤ a1.toNatClampNeg then none else
            qbind (f_X6_comesTo ((qup h1661 61 a2.toNatClampNeg ((h1661 61 a2.toNatClampNeg) - a3)) 64 a1.toNatClampNeg) a3 (qup h1661 61 a2.toNatClampNeg ((h1661 61 a2.toNatClampNeg) - a3))) fun h1672 =>
            qbind (f_X6_sells N a1 a2 (qup h1672 60 10 ((h1672 60 10) + (1 : Int32)))) fun (x1675, h1674) =>
            some (x1675, h1674)
          else
            some ((-2 : Int32), h1661)
set_option maxRecDepth 100000 in
theorem t_X6_sale {d N : Nat} (hd : 4 ≤ d) (a1 : Int32) (a2 : Int32) (a3 : Int32)  (h : qN) {v0 : Int32} {h1 : qN} (hf : f_X6_sale N a1 a2 a3 h = some (v0, h1)) : EE d 137 [.ref 60, .int a1, .int a2, .int a3] h (some (.int v0)) h1 := by
  obtain ⟨d, rfl⟩ : ∃ d0, d = d0 + 1 := ⟨d - 1, by omega⟩
  unfold f_X6_sale at hf
  refine E_intro qm_137 qc_137 (Nat.le_of_ble_eq_true rfl) rfl rfl ?_
  show RR d cd_X6_sale (0, 0) 0 [.ref 60, .int a1, .int a2, .int a3] [] h (some (.int v0)) h1
  refine R_ldA rfl rfl ?_
  refine R_ldI rfl rfl ?_
  obtain ⟨⟨x1654, h1653⟩, e1655, hf⟩ := qbind_some hf
  dsimp only at hf
  refine R_callVi (as := [.ref 60, .int a1]) (rest := []) rfl rfl sh_60 rfl rfl rfl rfl (t_X6_isThing (by omega) a1 h e1655) ?_
  rcases qite hf with ⟨c1656, hf⟩ | ⟨c1656, hf⟩
  · refine R_IfEq_t rfl c1656 ?_
    refine R_I rfl ?_
    obtain ⟨rfl, rfl⟩ := qinj2 hf
    exact R_retI rfl
  · refine R_IfEq_f rfl c1656 ?_
    refine R_ldI rfl rfl ?_
    obtain ⟨⟨x1658, h1657⟩, e1659, hf⟩ := qbind_some hf
    dsimp only at hf
    refine R_callSi (as := [.int a2]) (rest := []) rfl rfl rfl rfl rfl rfl (t_X6_isPerson (by omega) a2 h1653 e1659) ?_
    rcases qite hf with ⟨c1660, hf⟩ | ⟨c1660, hf⟩
    · refine R_IfEq_t rfl c1660 ?_
      refine R_I rfl ?_
      obtain ⟨rfl, rfl⟩ := qinj2 hf
      exact R_retI rfl
    · refine R_IfEq_f rfl c1660 ?_
      refine R_ldI rfl rfl ?_
      refine R_i2l rfl ?_
      refine R_L rfl ?_
      refine R_L rfl ?_
      obtain ⟨⟨x1662, h1661⟩, e1663, hf⟩ := qbind_some hf
      dsimp only at hf
      refine R_callSi (as := [.long a3.toInt64, .long (0 : Int64), .long (999 : Int64)]) (rest := []) rfl rfl rfl rfl rfl rfl (t_X6_in (by omega) a3.toInt64 (0 : Int64) (999 : Int64) h1657 e1663) ?_
      rcases qite hf with ⟨c1664, hf⟩ | ⟨c1664, hf⟩
      · refine R_IfNe_f rfl c1664 ?_
        refine R_I rfl ?_
        obtain ⟨rfl, rfl⟩ := qinj2 hf
        exact R_retI rfl
      · refine R_IfNe_t rfl c1664 ?_
        refine R_ldA rfl rfl ?_
        refine R_get rfl sh_60 rfl rfl ?_
        refine R_ldI rfl rfl ?_
        obtain ⟨c1665, hf⟩ := qchk hf
        refine R_ald rfl sh_64 c1665 ?_
        refine R_ldI rfl rfl ?_
        rcases qite hf with ⟨c1666, hf⟩ | ⟨c1666, hf⟩
        · refine R_CmEq_t rfl c1666 ?_
          refine R_I rfl ?_
          obtain ⟨rfl, rfl⟩ := qinj2 hf
          exact R_retI rfl
        · refine R_CmEq_f rfl c1666 ?_
          refine R_ldA rfl rfl ?_
          refine R_get rfl sh_60 rfl rfl ?_
          refine R_ldI rfl rfl ?_
          obtain ⟨c1667, hf⟩ := qchk hf
          refine R_ald rfl sh_61 c1667 ?_
          refine R_ldI rfl rfl ?_
          rcases qite hf with ⟨c1668, hf⟩ | ⟨c1668, hf⟩
          · refine R_CmGe_t rfl c1668 ?_
            refine R_ldA rfl rfl ?_
            refine R_get rfl sh_60 rfl rfl ?_
            refine R_ldI rfl rfl ?_
            refine R_dup2 rfl rfl rfl ?_
            obtain ⟨c1669, hf⟩ := qchk hf
            refine R_ald rfl sh_61 c1669 ?_
            refine R_ldI rfl rfl ?_
            refine R_bin rfl ?_
            obtain ⟨c1670, hf⟩ := qchk hf
            refine R_ast rfl sh_61 c1670 ?_
            refine R_ldA rfl rfl ?_
            refine R_ldA rfl rfl ?_
            refine R_get rfl sh_60 rfl rfl ?_
            refine R_ldI rfl rfl ?_
            obtain ⟨c1671, hf⟩ := qchk hf
            refine R_ald rfl sh_64 c1671 ?_
            refine R_ldI rfl rfl ?_
            obtain ⟨h1672, e1673, hf⟩ := qbind_some hf
            refine R_callVv (as := [.ref 60, .int ((qup h1661 61 a2.toNatClampNeg ((h1661 61 a2.toNatClampNeg) - a3)) 64 a1.toNatClampNeg), .int a3]) (rest := []) rfl rfl sh_60 rfl rfl rfl rfl (t_X6_comesTo (by omega) ((qup h1661 61 a2.toNatClampNeg ((h1661 61 a2.toNatClampNeg) - a3)) 64 a1.toNatClampNeg) a3 (qup h1661 61 a2.toNatClampNeg ((h1661 61 a2.toNatClampNeg) - a3)) e1673) ?_
            refine R_ldA rfl rfl ?_
            refine R_dup rfl rfl ?_
            refine R_get rfl sh_60 rfl rfl ?_
            refine R_I rfl ?_
            refine R_bin rfl ?_
            refine R_putI rfl sh_60 rfl ?_
            refine R_ldA rfl rfl ?_
            refine R_ldI rfl rfl ?_
            refine R_ldI rfl rfl ?_
            obtain ⟨⟨x1675, h1674⟩, e1676, hf⟩ := qbind_some hf
            dsimp only at hf
            refine R_callVi (as := [.ref 60, .int a1, .int a2]) (rest := []) rfl rfl sh_60 rfl rfl rfl rfl (t_X6_sells (N := N) (by omega) a1 a2 (qup h1672 60 10 ((h1672 60 10) + (1 : Int32))) e1676) ?_
            obtain ⟨rfl, rfl⟩ := qinj2 hf
            exact R_retI rfl
          · refine R_CmGe_f rfl c1668 ?_
            refine R_I rfl ?_
            obtain ⟨rfl, rfl⟩ := qinj2 hf
            exact R_retI rfl
def f_X6_swap (N : Nat) (a1 : Int32) (a2 : Int32) (h : qN) : Option (Int32 × qN) :=
  qbind (f_X6_isThing a1 h) fun (x1678, h1677) =>
  if x1678 = 0 then
    some ((-1 : Int32), h1677)
  else
    qbind (f_X6_isThing a2 h1677) fun (x1682, h1681) =>
    if x1682 = 0 then
      some ((-1 : Int32), h1681)
    else
      if a1 < 0 ∨ 8 ≤ a1.toNatClampNeg then none else
      if a2 < 0 ∨ 8 ≤ a2.toNatClampNeg then none else
      if (h1681 64 a1.toNatClampNeg) = (h1681 64 a2.toNatClampNeg) then
        some ((-2 : Int32), h1681)
      else
        qbind (f_X6_stay N a1 h1681) fun h1688 =>
        qbind (f_X6_stay N a2 h1688) fun h1690 =>
        if a1 < 0 ∨ 8 ≤ a1.toNatClampNeg then none else
        if a2 < 0 ∨ 8 ≤ a2.toNatClampNeg then none else
        if a1 < 0 ∨ 8 ≤ a1.toNatClampNeg then none else
        if a2 < 0 ∨ 8 ≤ a2.toNatClampNeg then none else
        qbind (f_X6_ends N  (qup (qup (qup h1690 64 a1.toNatClampNeg (h1690 64 a2.toNatClampNeg)) 64 a2.toNatClampNeg (h1690 64 a1.toNatClampNeg)) 60 10 (((qup (qup h1690 64 a1.toNatClampNeg (h1690 64 a2.toNatClampNeg)) 64 a2.toNatClampNeg (h1690 64 a1.toNatClampNeg)) 60 10) + (2 : Int32)))) fun (x1697, h1696) =>
        some (x1697, h1696)
set_option maxRecDepth 100000 in
theorem t_X6_swap {d N : Nat} (hd : 3 ≤ d) (a1 : Int32) (a2 : Int32)  (h : qN) {v0 : Int32} {h1 : qN} (hf : f_X6_swap N a1 a2 h = some (v0, h1)) : EE d 138 [.ref 60, .int a1, .int a2] h (some (.int v0)) h1 := by
  obtain ⟨d, rfl⟩ : ∃ d0, d = d0 + 1 := ⟨d - 1, by omega⟩
  unfold f_X6_swap at hf
  refine E_intro qm_138 qc_138 (Nat.le_of_ble_eq_true rfl) rfl rfl ?_
  show RR d cd_X6_swap (0, 0) 0 [.ref 60, .int a1, .int a2, qU] [] h (some (.int v0)) h1
  refine R_ldA rfl rfl ?_
  refine R_ldI rfl rfl ?_
  obtain ⟨⟨x1678, h1677⟩, e1679, hf⟩ := qbind_some hf
  dsimp only at hf
  refine R_callVi (as := [.ref 60, .int a1]) (rest := []) rfl rfl sh_60 rfl rfl rfl rfl (t_X6_isThing (by omega) a1 h e1679) ?_
  rcases qite hf with ⟨c1680, hf⟩ | ⟨c1680, hf⟩
  · refine R_IfEq_t rfl c1680 ?_
    refine R_I rfl ?_
    obtain ⟨rfl, rfl⟩ := qinj2 hf
    exact R_retI rfl
  · refine R_IfEq_f rfl c1680 ?_
    refine R_ldA rfl rfl ?_
    refine R_ldI rfl rfl ?_
    obtain ⟨⟨x1682, h1681⟩, e1683, hf⟩ := qbind_some hf
    dsimp only at hf
    refine R_callVi (as := [.ref 60, .int a2]) (rest := []) rfl rfl sh_60 rfl rfl rfl rfl (t_X6_isThing (by omega) a2 h1677 e1683) ?_
    rcases qite hf with ⟨c1684, hf⟩ | ⟨c1684, hf⟩
    · refine R_IfNe_f rfl c1684 ?_
      refine R_I rfl ?_
      obtain ⟨rfl, rfl⟩ := qinj2 hf
      exact R_retI rfl
    · refine R_IfNe_t rfl c1684 ?_
      refine R_ldA rfl rfl ?_
      refine R_get rfl sh_60 rfl rfl ?_
      refine R_ldI rfl rfl ?_
      obtain ⟨c1685, hf⟩ := qchk hf
      refine R_ald rfl sh_64 c1685 ?_
      refine R_ldA rfl rfl ?_
      refine R_get rfl sh_60 rfl rfl ?_
      refine R_ldI rfl rfl ?_
      obtain ⟨c1686, hf⟩ := qchk hf
      refine R_ald rfl sh_64 c1686 ?_
      rcases qite hf with ⟨c1687, hf⟩ | ⟨c1687, hf⟩
      · refine R_CmNe_f rfl c1687 ?_
        refine R_I rfl ?_
        obtain ⟨rfl, rfl⟩ := qinj2 hf
        exact R_retI rfl
      · refine R_CmNe_t rfl c1687 ?_
        refine R_ldA rfl rfl ?_
        refine R_ldI rfl rfl ?_
        obtain ⟨h1688, e1689, hf⟩ := qbind_some hf
        refine R_callVv (as := [.ref 60, .int a1]) (rest := []) rfl rfl sh_60 rfl rfl rfl rfl (t_X6_stay (N := N) (by omega) a1 h1681 e1689) ?_
        refine R_ldA rfl rfl ?_
        refine R_ldI rfl rfl ?_
        obtain ⟨h1690, e1691, hf⟩ := qbind_some hf
        refine R_callVv (as := [.ref 60, .int a2]) (rest := []) rfl rfl sh_60 rfl rfl rfl rfl (t_X6_stay (N := N) (by omega) a2 h1688 e1691) ?_
        refine R_ldA rfl rfl ?_
        refine R_get rfl sh_60 rfl rfl ?_
        refine R_ldI rfl rfl ?_
        obtain ⟨c1692, hf⟩ := qchk hf
        refine R_ald rfl sh_64 c1692 ?_
        refine R_stI (ls' := [.ref 60, .int a1, .int a2, .int (h1690 64 a1.toNatClampNeg)]) rfl rfl rfl rfl ?_
        refine R_ldA rfl rfl ?_
        refine R_get rfl sh_60 rfl rfl ?_
        refine R_ldI rfl rfl ?_
        refine R_ldA rfl rfl ?_
        refine R_get rfl sh_60 rfl rfl ?_
        refine R_ldI rfl rfl ?_
        obtain ⟨c1693, hf⟩ := qchk hf
        refine R_ald rfl sh_64 c1693 ?_
        obtain ⟨c1694, hf⟩ := qchk hf
        refine R_ast rfl sh_64 c1694 ?_
        refine R_ldA rfl rfl ?_
        refine R_get rfl sh_60 rfl rfl ?_
        refine R_ldI rfl rfl ?_
        refine R_ldI rfl rfl ?_
        obtain ⟨c1695, hf⟩ := qchk hf
        refine R_ast rfl sh_64 c1695 ?_
        refine R_ldA rfl rfl ?_
        refine R_dup rfl rfl ?_
        refine R_get rfl sh_60 rfl rfl ?_
        refine R_I rfl ?_
        refine R_bin rfl ?_
        refine R_putI rfl sh_60 rfl ?_
        refine R_ldA rfl rfl ?_
        obtain ⟨⟨x1697, h1696⟩, e1698, hf⟩ := qbind_some hf
        dsimp only at hf
        refine R_callVi (as := [.ref 60]) (rest := []) rfl rfl sh_60 rfl rfl rfl rfl (t_X6_ends (N := N) (by omega)  (qup (qup (qup h1690 64 a1.toNatClampNeg (h1690 64 a2.toNatClampNeg)) 64 a2.toNatClampNeg (h1690 64 a1.toNatClampNeg)) 60 10 (((qup (qup h1690 64 a1.toNatClampNeg (h1690 64 a2.toNatClampNeg)) 64 a2.toNatClampNeg (h1690 64 a1.toNatClampNeg)) 60 10) + (2 : Int32))) e1698) ?_
        obtain ⟨rfl, rfl⟩ := qinj2 hf
        exact R_retI rfl
def f_X6_give (N : Nat) (a1 : Int32) (h : qN) : Option (Int32 × qN) :=
  qbind (f_X6_isThing a1 h) fun (x1700, h1699) =>
  if x1700 = 0 then
    some ((-1 : Int32), h1699)
  else
    if a1 < 0 ∨ 8 ≤ a1.toNatClampNeg then none else
    if (h1699 64 a1.toNatClampNeg) = (6 : Int32) then
      some ((-2 : Int32), h1699)
    else
      qbind (f_X6_sells N a1 (6 : Int32) (qup h1699 60 10 ((h1699 60 10) + (1 : Int32)))) fun (x1706, h1705) =>
      some (x1706, h1705)
set_option maxRecDepth 100000 in
theorem t_X6_give {d N : Nat} (hd : 4 ≤ d) (a1 : Int32)  (h : qN) {v0 : Int32} {h1 : qN} (hf : f_X6_give N a1 h = some (v0, h1)) : EE d 139 [.ref 60, .int a1] h (some (.int v0)) h1 := by
  obtain ⟨d, rfl⟩ : ∃ d0, d = d0 + 1 := ⟨d - 1, by omega⟩
  unfold f_X6_give at hf
  refine E_intro qm_139 qc_139 (Nat.le_of_ble_eq_true rfl) rfl rfl ?_
  show RR d cd_X6_give (0, 0) 0 [.ref 60, .int a1] [] h (some (.int v0)) h1
  refine R_ldA rfl rfl ?_
  refine R_ldI rfl rfl ?_
  obtain ⟨⟨x1700, h1699⟩, e1701, hf⟩ := qbind_some hf
  dsimp only at hf
  refine R_callVi (as := [.ref 60, .int a1]) (rest := []) rfl rfl sh_60 rfl rfl rfl rfl (t_X6_isThing (by omega) a1 h e1701) ?_
  rcases qite hf with ⟨c1702, hf⟩ | ⟨c1702, hf⟩
  · refine R_IfNe_f rfl c1702 ?_
    refine R_I rfl ?_
    obtain ⟨rfl, rfl⟩ := qinj2 hf
    exact R_retI rfl
  · refine R_IfNe_t rfl c1702 ?_
    refine R_ldA rfl rfl ?_
    refine R_get rfl sh_60 rfl rfl ?_
    refine R_ldI rfl rfl ?_
    obtain ⟨c1703, hf⟩ := qchk hf
    refine R_ald rfl sh_64 c1703 ?_
    refine R_I rfl ?_
    rcases qite hf with ⟨c1704, hf⟩ | ⟨c1704, hf⟩
    · refine R_CmNe_f rfl c1704 ?_
      refine R_I rfl ?_
      obtain ⟨rfl, rfl⟩ := qinj2 hf
      exact R_retI rfl
    · refine R_CmNe_t rfl c1704 ?_
      refine R_ldA rfl rfl ?_
      refine R_dup rfl rfl ?_
      refine R_get rfl sh_60 rfl rfl ?_
      refine R_I rfl ?_
      refine R_bin rfl ?_
      refine R_putI rfl sh_60 rfl ?_
      refine R_ldA rfl rfl ?_
      refine R_ldI rfl rfl ?_
      refine R_I rfl ?_
      obtain ⟨⟨x1706, h1705⟩, e1707, hf⟩ := qbind_some hf
      dsimp only at hf
      refine R_callVi (as := [.ref 60, .int a1, .int (6 : Int32)]) (rest := []) rfl rfl sh_60 rfl rfl rfl rfl (t_X6_sells (N := N) (by omega) a1 (6 : Int32) (qup h1699 60 10 ((h1699 60 10) + (1 : Int32))) e1707) ?_
      obtain ⟨rfl, rfl⟩ := qinj2 hf
      exact R_retI rfl
def f_X6_weds_L2 (N : Nat) (l1 : Int32) (l2 : Int32) : Nat → Int32 → qN → Option (qN)
  | 0, _, _ => none
  | n + 1, l3, h =>
    if (h 60 3) ≤ l3 then
      some h
    else
      if l3 < 0 ∨ 8 ≤ l3.toNatClampNeg then none else
      qbind (
          if (h 64 l3.toNatClampNeg) = l2 then
            some l1
          else
            if l3 < 0 ∨ 8 ≤ l3.toNatClampNeg then none else
            some (h 64 l3.toNatClampNeg) : Option (Int32)) fun x1712 =>
      if l3 < 0 ∨ 8 ≤ l3.toNatClampNeg then none else
      f_X6_weds_L2 N l1 l2 n (l3 + (1 : Int32)) (qup h 64 l3.toNatClampNeg x1712)
set_option maxRecDepth 100000 in
theorem t_X6_weds_L2 {d N : Nat} (hd : 2 ≤ d) : ∀ (n : Nat) (l1 : Int32) (l2 : Int32) (l3 : Int32) (h : qN) (h2 : qN), f_X6_weds_L2 N l1 l2 n l3 h = some h2 → ∀ (v : Option Value) (h1 : qN), RR d cd_X6_weds (0, 0) 42 [.ref 60, .int l1, .int l2, qU] [] h2 v h1 → RR d cd_X6_weds (0, 0) 2 [.ref 60, .int l1, .int l2, .int l3] [] h v h1 := by
  intro n
  induction n with
  | zero =>
    intro l1 l2 l3 h h2 hf v h1 hE
    exact absurd hf (by simp [f_X6_weds_L2])
  | succ n ih =>
    intro l1 l2 l3 h h2 hf v h1 hE
    unfold f_X6_weds_L2 at hf
    refine R_ldI rfl rfl ?_
    refine R_ldA rfl rfl ?_
    refine R_get rfl sh_60 rfl rfl ?_
    rcases qite hf with ⟨c1708, hf⟩ | ⟨c1708, hf⟩
    · refine R_CmGe_t rfl c1708 ?_
      refine R_drop [true, true, true, false] (ls' := [.ref 60, .int l1, .int l2, qU]) rfl ?_
      obtain rfl := Option.some.inj hf
      exact hE
    · refine R_CmGe_f rfl c1708 ?_
      refine R_ldA rfl rfl ?_
      refine R_get rfl sh_60 rfl rfl ?_
      refine R_ldI rfl rfl ?_
      refine R_ldA rfl rfl ?_
      refine R_get rfl sh_60 rfl rfl ?_
      refine R_ldI rfl rfl ?_
      obtain ⟨c1709, hf⟩ := qchk hf
      refine R_ald rfl sh_64 c1709 ?_
      refine R_ldI rfl rfl ?_
      obtain ⟨x1712, e1714, hf⟩ := qbind_some hf
      have key : RR d cd_X6_weds (0, 0) 35 [.ref 60, .int l1, .int l2, .int l3] [.int x1712, .int l3, .ref 64] h v h1 := by
        clear e1714
        obtain ⟨c1713, hf⟩ := qchk hf
        refine R_ast rfl sh_64 c1713 ?_
        refine R_inc (ls' := [.ref 60, .int l1, .int l2, .int (l3 + (1 : Int32))]) rfl rfl rfl rfl ?_
        refine R_goto rfl ?_
        exact ih l1 l2 (l3 + (1 : Int32)) (qup h 64 l3.toNatClampNeg x1712) _ hf _ _ hE
      clear hf
      have hf := e1714
      clear e1714
      rcases qite hf with ⟨c1710, hf⟩ | ⟨c1710, hf⟩
      · refine R_CmNe_f rfl c1710 ?_
        refine R_ldI rfl rfl ?_
        refine R_goto rfl ?_
        obtain rfl := Option.some.inj hf
        exact key
      · refine R_CmNe_t rfl c1710 ?_
        refine R_ldA rfl rfl ?_
        refine R_get rfl sh_60 rfl rfl ?_
        refine R_ldI rfl rfl ?_
        obtain ⟨c1711, hf⟩ := qchk hf
        refine R_ald rfl sh_64 c1711 ?_
        obtain rfl := Option.some.inj hf
        exact key
def f_X6_weds_L44 (N : Nat) (l1 : Int32) (l2 : Int32) : Nat → Int32 → qN → Option (qN)
  | 0, _, _ => none
  | n + 1, l3, h =>
    if (h 60 6) ≤ l3 then
      some h
    else
      if l3 < 0 ∨ 12 ≤ l3.toNatClampNeg then none else
      qbind (
          if (h 66 l3.toNatClampNeg) = ((10 : Int32) + l2) then
            some ((10 : Int32) + l1)
          else
            if l3 < 0 ∨ 12 ≤ l3.toNatClampNeg then none else
            some (h 66 l3.toNatClampNeg) : Option (Int32)) fun x1722 =>
      if l3 < 0 ∨ 12 ≤ l3.toNatClampNeg then none else
      if l3 < 0 ∨ 12 ≤ l3.toNatClampNeg then none else
      qbind (
          if ((qup h 66 l3.toNatClampNeg x1722) 67 l3.toNatClampNeg) = ((10 : Int32) + l2) then
            some ((10 : Int32) + l1)
          else
            if l3 < 0 ∨ 12 ≤ l3.toNatClampNeg then none else
            some ((qup h 66 l3.toNatClampNeg x1722) 67 l3.toNatClampNeg) : Option (Int32)) fun x1727 =>
      if l3 < 0 ∨ 12 ≤ l3.toNatClampNeg then none else
      f_X6_weds_L44 N l1 l2 n (l3 + (1 : Int32)) (qup (qup h 66 l3.toNatClampNeg x1722) 67 l3.toNatClampNeg x1727)
set_option maxRecDepth 100000 in
theorem t_X6_weds_L44 {d N : Nat} (hd : 2 ≤ d) : ∀ (n : Nat) (l1 : Int32) (l2 : Int32) (l3 : Int32) (h : qN) (h2 : qN), f_X6_weds_L44 N l1 l2 n l3 h = some h2 → ∀ (v : Option Value) (h1 : qN), RR d cd_X6_weds (0, 0) 122 [.ref 60, qU, qU, qU] [] h2 v h1 → RR d cd_X6_weds (0, 0) 44 [.ref 60, .int l1, .int l2, .int l3] [] h v h1 := by
  intro n
  induction n with
  | zero =>
    intro l1 l2 l3 h h2 hf v h1 hE
    exact absurd hf (by simp [f_X6_weds_L44])
  | succ n ih =>
    intro l1 l2 l3 h h2 hf v h1 hE
    unfold f_X6_weds_L44 at hf
    refine R_ldI rfl rfl ?_
    refine R_ldA rfl rfl ?_
    refine R_get rfl sh_60 rfl rfl ?_
    rcases qite hf with ⟨c1718, hf⟩ | ⟨c1718, hf⟩
    · refine R_CmGe_t rfl c1718 ?_
      refine R_drop [true, false, false, false] (ls' := [.ref 60, qU, qU, qU]) rfl ?_
      obtain rfl := Option.some.inj hf
      exact hE
    · refine R_CmGe_f rfl c1718 ?_
      refine R_ldA rfl rfl ?_
      refine R_get rfl sh_60 rfl rfl ?_
      refine R_ldI rfl rfl ?_
      refine R_ldA rfl rfl ?_
      refine R_get rfl sh_60 rfl rfl ?_
      refine R_ldI rfl rfl ?_
      obtain ⟨c1719, hf⟩ := qchk hf
      refine R_ald rfl sh_66 c1719 ?_
      refine R_I rfl ?_
      refine R_ldI rfl rfl ?_
      refine R_bin rfl ?_
      obtain ⟨x1722, e1730, hf⟩ := qbind_some hf
      have key : RR d cd_X6_weds (0, 0) 83 [.ref 60, .int l1, .int l2, .int l3] [.int x1722, .int l3, .ref 66] h v h1 := by
        clear e1730
        obtain ⟨c1723, hf⟩ := qchk hf
        refine R_ast rfl sh_66 c1723 ?_
        refine R_ldA rfl rfl ?_
        refine R_get rfl sh_60 rfl rfl ?_
        refine R_ldI rfl rfl ?_
        refine R_ldA rfl rfl ?_
        refine R_get rfl sh_60 rfl rfl ?_
        refine R_ldI rfl rfl ?_
        obtain ⟨c1724, hf⟩ := qchk hf
        refine R_ald rfl sh_67 c1724 ?_
        refine R_I rfl ?_
        refine R_ldI rfl rfl ?_
        refine R_bin rfl ?_
        obtain ⟨x1727, e1729, hf⟩ := qbind_some hf
        have key : RR d cd_X6_weds (0, 0) 115 [.ref 60, .int l1, .int l2, .int l3] [.int x1727, .int l3, .ref 67] (qup h 66 l3.toNatClampNeg x1722) v h1 := by
          clear e1729
          obtain ⟨c1728, hf⟩ := qchk hf
          refine R_ast rfl sh_67 c1728 ?_
          refine R_inc (ls' := [.ref 60, .int l1, .int l2, .int (l3 + (1 : Int32))]) rfl rfl rfl rfl ?_
          refine R_goto rfl ?_
          exact ih l1 l2 (l3 + (1 : Int32)) (qup (qup h 66 l3.toNatClampNeg x1722) 67 l3.toNatClampNeg x1727) _ hf _ _ hE
        clear hf
        have hf := e1729
        clear e1729
        rcases qite hf with ⟨c1725, hf⟩ | ⟨c1725, hf⟩
        · refine R_CmNe_f rfl c1725 ?_
          refine R_I rfl ?_
          refine R_ldI rfl rfl ?_
          refine R_bin rfl ?_
          refine R_goto rfl ?_
          obtain rfl := Option.some.inj hf
          exact key
        · refine R_CmNe_t rfl c1725 ?_
          refine R_ldA rfl rfl ?_
          refine R_get rfl sh_60 rfl rfl ?_
          refine R_ldI rfl rfl ?_
          obtain ⟨c1726, hf⟩ := qchk hf
          refine R_ald rfl sh_67 c1726 ?_
          obtain rfl := Option.some.inj hf
          exact key
      clear hf
      have hf := e1730
      clear e1730
      rcases qite hf with ⟨c1720, hf⟩ | ⟨c1720, hf⟩
      · refine R_CmNe_f rfl c1720 ?_
        refine R_I rfl ?_
        refine R_ldI rfl rfl ?_
        refine R_bin rfl ?_
        refine R_goto rfl ?_
        obtain rfl := Option.some.inj hf
        exact key
      · refine R_CmNe_t rfl c1720 ?_
        refine R_ldA rfl rfl ?_
        refine R_get rfl sh_60 rfl rfl ?_
        refine R_ldI rfl rfl ?_
        obtain ⟨c1721, hf⟩ := qchk hf
        refine R_ald rfl sh_66 c1721 ?_
        obtain rfl := Option.some.inj hf
        exact key
def f_X6_weds (N : Nat) (a1 : Int32) (a2 : Int32) (h : qN) : Option (Int32 × qN) :=
  qbind (f_X6_weds_L2 N a1 a2 N (0 : Int32) h) fun h1716 =>
  qbind (f_X6_weds_L44 N a1 a2 N (0 : Int32) h1716) fun h1732 =>
  qbind (f_X6_ends N  h1732) fun (x1735, h1734) =>
  some (x1735, h1734)
set_option maxRecDepth 100000 in
theorem t_X6_weds {d N : Nat} (hd : 3 ≤ d) (a1 : Int32) (a2 : Int32)  (h : qN) {v0 : Int32} {h1 : qN} (hf : f_X6_weds N a1 a2 h = some (v0, h1)) : EE d 140 [.ref 60, .int a1, .int a2] h (some (.int v0)) h1 := by
  obtain ⟨d, rfl⟩ : ∃ d0, d = d0 + 1 := ⟨d - 1, by omega⟩
  unfold f_X6_weds at hf
  refine E_intro qm_140 qc_140 (Nat.le_of_ble_eq_true rfl) rfl rfl ?_
  show RR d cd_X6_weds (0, 0) 0 [.ref 60, .int a1, .int a2, qU] [] h (some (.int v0)) h1
  refine R_I rfl ?_
  refine R_stI (ls' := [.ref 60, .int a1, .int a2, .int (0 : Int32)]) rfl rfl rfl rfl ?_
  obtain ⟨h1716, e1717, hf⟩ := qbind_some hf
  refine t_X6_weds_L2 (N := N) (by omega) _ a1 a2 (0 : Int32) h h1716 e1717 _ _ ?_
  refine R_I rfl ?_
  refine R_stI (ls' := [.ref 60, .int a1, .int a2, .int (0 : Int32)]) rfl rfl rfl rfl ?_
  obtain ⟨h1732, e1733, hf⟩ := qbind_some hf
  refine t_X6_weds_L44 (N := N) (by omega) _ a1 a2 (0 : Int32) h1716 h1732 e1733 _ _ ?_
  refine R_ldA rfl rfl ?_
  obtain ⟨⟨x1735, h1734⟩, e1736, hf⟩ := qbind_some hf
  dsimp only at hf
  refine R_callVi (as := [.ref 60]) (rest := []) rfl rfl sh_60 rfl rfl rfl rfl (t_X6_ends (N := N) (by omega)  h1732 e1736) ?_
  obtain ⟨rfl, rfl⟩ := qinj2 hf
  exact R_retI rfl
def f_X6_wed (N : Nat) (a1 : Int32) (a2 : Int32) (h : qN) : Option (Int32 × qN) :=
  qbind (f_X6_isPerson a1 h) fun (x1742, h1741) =>
  if x1742 = 0 then
    some ((-1 : Int32), h1741)
  else
    qbind (f_X6_isPerson a2 h1741) fun (x1746, h1745) =>
    if x1746 = 0 then
      some ((-1 : Int32), h1745)
    else
      if a1 = a2 then
        some ((-1 : Int32), h1745)
      else
        if a2 < 0 ∨ 6 ≤ a2.toNatClampNeg then none else
        qbind (f_X6_comesTo a1 (h1745 61 a2.toNatClampNeg) h1745) fun h1751 =>
        if a2 < 0 ∨ 6 ≤ a2.toNatClampNeg then none else
        qbind (f_X6_weds N a1 a2 (qup h1751 61 a2.toNatClampNeg (0 : Int32))) fun (x1755, h1754) =>
        some (x1755, h1754)
set_option maxRecDepth 100000 in
theorem t_X6_wed {d N : Nat} (hd : 4 ≤ d) (a1 : Int32) (a2 : Int32)  (h : qN) {v0 : Int32} {h1 : qN} (hf : f_X6_wed N a1 a2 h = some (v0, h1)) : EE d 141 [.ref 60, .int a1, .int a2] h (some (.int v0)) h1 := by
  obtain ⟨d, rfl⟩ : ∃ d0, d = d0 + 1 := ⟨d - 1, by omega⟩
  unfold f_X6_wed at hf
  refine E_intro qm_141 qc_141 (Nat.le_of_ble_eq_true rfl) rfl rfl ?_
  show RR d cd_X6_wed (0, 0) 0 [.ref 60, .int a1, .int a2] [] h (some (.int v0)) h1
  refine R_ldI rfl rfl ?_
  obtain ⟨⟨x1742, h1741⟩, e1743, hf⟩ := qbind_some hf
  dsimp only at hf
  refine R_callSi (as := [.int a1]) (rest := []) rfl rfl rfl rfl rfl rfl (t_X6_isPerson (by omega) a1 h e1743) ?_
  rcases qite hf with ⟨c1744, hf⟩ | ⟨c1744, hf⟩
  · refine R_IfEq_t rfl c1744 ?_
    refine R_I rfl ?_
    obtain ⟨rfl, rfl⟩ := qinj2 hf
    exact R_retI rfl
  · refine R_IfEq_f rfl c1744 ?_
    refine R_ldI rfl rfl ?_
    obtain ⟨⟨x1746, h1745⟩, e1747, hf⟩ := qbind_some hf
    dsimp only at hf
    refine R_callSi (as := [.int a2]) (rest := []) rfl rfl rfl rfl rfl rfl (t_X6_isPerson (by omega) a2 h1741 e1747) ?_
    rcases qite hf with ⟨c1748, hf⟩ | ⟨c1748, hf⟩
    · refine R_IfEq_t rfl c1748 ?_
      refine R_I rfl ?_
      obtain ⟨rfl, rfl⟩ := qinj2 hf
      exact R_retI rfl
    · refine R_IfEq_f rfl c1748 ?_
      refine R_ldI rfl rfl ?_
      refine R_ldI rfl rfl ?_
      rcases qite hf with ⟨c1749, hf⟩ | ⟨c1749, hf⟩
      · refine R_CmNe_f rfl c1749 ?_
        refine R_I rfl ?_
        obtain ⟨rfl, rfl⟩ := qinj2 hf
        exact R_retI rfl
      · refine R_CmNe_t rfl c1749 ?_
        refine R_ldA rfl rfl ?_
        refine R_ldI rfl rfl ?_
        refine R_ldA rfl rfl ?_
        refine R_get rfl sh_60 rfl rfl ?_
        refine R_ldI rfl rfl ?_
        obtain ⟨c1750, hf⟩ := qchk hf
        refine R_ald rfl sh_61 c1750 ?_
        obtain ⟨h1751, e1752, hf⟩ := qbind_some hf
        refine R_callVv (as := [.ref 60, .int a1, .int (h1745 61 a2.toNatClampNeg)]) (rest := []) rfl rfl sh_60 rfl rfl rfl rfl (t_X6_comesTo (by omega) a1 (h1745 61 a2.toNatClampNeg) h1745 e1752) ?_
        refine R_ldA rfl rfl ?_
        refine R_get rfl sh_60 rfl rfl ?_
        refine R_ldI rfl rfl ?_
        refine R_I rfl ?_
        obtain ⟨c1753, hf⟩ := qchk hf
        refine R_ast rfl sh_61 c1753 ?_
        refine R_ldA rfl rfl ?_
        refine R_ldI rfl rfl ?_
        refine R_ldI rfl rfl ?_
        obtain ⟨⟨x1755, h1754⟩, e1756, hf⟩ := qbind_some hf
        dsimp only at hf
        refine R_callVi (as := [.ref 60, .int a1, .int a2]) (rest := []) rfl rfl sh_60 rfl rfl rfl rfl (t_X6_weds (N := N) (by omega) a1 a2 (qup h1751 61 a2.toNatClampNeg (0 : Int32)) e1756) ?_
        obtain ⟨rfl, rfl⟩ := qinj2 hf
        exact R_retI rfl
