def f_X6_part_L57 (N : Nat) (l1 : Int32) (l2 : Int32) : Nat → Int32 → qN → Option (qN)
  | 0, _, _ => none
  | n + 1, l3, h =>
    if (6 : Int32) ≤ l3 then
      some h
    else
      if (((6 : Int32) * l1) + l3) < 0 ∨ 48 ≤ (((6 : Int32) * l1) + l3).toNatClampNeg then none else
      if (((6 : Int32) * (h 60 3)) + l3) < 0 ∨ 48 ≤ (((6 : Int32) * (h 60 3)) + l3).toNatClampNeg then none else
      if (((6 : Int32) * l1) + l3) < 0 ∨ 48 ≤ (((6 : Int32) * l1) + l3).toNatClampNeg then none else
      f_X6_part_L57 N l1 l2 n (l3 + (1 : Int32)) (qup (qup h 65 (((6 : Int32) * (h 60 3)) + l3).toNatClampNeg ((h 65 (((6 : Int32) * l1) + l3).toNatClampNeg) / (2 : Int32))) 65 (((6 : Int32) * l1) + l3).toNatClampNeg ((h 65 (((6 : Int32) * l1) + l3).toNatClampNeg) - ((h 65 (((6 : Int32) * l1) + l3).toNatClampNeg) / (2 : Int32))))
set_option maxRecDepth 100000 in
theorem t_X6_part_L57 {d N : Nat} (hd : 2 ≤ d) : ∀ (n : Nat) (l1 : Int32) (l2 : Int32) (l3 : Int32) (h : qN) (h2 : qN), f_X6_part_L57 N l1 l2 n l3 h = some h2 → ∀ (v : Option Value) (h1 : qN), RR d cd_X6_part (0, 0) 118 [.ref 60, .int l1, .int l2, qU, qU] [] h2 v h1 → RR d cd_X6_part (0, 0) 57 [.ref 60, .int l1, .int l2, .int l3, qU] [] h v h1 := by
  intro n
  induction n with
  | zero =>
    intro l1 l2 l3 h h2 hf v h1 hE
    exact absurd hf (by simp [f_X6_part_L57])
  | succ n ih =>
    intro l1 l2 l3 h h2 hf v h1 hE
    unfold f_X6_part_L57 at hf
    refine R_ldI rfl rfl ?_
    refine R_I rfl ?_
    rcases qite hf with ⟨c1768, hf⟩ | ⟨c1768, hf⟩
    · refine R_CmGe_t rfl c1768 ?_
      refine R_drop [true, true, true, false, true] (ls' := [.ref 60, .int l1, .int l2, qU, qU]) rfl ?_
      obtain rfl := Option.some.inj hf
      exact hE
    · refine R_CmGe_f rfl c1768 ?_
      refine R_ldA rfl rfl ?_
      refine R_get rfl sh_60 rfl rfl ?_
      refine R_I rfl ?_
      refine R_ldI rfl rfl ?_
      refine R_bin rfl ?_
      refine R_ldI rfl rfl ?_
      refine R_bin rfl ?_
      obtain ⟨c1769, hf⟩ := qchk hf
      refine R_ald rfl sh_65 c1769 ?_
      refine R_stI (ls' := [.ref 60, .int l1, .int l2, .int l3, .int (h 65 (((6 : Int32) * l1) + l3).toNatClampNeg)]) rfl rfl rfl rfl ?_
      refine R_ldA rfl rfl ?_
      refine R_get rfl sh_60 rfl rfl ?_
      refine R_I rfl ?_
      refine R_ldA rfl rfl ?_
      refine R_get rfl sh_60 rfl rfl ?_
      refine R_bin rfl ?_
      refine R_ldI rfl rfl ?_
      refine R_bin rfl ?_
      refine R_ldI rfl rfl ?_
      refine R_I rfl ?_
      refine R_div rfl (by decide) ?_
      obtain ⟨c1770, hf⟩ := qchk hf
      refine R_ast rfl sh_65 c1770 ?_
      refine R_ldA rfl rfl ?_
      refine R_get rfl sh_60 rfl rfl ?_
      refine R_I rfl ?_
      refine R_ldI rfl rfl ?_
      refine R_bin rfl ?_
      refine R_ldI rfl rfl ?_
      refine R_bin rfl ?_
      refine R_ldI rfl rfl ?_
      refine R_ldI rfl rfl ?_
      refine R_I rfl ?_
      refine R_div rfl (by decide) ?_
      refine R_bin rfl ?_
      obtain ⟨c1771, hf⟩ := qchk hf
      refine R_ast rfl sh_65 c1771 ?_
      refine R_inc (ls' := [.ref 60, .int l1, .int l2, .int (l3 + (1 : Int32)), .int (h 65 (((6 : Int32) * l1) + l3).toNatClampNeg)]) rfl rfl rfl rfl ?_
      refine R_goto rfl ?_
      refine R_drop [true, true, true, true, false] (ls' := [.ref 60, .int l1, .int l2, .int (l3 + (1 : Int32)), qU]) rfl ?_
      exact ih l1 l2 (l3 + (1 : Int32)) (qup (qup h 65 (((6 : Int32) * (h 60 3)) + l3).toNatClampNeg ((h 65 (((6 : Int32) * l1) + l3).toNatClampNeg) / (2 : Int32))) 65 (((6 : Int32) * l1) + l3).toNatClampNeg ((h 65 (((6 : Int32) * l1) + l3).toNatClampNeg) - ((h 65 (((6 : Int32) * l1) + l3).toNatClampNeg) / (2 : Int32)))) _ hf _ _ hE
def f_X6_part_L120 (N : Nat) (l1 : Int32) (l2 : Int32) : Nat → Int32 → qN → Option (qN)
  | 0, _, _ => none
  | n + 1, l3, h =>
    if (h 60 6) ≤ l3 then
      some h
    else
      qbind (
          if ((l2 >>> (l3 &&& 31)) &&& (1 : Int32)) = (1 : Int32) then
            qbind (f_X6_isOver l3 h) fun (x1778, h1777) =>
            if x1778 = 0 then
              some ((1 : Int32), h1777)
            else
              some ((0 : Int32), h1777)
          else
            some ((0 : Int32), h) : Option (Int32 × qN)) fun (x1781, h1782) =>
      qbind (
          if x1781 = 0 then
            if l3 < 0 ∨ 12 ≤ l3.toNatClampNeg then none else
            some (h1782 66 l3.toNatClampNeg)
          else
            if l3 < 0 ∨ 12 ≤ l3.toNatClampNeg then none else
            if (h1782 66 l3.toNatClampNeg) = l1 then
              some (h1782 60 3)
            else
              if l3 < 0 ∨ 12 ≤ l3.toNatClampNeg then none else
              some (h1782 66 l3.toNatClampNeg) : Option (Int32)) fun x1788 =>
      if l3 < 0 ∨ 12 ≤ l3.toNatClampNeg then none else
      qbind (
          if x1781 = 0 then
            if l3 < 0 ∨ 12 ≤ l3.toNatClampNeg then none else
            some ((qup h1782 66 l3.toNatClampNeg x1788) 67 l3.toNatClampNeg)
          else
            if l3 < 0 ∨ 12 ≤ l3.toNatClampNeg then none else
            if ((qup h1782 66 l3.toNatClampNeg x1788) 67 l3.toNatClampNeg) = l1 then
              some ((qup h1782 66 l3.toNatClampNeg x1788) 60 3)
            else
              if l3 < 0 ∨ 12 ≤ l3.toNatClampNeg then none else
              some ((qup h1782 66 l3.toNatClampNeg x1788) 67 l3.toNatClampNeg) : Option (Int32)) fun x1795 =>
      if l3 < 0 ∨ 12 ≤ l3.toNatClampNeg then none else
      f_X6_part_L120 N l1 l2 n (l3 + (1 : Int32)) (qup (qup h1782 66 l3.toNatClampNeg x1788) 67 l3.toNatClampNeg x1795)
set_option maxRecDepth 100000 in
theorem t_X6_part_L120 {d N : Nat} (hd : 2 ≤ d) : ∀ (n : Nat) (l1 : Int32) (l2 : Int32) (l3 : Int32) (h : qN) (h2 : qN), f_X6_part_L120 N l1 l2 n l3 h = some h2 → ∀ (v : Option Value) (h1 : qN), RR d cd_X6_part (0, 0) 226 [.ref 60, qU, qU, qU, qU] [] h2 v h1 → RR d cd_X6_part (0, 0) 120 [.ref 60, .int l1, .int l2, .int l3, qU] [] h v h1 := by
  intro n
  induction n with
  | zero =>
    intro l1 l2 l3 h h2 hf v h1 hE
    exact absurd hf (by simp [f_X6_part_L120])
  | succ n ih =>
    intro l1 l2 l3 h h2 hf v h1 hE
    unfold f_X6_part_L120 at hf
    refine R_ldI rfl rfl ?_
    refine R_ldA rfl rfl ?_
    refine R_get rfl sh_60 rfl rfl ?_
    rcases qite hf with ⟨c1775, hf⟩ | ⟨c1775, hf⟩
    · refine R_CmGe_t rfl c1775 ?_
      refine R_drop [true, false, false, false, true] (ls' := [.ref 60, qU, qU, qU, qU]) rfl ?_
      obtain rfl := Option.some.inj hf
      exact hE
    · refine R_CmGe_f rfl c1775 ?_
      refine R_ldI rfl rfl ?_
      refine R_ldI rfl rfl ?_
      refine R_bin rfl ?_
      refine R_I rfl ?_
      refine R_bin rfl ?_
      refine R_I rfl ?_
      obtain ⟨⟨x1781, h1782⟩, e1799, hf⟩ := qbind_some hf
      dsimp only at hf
      have key : RR d cd_X6_part (0, 0) 150 [.ref 60, .int l1, .int l2, .int l3, qU] [.int x1781] h1782 v h1 := by
        clear e1799
        refine R_stI (ls' := [.ref 60, .int l1, .int l2, .int l3, .int x1781]) rfl rfl rfl rfl ?_
        refine R_ldA rfl rfl ?_
        refine R_get rfl sh_60 rfl rfl ?_
        refine R_ldI rfl rfl ?_
        refine R_ldI rfl rfl ?_
        obtain ⟨x1788, e1798, hf⟩ := qbind_some hf
        have key : RR d cd_X6_part (0, 0) 185 [.ref 60, .int l1, .int l2, .int l3, .int x1781] [.int x1788, .int l3, .ref 66] h1782 v h1 := by
          clear e1798
          obtain ⟨c1789, hf⟩ := qchk hf
          refine R_ast rfl sh_66 c1789 ?_
          refine R_ldA rfl rfl ?_
          refine R_get rfl sh_60 rfl rfl ?_
          refine R_ldI rfl rfl ?_
          refine R_ldI rfl rfl ?_
          obtain ⟨x1795, e1797, hf⟩ := qbind_some hf
          have key : RR d cd_X6_part (0, 0) 219 [.ref 60, .int l1, .int l2, .int l3, qU] [.int x1795, .int l3, .ref 67] (qup h1782 66 l3.toNatClampNeg x1788) v h1 := by
            clear e1797
            obtain ⟨c1796, hf⟩ := qchk hf
            refine R_ast rfl sh_67 c1796 ?_
            refine R_inc (ls' := [.ref 60, .int l1, .int l2, .int (l3 + (1 : Int32)), qU]) rfl rfl rfl rfl ?_
            refine R_goto rfl ?_
            exact ih l1 l2 (l3 + (1 : Int32)) (qup (qup h1782 66 l3.toNatClampNeg x1788) 67 l3.toNatClampNeg x1795) _ hf _ _ hE
          clear hf
          have hf := e1797
          clear e1797
          rcases qite hf with ⟨c1790, hf⟩ | ⟨c1790, hf⟩
          · refine R_IfEq_t rfl c1790 ?_
            refine R_ldA rfl rfl ?_
            refine R_get rfl sh_60 rfl rfl ?_
            refine R_ldI rfl rfl ?_
            obtain ⟨c1791, hf⟩ := qchk hf
            refine R_ald rfl sh_67 c1791 ?_
            refine R_drop [true, true, true, true, false] (ls' := [.ref 60, .int l1, .int l2, .int l3, qU]) rfl ?_
            obtain rfl := Option.some.inj hf
            exact key
          · refine R_IfEq_f rfl c1790 ?_
            refine R_ldA rfl rfl ?_
            refine R_get rfl sh_60 rfl rfl ?_
            refine R_ldI rfl rfl ?_
            obtain ⟨c1792, hf⟩ := qchk hf
            refine R_ald rfl sh_67 c1792 ?_
            refine R_ldI rfl rfl ?_
            rcases qite hf with ⟨c1793, hf⟩ | ⟨c1793, hf⟩
            · refine R_CmNe_f rfl c1793 ?_
              refine R_ldA rfl rfl ?_
              refine R_get rfl sh_60 rfl rfl ?_
              refine R_goto rfl ?_
              refine R_drop [true, true, true, true, false] (ls' := [.ref 60, .int l1, .int l2, .int l3, qU]) rfl ?_
              obtain rfl := Option.some.inj hf
              exact key
            · refine R_CmNe_t rfl c1793 ?_
              refine R_ldA rfl rfl ?_
              refine R_get rfl sh_60 rfl rfl ?_
              refine R_ldI rfl rfl ?_
              obtain ⟨c1794, hf⟩ := qchk hf
              refine R_ald rfl sh_67 c1794 ?_
              refine R_drop [true, true, true, true, false] (ls' := [.ref 60, .int l1, .int l2, .int l3, qU]) rfl ?_
              obtain rfl := Option.some.inj hf
              exact key
        clear hf
        have hf := e1798
        clear e1798
        rcases qite hf with ⟨c1783, hf⟩ | ⟨c1783, hf⟩
        · refine R_IfEq_t rfl c1783 ?_
          refine R_ldA rfl rfl ?_
          refine R_get rfl sh_60 rfl rfl ?_
          refine R_ldI rfl rfl ?_
          obtain ⟨c1784, hf⟩ := qchk hf
          refine R_ald rfl sh_66 c1784 ?_
          obtain rfl := Option.some.inj hf
          exact key
        · refine R_IfEq_f rfl c1783 ?_
          refine R_ldA rfl rfl ?_
          refine R_get rfl sh_60 rfl rfl ?_
          refine R_ldI rfl rfl ?_
          obtain ⟨c1785, hf⟩ := qchk hf
          refine R_ald rfl sh_66 c1785 ?_
          refine R_ldI rfl rfl ?_
          rcases qite hf with ⟨c1786, hf⟩ | ⟨c1786, hf⟩
          · refine R_CmNe_f rfl c1786 ?_
            refine R_ldA rfl rfl ?_
            refine R_get rfl sh_60 rfl rfl ?_
            refine R_goto rfl ?_
            obtain rfl := Option.some.inj hf
            exact key
          · refine R_CmNe_t rfl c1786 ?_
            refine R_ldA rfl rfl ?_
            refine R_get rfl sh_60 rfl rfl ?_
            refine R_ldI rfl rfl ?_
            obtain ⟨c1787, hf⟩ := qchk hf
            refine R_ald rfl sh_66 c1787 ?_
            obtain rfl := Option.some.inj hf
            exact key
      clear hf
      have hf := e1799
      clear e1799
      rcases qite hf with ⟨c1776, hf⟩ | ⟨c1776, hf⟩
      · refine R_CmNe_f rfl c1776 ?_
        refine R_ldA rfl rfl ?_
        refine R_ldI rfl rfl ?_
        obtain ⟨⟨x1778, h1777⟩, e1779, hf⟩ := qbind_some hf
        dsimp only at hf
        refine R_callVi (as := [.ref 60, .int l3]) (rest := []) rfl rfl sh_60 rfl rfl rfl rfl (t_X6_isOver (by omega) l3 h e1779) ?_
        rcases qite hf with ⟨c1780, hf⟩ | ⟨c1780, hf⟩
        · refine R_IfNe_f rfl c1780 ?_
          refine R_I rfl ?_
          refine R_goto rfl ?_
          obtain ⟨rfl, rfl⟩ := qinj2 hf
          exact key
        · refine R_IfNe_t rfl c1780 ?_
          refine R_I rfl ?_
          obtain ⟨rfl, rfl⟩ := qinj2 hf
          exact key
      · refine R_CmNe_t rfl c1776 ?_
        refine R_I rfl ?_
        obtain ⟨rfl, rfl⟩ := qinj2 hf
        exact key
def f_X6_part (N : Nat) (a1 : Int32) (a2 : Int32) (h : qN) : Option (Int32 × qN) :=
  qbind (f_X6_isThing a1 h) fun (x1758, h1757) =>
  if x1758 = 0 then
    some ((-1 : Int32), h1757)
  else
    qbind (f_X6_in a2.toInt64 (0 : Int64) (((1 : Int32) <<< ((h1757 60 6) &&& 31)) - (1 : Int32)).toInt64 h1757) fun (x1762, h1761) =>
    if x1762 = 0 then
      some ((-1 : Int32), h1761)
    else
      if (h1761 60 3) = (8 : Int32) then
        some ((-3 : Int32), h1761)
      else
        if a1 < 0 ∨ 8 ≤ a1.toNatClampNeg then none else
        if (h1761 60 3) < 0 ∨ 8 ≤ (h1761 60 3).toNatClampNeg then none else
        qbind (f_X6_part_L57 N a1 a2 N (0 : Int32) (qup h1761 64 (h1761 60 3).toNatClampNeg (h1761 64 a1.toNatClampNeg))) fun h1773 =>
        qbind (f_X6_part_L120 N a1 a2 N (0 : Int32) h1773) fun h1801 =>
        qbind (f_X6_ends N  (qup h1801 60 3 ((h1801 60 3) + (1 : Int32)))) fun (x1804, h1803) =>
        some (((h1803 60 3) - (1 : Int32)), h1803)
set_option maxRecDepth 100000 in
theorem t_X6_part {d N : Nat} (hd : 3 ≤ d) (a1 : Int32) (a2 : Int32)  (h : qN) {v0 : Int32} {h1 : qN} (hf : f_X6_part N a1 a2 h = some (v0, h1)) : EE d 142 [.ref 60, .int a1, .int a2] h (some (.int v0)) h1 := by
  obtain ⟨d, rfl⟩ : ∃ d0, d = d0 + 1 := ⟨d - 1, by omega⟩
  unfold f_X6_part at hf
  refine E_intro qm_142 qc_142 (Nat.le_of_ble_eq_true rfl) rfl rfl ?_
  show RR d cd_X6_part (0, 0) 0 [.ref 60, .int a1, .int a2, qU, qU] [] h (some (.int v0)) h1
  refine R_ldA rfl rfl ?_
  refine R_ldI rfl rfl ?_
  obtain ⟨⟨x1758, h1757⟩, e1759, hf⟩ := qbind_some hf
  dsimp only at hf
  refine R_callVi (as := [.ref 60, .int a1]) (rest := []) rfl rfl sh_60 rfl rfl rfl rfl (t_X6_isThing (by omega) a1 h e1759) ?_
  rcases qite hf with ⟨c1760, hf⟩ | ⟨c1760, hf⟩
  · refine R_IfEq_t rfl c1760 ?_
    refine R_I rfl ?_
    obtain ⟨rfl, rfl⟩ := qinj2 hf
    exact R_retI rfl
  · refine R_IfEq_f rfl c1760 ?_
    refine R_ldI rfl rfl ?_
    refine R_i2l rfl ?_
    refine R_L rfl ?_
    refine R_I rfl ?_
    refine R_ldA rfl rfl ?_
    refine R_get rfl sh_60 rfl rfl ?_
    refine R_bin rfl ?_
    refine R_I rfl ?_
    refine R_bin rfl ?_
    refine R_i2l rfl ?_
    obtain ⟨⟨x1762, h1761⟩, e1763, hf⟩ := qbind_some hf
    dsimp only at hf
    refine R_callSi (as := [.long a2.toInt64, .long (0 : Int64), .long (((1 : Int32) <<< ((h1757 60 6) &&& 31)) - (1 : Int32)).toInt64]) (rest := []) rfl rfl rfl rfl rfl rfl (t_X6_in (by omega) a2.toInt64 (0 : Int64) (((1 : Int32) <<< ((h1757 60 6) &&& 31)) - (1 : Int32)).toInt64 h1757 e1763) ?_
    rcases qite hf with ⟨c1764, hf⟩ | ⟨c1764, hf⟩
    · refine R_IfNe_f rfl c1764 ?_
      refine R_I rfl ?_
      obtain ⟨rfl, rfl⟩ := qinj2 hf
      exact R_retI rfl
    · refine R_IfNe_t rfl c1764 ?_
      refine R_ldA rfl rfl ?_
      refine R_get rfl sh_60 rfl rfl ?_
      refine R_I rfl ?_
      rcases qite hf with ⟨c1765, hf⟩ | ⟨c1765, hf⟩
      · refine R_CmNe_f rfl c1765 ?_
        refine R_I rfl ?_
        obtain ⟨rfl, rfl⟩ := qinj2 hf
        exact R_retI rfl
      · refine R_CmNe_t rfl c1765 ?_
        refine R_ldA rfl rfl ?_
        refine R_get rfl sh_60 rfl rfl ?_
        refine R_ldA rfl rfl ?_
        refine R_get rfl sh_60 rfl rfl ?_
        refine R_ldA rfl rfl ?_
        refine R_get rfl sh_60 rfl rfl ?_
        refine R_ldI rfl rfl ?_
        obtain ⟨c1766, hf⟩ := qchk hf
        refine R_ald rfl sh_64 c1766 ?_
        obtain ⟨c1767, hf⟩ := qchk hf
        refine R_ast rfl sh_64 c1767 ?_
        refine R_I rfl ?_
        refine R_stI (ls' := [.ref 60, .int a1, .int a2, .int (0 : Int32), qU]) rfl rfl rfl rfl ?_
        obtain ⟨h1773, e1774, hf⟩ := qbind_some hf
        refine t_X6_part_L57 (N := N) (by omega) _ a1 a2 (0 : Int32) (qup h1761 64 (h1761 60 3).toNatClampNeg (h1761 64 a1.toNatClampNeg)) h1773 e1774 _ _ ?_
        refine R_I rfl ?_
        refine R_stI (ls' := [.ref 60, .int a1, .int a2, .int (0 : Int32), qU]) rfl rfl rfl rfl ?_
        obtain ⟨h1801, e1802, hf⟩ := qbind_some hf
        refine t_X6_part_L120 (N := N) (by omega) _ a1 a2 (0 : Int32) h1773 h1801 e1802 _ _ ?_
        refine R_ldA rfl rfl ?_
        refine R_dup rfl rfl ?_
        refine R_get rfl sh_60 rfl rfl ?_
        refine R_I rfl ?_
        refine R_bin rfl ?_
        refine R_putI rfl sh_60 rfl ?_
        refine R_ldA rfl rfl ?_
        obtain ⟨⟨x1804, h1803⟩, e1805, hf⟩ := qbind_some hf
        dsimp only at hf
        refine R_callVi (as := [.ref 60]) (rest := []) rfl rfl sh_60 rfl rfl rfl rfl (t_X6_ends (N := N) (by omega)  (qup h1801 60 3 ((h1801 60 3) + (1 : Int32))) e1805) ?_
        refine R_pop rfl rfl ?_
        refine R_ldA rfl rfl ?_
        refine R_get rfl sh_60 rfl rfl ?_
        refine R_I rfl ?_
        refine R_bin rfl ?_
        obtain ⟨rfl, rfl⟩ := qinj2 hf
        exact R_retI rfl
def f_X6_keeps_L2 (N : Nat) : Nat → Int32 → qN → Option (qN)
  | 0, _, _ => none
  | n + 1, l1, h =>
    if (8 : Int32) ≤ l1 then
      some h
    else
      if l1 < 0 ∨ 8 ≤ l1.toNatClampNeg then none else
      if l1 < 0 ∨ 8 ≤ l1.toNatClampNeg then none else
      f_X6_keeps_L2 N n (l1 + (1 : Int32)) (qup h 70 l1.toNatClampNeg (h 64 l1.toNatClampNeg))
set_option maxRecDepth 100000 in
theorem t_X6_keeps_L2 {d N : Nat} (hd : 0 ≤ d) : ∀ (n : Nat) (l1 : Int32) (h : qN) (h2 : qN), f_X6_keeps_L2 N n l1 h = some h2 → ∀ (v : Option Value) (h1 : qN), RR d cd_X6_keeps (0, 0) 26 [.ref 60, qU] [] h2 v h1 → RR d cd_X6_keeps (0, 0) 2 [.ref 60, .int l1] [] h v h1 := by
  intro n
  induction n with
  | zero =>
    intro l1 h h2 hf v h1 hE
    exact absurd hf (by simp [f_X6_keeps_L2])
  | succ n ih =>
    intro l1 h h2 hf v h1 hE
    unfold f_X6_keeps_L2 at hf
    refine R_ldI rfl rfl ?_
    refine R_I rfl ?_
    rcases qite hf with ⟨c1810, hf⟩ | ⟨c1810, hf⟩
    · refine R_CmGe_t rfl c1810 ?_
      refine R_drop [true, false] (ls' := [.ref 60, qU]) rfl ?_
      obtain rfl := Option.some.inj hf
      exact hE
    · refine R_CmGe_f rfl c1810 ?_
      refine R_ldA rfl rfl ?_
      refine R_get rfl sh_60 rfl rfl ?_
      refine R_ldI rfl rfl ?_
      refine R_ldA rfl rfl ?_
      refine R_get rfl sh_60 rfl rfl ?_
      refine R_ldI rfl rfl ?_
      obtain ⟨c1811, hf⟩ := qchk hf
      refine R_ald rfl sh_64 c1811 ?_
      obtain ⟨c1812, hf⟩ := qchk hf
      refine R_ast rfl sh_70 c1812 ?_
      refine R_inc (ls' := [.ref 60, .int (l1 + (1 : Int32))]) rfl rfl rfl rfl ?_
      refine R_goto rfl ?_
      exact ih  (l1 + (1 : Int32)) (qup h 70 l1.toNatClampNeg (h 64 l1.toNatClampNeg)) _ hf _ _ hE
def f_X6_keeps_L28 (N : Nat) : Nat → Int32 → qN → Option (qN)
  | 0, _, _ => none
  | n + 1, l1, h =>
    if (12 : Int32) ≤ l1 then
      some h
    else
      if l1 < 0 ∨ 12 ≤ l1.toNatClampNeg then none else
      if l1 < 0 ∨ 12 ≤ l1.toNatClampNeg then none else
      if l1 < 0 ∨ 12 ≤ l1.toNatClampNeg then none else
      if l1 < 0 ∨ 12 ≤ l1.toNatClampNeg then none else
      f_X6_keeps_L28 N n (l1 + (1 : Int32)) (qup (qup h 71 l1.toNatClampNeg (h 66 l1.toNatClampNeg)) 72 l1.toNatClampNeg ((qup h 71 l1.toNatClampNeg (h 66 l1.toNatClampNeg)) 67 l1.toNatClampNeg))
set_option maxRecDepth 100000 in
theorem t_X6_keeps_L28 {d N : Nat} (hd : 0 ≤ d) : ∀ (n : Nat) (l1 : Int32) (h : qN) (h2 : qN), f_X6_keeps_L28 N n l1 h = some h2 → ∀ (v : Option Value) (h1 : qN), RR d cd_X6_keeps (0, 0) 64 [.ref 60, qU] [] h2 v h1 → RR d cd_X6_keeps (0, 0) 28 [.ref 60, .int l1] [] h v h1 := by
  intro n
  induction n with
  | zero =>
    intro l1 h h2 hf v h1 hE
    exact absurd hf (by simp [f_X6_keeps_L28])
  | succ n ih =>
    intro l1 h h2 hf v h1 hE
    unfold f_X6_keeps_L28 at hf
    refine R_ldI rfl rfl ?_
    refine R_I rfl ?_
    rcases qite hf with ⟨c1816, hf⟩ | ⟨c1816, hf⟩
    · refine R_CmGe_t rfl c1816 ?_
      refine R_drop [true, false] (ls' := [.ref 60, qU]) rfl ?_
      obtain rfl := Option.some.inj hf
      exact hE
    · refine R_CmGe_f rfl c1816 ?_
      refine R_ldA rfl rfl ?_
      refine R_get rfl sh_60 rfl rfl ?_
      refine R_ldI rfl rfl ?_
      refine R_ldA rfl rfl ?_
      refine R_get rfl sh_60 rfl rfl ?_
      refine R_ldI rfl rfl ?_
      obtain ⟨c1817, hf⟩ := qchk hf
      refine R_ald rfl sh_66 c1817 ?_
      obtain ⟨c1818, hf⟩ := qchk hf
      refine R_ast rfl sh_71 c1818 ?_
      refine R_ldA rfl rfl ?_
      refine R_get rfl sh_60 rfl rfl ?_
      refine R_ldI rfl rfl ?_
      refine R_ldA rfl rfl ?_
      refine R_get rfl sh_60 rfl rfl ?_
      refine R_ldI rfl rfl ?_
      obtain ⟨c1819, hf⟩ := qchk hf
      refine R_ald rfl sh_67 c1819 ?_
      obtain ⟨c1820, hf⟩ := qchk hf
      refine R_ast rfl sh_72 c1820 ?_
      refine R_inc (ls' := [.ref 60, .int (l1 + (1 : Int32))]) rfl rfl rfl rfl ?_
      refine R_goto rfl ?_
      exact ih  (l1 + (1 : Int32)) (qup (qup h 71 l1.toNatClampNeg (h 66 l1.toNatClampNeg)) 72 l1.toNatClampNeg ((qup h 71 l1.toNatClampNeg (h 66 l1.toNatClampNeg)) 67 l1.toNatClampNeg)) _ hf _ _ hE
def f_X6_keeps (N : Nat) (h : qN) : Option (qN) :=
  qbind (f_X6_keeps_L2 N N (0 : Int32) h) fun h1814 =>
  qbind (f_X6_keeps_L28 N N (0 : Int32) h1814) fun h1822 =>
  some (qup h1822 60 19 (h1822 60 9))
set_option maxRecDepth 100000 in
theorem t_X6_keeps {d N : Nat} (hd : 1 ≤ d)   (h : qN) {h1 : qN} (hf : f_X6_keeps N  h = some h1) : EE d 143 [.ref 60] h none h1 := by
  obtain ⟨d, rfl⟩ : ∃ d0, d = d0 + 1 := ⟨d - 1, by omega⟩
  unfold f_X6_keeps at hf
  refine E_intro qm_143 qc_143 (Nat.le_of_ble_eq_true rfl) rfl rfl ?_
  show RR d cd_X6_keeps (0, 0) 0 [.ref 60, qU] [] h none h1
  refine R_I rfl ?_
  refine R_stI (ls' := [.ref 60, .int (0 : Int32)]) rfl rfl rfl rfl ?_
  obtain ⟨h1814, e1815, hf⟩ := qbind_some hf
  refine t_X6_keeps_L2 (N := N) (by omega) _  (0 : Int32) h h1814 e1815 _ _ ?_
  refine R_I rfl ?_
  refine R_stI (ls' := [.ref 60, .int (0 : Int32)]) rfl rfl rfl rfl ?_
  obtain ⟨h1822, e1823, hf⟩ := qbind_some hf
  refine t_X6_keeps_L28 (N := N) (by omega) _  (0 : Int32) h1814 h1822 e1823 _ _ ?_
  refine R_ldA rfl rfl ?_
  refine R_ldA rfl rfl ?_
  refine R_get rfl sh_60 rfl rfl ?_
  refine R_putI rfl sh_60 rfl ?_
  obtain rfl := Option.some.inj hf
  exact R_retV rfl
def f_X6_back_L2 (N : Nat) : Nat → Int32 → qN → Option (qN)
  | 0, _, _ => none
  | n + 1, l1, h =>
    if (8 : Int32) ≤ l1 then
      some h
    else
      if l1 < 0 ∨ 8 ≤ l1.toNatClampNeg then none else
      if l1 < 0 ∨ 8 ≤ l1.toNatClampNeg then none else
      f_X6_back_L2 N n (l1 + (1 : Int32)) (qup h 64 l1.toNatClampNeg (h 70 l1.toNatClampNeg))
set_option maxRecDepth 100000 in
theorem t_X6_back_L2 {d N : Nat} (hd : 0 ≤ d) : ∀ (n : Nat) (l1 : Int32) (h : qN) (h2 : qN), f_X6_back_L2 N n l1 h = some h2 → ∀ (v : Option Value) (h1 : qN), RR d cd_X6_back (0, 0) 26 [.ref 60, qU] [] h2 v h1 → RR d cd_X6_back (0, 0) 2 [.ref 60, .int l1] [] h v h1 := by
  intro n
  induction n with
  | zero =>
    intro l1 h h2 hf v h1 hE
    exact absurd hf (by simp [f_X6_back_L2])
  | succ n ih =>
    intro l1 h h2 hf v h1 hE
    unfold f_X6_back_L2 at hf
    refine R_ldI rfl rfl ?_
    refine R_I rfl ?_
    rcases qite hf with ⟨c1828, hf⟩ | ⟨c1828, hf⟩
    · refine R_CmGe_t rfl c1828 ?_
      refine R_drop [true, false] (ls' := [.ref 60, qU]) rfl ?_
      obtain rfl := Option.some.inj hf
      exact hE
    · refine R_CmGe_f rfl c1828 ?_
      refine R_ldA rfl rfl ?_
      refine R_get rfl sh_60 rfl rfl ?_
      refine R_ldI rfl rfl ?_
      refine R_ldA rfl rfl ?_
      refine R_get rfl sh_60 rfl rfl ?_
      refine R_ldI rfl rfl ?_
      obtain ⟨c1829, hf⟩ := qchk hf
      refine R_ald rfl sh_70 c1829 ?_
      obtain ⟨c1830, hf⟩ := qchk hf
      refine R_ast rfl sh_64 c1830 ?_
      refine R_inc (ls' := [.ref 60, .int (l1 + (1 : Int32))]) rfl rfl rfl rfl ?_
      refine R_goto rfl ?_
      exact ih  (l1 + (1 : Int32)) (qup h 64 l1.toNatClampNeg (h 70 l1.toNatClampNeg)) _ hf _ _ hE
def f_X6_back_L28 (N : Nat) : Nat → Int32 → qN → Option (qN)
  | 0, _, _ => none
  | n + 1, l1, h =>
    if (12 : Int32) ≤ l1 then
      some h
    else
      if l1 < 0 ∨ 12 ≤ l1.toNatClampNeg then none else
      if l1 < 0 ∨ 12 ≤ l1.toNatClampNeg then none else
      if l1 < 0 ∨ 12 ≤ l1.toNatClampNeg then none else
      if l1 < 0 ∨ 12 ≤ l1.toNatClampNeg then none else
      f_X6_back_L28 N n (l1 + (1 : Int32)) (qup (qup h 66 l1.toNatClampNeg (h 71 l1.toNatClampNeg)) 67 l1.toNatClampNeg ((qup h 66 l1.toNatClampNeg (h 71 l1.toNatClampNeg)) 72 l1.toNatClampNeg))
set_option maxRecDepth 100000 in
theorem t_X6_back_L28 {d N : Nat} (hd : 0 ≤ d) : ∀ (n : Nat) (l1 : Int32) (h : qN) (h2 : qN), f_X6_back_L28 N n l1 h = some h2 → ∀ (v : Option Value) (h1 : qN), RR d cd_X6_back (0, 0) 64 [.ref 60, qU] [] h2 v h1 → RR d cd_X6_back (0, 0) 28 [.ref 60, .int l1] [] h v h1 := by
  intro n
  induction n with
  | zero =>
    intro l1 h h2 hf v h1 hE
    exact absurd hf (by simp [f_X6_back_L28])
  | succ n ih =>
    intro l1 h h2 hf v h1 hE
    unfold f_X6_back_L28 at hf
    refine R_ldI rfl rfl ?_
    refine R_I rfl ?_
    rcases qite hf with ⟨c1834, hf⟩ | ⟨c1834, hf⟩
    · refine R_CmGe_t rfl c1834 ?_
      refine R_drop [true, false] (ls' := [.ref 60, qU]) rfl ?_
      obtain rfl := Option.some.inj hf
      exact hE
    · refine R_CmGe_f rfl c1834 ?_
      refine R_ldA rfl rfl ?_
      refine R_get rfl sh_60 rfl rfl ?_
      refine R_ldI rfl rfl ?_
      refine R_ldA rfl rfl ?_
      refine R_get rfl sh_60 rfl rfl ?_
      refine R_ldI rfl rfl ?_
      obtain ⟨c1835, hf⟩ := qchk hf
      refine R_ald rfl sh_71 c1835 ?_
      obtain ⟨c1836, hf⟩ := qchk hf
      refine R_ast rfl sh_66 c1836 ?_
      refine R_ldA rfl rfl ?_
      refine R_get rfl sh_60 rfl rfl ?_
      refine R_ldI rfl rfl ?_
      refine R_ldA rfl rfl ?_
      refine R_get rfl sh_60 rfl rfl ?_
      refine R_ldI rfl rfl ?_
      obtain ⟨c1837, hf⟩ := qchk hf
      refine R_ald rfl sh_72 c1837 ?_
      obtain ⟨c1838, hf⟩ := qchk hf
      refine R_ast rfl sh_67 c1838 ?_
      refine R_inc (ls' := [.ref 60, .int (l1 + (1 : Int32))]) rfl rfl rfl rfl ?_
      refine R_goto rfl ?_
      exact ih  (l1 + (1 : Int32)) (qup (qup h 66 l1.toNatClampNeg (h 71 l1.toNatClampNeg)) 67 l1.toNatClampNeg ((qup h 66 l1.toNatClampNeg (h 71 l1.toNatClampNeg)) 72 l1.toNatClampNeg)) _ hf _ _ hE
def f_X6_back (N : Nat) (h : qN) : Option (qN) :=
  qbind (f_X6_back_L2 N N (0 : Int32) h) fun h1832 =>
  qbind (f_X6_back_L28 N N (0 : Int32) h1832) fun h1840 =>
  some (qup h1840 60 9 (h1840 60 19))
set_option maxRecDepth 100000 in
theorem t_X6_back {d N : Nat} (hd : 1 ≤ d)   (h : qN) {h1 : qN} (hf : f_X6_back N  h = some h1) : EE d 144 [.ref 60] h none h1 := by
  obtain ⟨d, rfl⟩ : ∃ d0, d = d0 + 1 := ⟨d - 1, by omega⟩
  unfold f_X6_back at hf
  refine E_intro qm_144 qc_144 (Nat.le_of_ble_eq_true rfl) rfl rfl ?_
  show RR d cd_X6_back (0, 0) 0 [.ref 60, qU] [] h none h1
  refine R_I rfl ?_
  refine R_stI (ls' := [.ref 60, .int (0 : Int32)]) rfl rfl rfl rfl ?_
  obtain ⟨h1832, e1833, hf⟩ := qbind_some hf
  refine t_X6_back_L2 (N := N) (by omega) _  (0 : Int32) h h1832 e1833 _ _ ?_
  refine R_I rfl ?_
  refine R_stI (ls' := [.ref 60, .int (0 : Int32)]) rfl rfl rfl rfl ?_
  obtain ⟨h1840, e1841, hf⟩ := qbind_some hf
  refine t_X6_back_L28 (N := N) (by omega) _  (0 : Int32) h1832 h1840 e1841 _ _ ?_
  refine R_ldA rfl rfl ?_
  refine R_ldA rfl rfl ?_
  refine R_get rfl sh_60 rfl rfl ?_
  refine R_putI rfl sh_60 rfl ?_
  obtain rfl := Option.some.inj hf
  exact R_retV rfl
def f_X6_gainOf (N : Nat) (a1 : Int32) (a2 : Int32) (a3 : Int32) (h : qN) : Option (Int32 × qN) :=
  if a3 = (6 : Int32) then
    some ((0 : Int32), h)
  else
    qbind (f_X6_valueOf N a3 h) fun (x1848, h1847) =>
    qbind (f_X6_keeps N  h1847) fun h1850 =>
    qbind (f_X6_sells N a1 a2 h1850) fun (x1853, h1852) =>
    qbind (f_X6_valueOf N a3 h1852) fun (x1856, h1855) =>
    qbind (f_X6_back N  h1855) fun h1858 =>
    some ((x1856 - x1848), h1858)
set_option maxRecDepth 100000 in
theorem t_X6_gainOf {d N : Nat} (hd : 4 ≤ d) (a1 : Int32) (a2 : Int32) (a3 : Int32)  (h : qN) {v0 : Int32} {h1 : qN} (hf : f_X6_gainOf N a1 a2 a3 h = some (v0, h1)) : EE d 145 [.ref 60, .int a1, .int a2, .int a3] h (some (.int v0)) h1 := by
  obtain ⟨d, rfl⟩ : ∃ d0, d = d0 + 1 := ⟨d - 1, by omega⟩
  unfold f_X6_gainOf at hf
  refine E_intro qm_145 qc_145 (Nat.le_of_ble_eq_true rfl) rfl rfl ?_
  show RR d cd_X6_gainOf (0, 0) 0 [.ref 60, .int a1, .int a2, .int a3, qU, qU] [] h (some (.int v0)) h1
  refine R_ldI rfl rfl ?_
  refine R_I rfl ?_
  rcases qite hf with ⟨c1846, hf⟩ | ⟨c1846, hf⟩
  · refine R_CmNe_f rfl c1846 ?_
    refine R_I rfl ?_
    obtain ⟨rfl, rfl⟩ := qinj2 hf
    exact R_retI rfl
  · refine R_CmNe_t rfl c1846 ?_
    refine R_ldA rfl rfl ?_
    refine R_ldI rfl rfl ?_
    obtain ⟨⟨x1848, h1847⟩, e1849, hf⟩ := qbind_some hf
    dsimp only at hf
    refine R_callVi (as := [.ref 60, .int a3]) (rest := []) rfl rfl sh_60 rfl rfl rfl rfl (t_X6_valueOf (N := N) (by omega) a3 h e1849) ?_
    refine R_stI (ls' := [.ref 60, .int a1, .int a2, .int a3, .int x1848, qU]) rfl rfl rfl rfl ?_
    refine R_ldA rfl rfl ?_
    obtain ⟨h1850, e1851, hf⟩ := qbind_some hf
    refine R_callVv (as := [.ref 60]) (rest := []) rfl rfl sh_60 rfl rfl rfl rfl (t_X6_keeps (N := N) (by omega)  h1847 e1851) ?_
    refine R_ldA rfl rfl ?_
    refine R_ldI rfl rfl ?_
    refine R_ldI rfl rfl ?_
    obtain ⟨⟨x1853, h1852⟩, e1854, hf⟩ := qbind_some hf
    dsimp only at hf
    refine R_callVi (as := [.ref 60, .int a1, .int a2]) (rest := []) rfl rfl sh_60 rfl rfl rfl rfl (t_X6_sells (N := N) (by omega) a1 a2 h1850 e1854) ?_
    refine R_pop rfl rfl ?_
    refine R_ldA rfl rfl ?_
    refine R_ldI rfl rfl ?_
    obtain ⟨⟨x1856, h1855⟩, e1857, hf⟩ := qbind_some hf
    dsimp only at hf
    refine R_callVi (as := [.ref 60, .int a3]) (rest := []) rfl rfl sh_60 rfl rfl rfl rfl (t_X6_valueOf (N := N) (by omega) a3 h1852 e1857) ?_
    refine R_stI (ls' := [.ref 60, .int a1, .int a2, .int a3, .int x1848, .int x1856]) rfl rfl rfl rfl ?_
    refine R_ldA rfl rfl ?_
    obtain ⟨h1858, e1859, hf⟩ := qbind_some hf
    refine R_callVv (as := [.ref 60]) (rest := []) rfl rfl sh_60 rfl rfl rfl rfl (t_X6_back (N := N) (by omega)  h1855 e1859) ?_
    refine R_ldI rfl rfl ?_
    refine R_ldI rfl rfl ?_
    refine R_bin rfl ?_
    obtain ⟨rfl, rfl⟩ := qinj2 hf
    exact R_retI rfl
def f_X6_gain (N : Nat) (a1 : Int32) (a2 : Int32) (a3 : Int32) (h : qN) : Option (Int32 × qN) :=
  qbind (f_X6_isThing a1 h) fun (x1861, h1860) =>
  if x1861 = 0 then
    some ((-100001 : Int32), h1860)
  else
    qbind (f_X6_isPerson a2 h1860) fun (x1865, h1864) =>
    if x1865 = 0 then
      some ((-100001 : Int32), h1864)
    else
      qbind (f_X6_in a3.toInt64 (0 : Int64) (1 : Int64) h1864) fun (x1869, h1868) =>
      if x1869 = 0 then
        some ((-100001 : Int32), h1868)
      else
        if a1 < 0 ∨ 8 ≤ a1.toNatClampNeg then none else
        if (h1868 64 a1.toNatClampNeg) = a2 then
          some ((-100002 : Int32), h1868)
        else
          if a3 = 0 then
            if a1 < 0 ∨ 8 ≤ a1.toNatClampNeg then none else
            qbind (f_X6_gainOf N a1 a2 (h1868 64 a1.toNatClampNeg) h1868) fun (x1877, h1876) =>
            some (x1877, h1876)
          else
            qbind (f_X6_gainOf N a1 a2 a2 h1868) fun (x1880, h1879) =>
            some (x1880, h1879)
set_option maxRecDepth 100000 in
theorem t_X6_gain {d N : Nat} (hd : 5 ≤ d) (a1 : Int32) (a2 : Int32) (a3 : Int32)  (h : qN) {v0 : Int32} {h1 : qN} (hf : f_X6_gain N a1 a2 a3 h = some (v0, h1)) : EE d 146 [.ref 60, .int a1, .int a2, .int a3] h (some (.int v0)) h1 := by
  obtain ⟨d, rfl⟩ : ∃ d0, d = d0 + 1 := ⟨d - 1, by omega⟩
  unfold f_X6_gain at hf
  refine E_intro qm_146 qc_146 (Nat.le_of_ble_eq_true rfl) rfl rfl ?_
  show RR d cd_X6_gain (0, 0) 0 [.ref 60, .int a1, .int a2, .int a3] [] h (some (.int v0)) h1
  refine R_ldA rfl rfl ?_
  refine R_ldI rfl rfl ?_
  obtain ⟨⟨x1861, h1860⟩, e1862, hf⟩ := qbind_some hf
  dsimp only at hf
  refine R_callVi (as := [.ref 60, .int a1]) (rest := []) rfl rfl sh_60 rfl rfl rfl rfl (t_X6_isThing (by omega) a1 h e1862) ?_
  rcases qite hf with ⟨c1863, hf⟩ | ⟨c1863, hf⟩
  · refine R_IfEq_t rfl c1863 ?_
    refine R_I rfl ?_
    obtain ⟨rfl, rfl⟩ := qinj2 hf
    exact R_retI rfl
  · refine R_IfEq_f rfl c1863 ?_
    refine R_ldI rfl rfl ?_
    obtain ⟨⟨x1865, h1864⟩, e1866, hf⟩ := qbind_some hf
    dsimp only at hf
    refine R_callSi (as := [.int a2]) (rest := []) rfl rfl rfl rfl rfl rfl (t_X6_isPerson (by omega) a2 h1860 e1866) ?_
    rcases qite hf with ⟨c1867, hf⟩ | ⟨c1867, hf⟩
    · refine R_IfEq_t rfl c1867 ?_
      refine R_I rfl ?_
      obtain ⟨rfl, rfl⟩ := qinj2 hf
      exact R_retI rfl
    · refine R_IfEq_f rfl c1867 ?_
      refine R_ldI rfl rfl ?_
      refine R_i2l rfl ?_
      refine R_L rfl ?_
      refine R_L rfl ?_
      obtain ⟨⟨x1869, h1868⟩, e1870, hf⟩ := qbind_some hf
      dsimp only at hf
      refine R_callSi (as := [.long a3.toInt64, .long (0 : Int64), .long (1 : Int64)]) (rest := []) rfl rfl rfl rfl rfl rfl (t_X6_in (by omega) a3.toInt64 (0 : Int64) (1 : Int64) h1864 e1870) ?_
      rcases qite hf with ⟨c1871, hf⟩ | ⟨c1871, hf⟩
      · refine R_IfNe_f rfl c1871 ?_
        refine R_I rfl ?_
        obtain ⟨rfl, rfl⟩ := qinj2 hf
        exact R_retI rfl
      · refine R_IfNe_t rfl c1871 ?_
        refine R_ldA rfl rfl ?_
        refine R_get rfl sh_60 rfl rfl ?_
        refine R_ldI rfl rfl ?_
        obtain ⟨c1872, hf⟩ := qchk hf
        refine R_ald rfl sh_64 c1872 ?_
        refine R_ldI rfl rfl ?_
        rcases qite hf with ⟨c1873, hf⟩ | ⟨c1873, hf⟩
        · refine R_CmNe_f rfl c1873 ?_
          refine R_I rfl ?_
          refine R_goto rfl ?_
          obtain ⟨rfl, rfl⟩ := qinj2 hf
          exact R_retI rfl
        · refine R_CmNe_t rfl c1873 ?_
          refine R_ldA rfl rfl ?_
          refine R_ldI rfl rfl ?_
          refine R_ldI rfl rfl ?_
          refine R_ldI rfl rfl ?_
          rcases qite hf with ⟨c1874, hf⟩ | ⟨c1874, hf⟩
          · refine R_IfNe_f rfl c1874 ?_
            refine R_ldA rfl rfl ?_
            refine R_get rfl sh_60 rfl rfl ?_
            refine R_ldI rfl rfl ?_
            obtain ⟨c1875, hf⟩ := qchk hf
            refine R_ald rfl sh_64 c1875 ?_
            refine R_goto rfl ?_
            obtain ⟨⟨x1877, h1876⟩, e1878, hf⟩ := qbind_some hf
            dsimp only at hf
            refine R_callVi (as := [.ref 60, .int a1, .int a2, .int (h1868 64 a1.toNatClampNeg)]) (rest := []) rfl rfl sh_60 rfl rfl rfl rfl (t_X6_gainOf (N := N) (by omega) a1 a2 (h1868 64 a1.toNatClampNeg) h1868 e1878) ?_
            obtain ⟨rfl, rfl⟩ := qinj2 hf
            exact R_retI rfl
          · refine R_IfNe_t rfl c1874 ?_
            refine R_ldI rfl rfl ?_
            obtain ⟨⟨x1880, h1879⟩, e1881, hf⟩ := qbind_some hf
            dsimp only at hf
            refine R_callVi (as := [.ref 60, .int a1, .int a2, .int a2]) (rest := []) rfl rfl sh_60 rfl rfl rfl rfl (t_X6_gainOf (N := N) (by omega) a1 a2 a2 h1868 e1881) ?_
            obtain ⟨rfl, rfl⟩ := qinj2 hf
            exact R_retI rfl
def f_X6_priceOf (N : Nat) (a1 : Int32) (a2 : Int32) (h : qN) : Option (Int32 × qN) :=
  if a1 < 0 ∨ 8 ≤ a1.toNatClampNeg then none else
  qbind (f_X6_gainOf N a1 a2 (h 64 a1.toNatClampNeg) h) fun (x1884, h1883) =>
  qbind (f_X6_gainOf N a1 a2 a2 h1883) fun (x1888, h1887) =>
  if (x1888 - (if 0 ≤ ((1 : Int32) - x1884) then ((1 : Int32) - x1884) else (0 : Int32))) ≤ 0 then
    some ((-4 : Int32), h1887)
  else
    if a2 < 0 ∨ 6 ≤ a2.toNatClampNeg then none else
    if (h1887 61 a2.toNatClampNeg) < (if 0 ≤ ((1 : Int32) - x1884) then ((1 : Int32) - x1884) else (0 : Int32)) then
      some ((-4 : Int32), h1887)
    else
      some ((if 0 ≤ ((1 : Int32) - x1884) then ((1 : Int32) - x1884) else (0 : Int32)), h1887)
set_option maxRecDepth 100000 in
theorem t_X6_priceOf {d N : Nat} (hd : 5 ≤ d) (a1 : Int32) (a2 : Int32)  (h : qN) {v0 : Int32} {h1 : qN} (hf : f_X6_priceOf N a1 a2 h = some (v0, h1)) : EE d 147 [.ref 60, .int a1, .int a2] h (some (.int v0)) h1 := by
  obtain ⟨d, rfl⟩ : ∃ d0, d = d0 + 1 := ⟨d - 1, by omega⟩
  unfold f_X6_priceOf at hf
  refine E_intro qm_147 qc_147 (Nat.le_of_ble_eq_true rfl) rfl rfl ?_
  show RR d cd_X6_priceOf (0, 0) 0 [.ref 60, .int a1, .int a2, qU, qU] [] h (some (.int v0)) h1
  refine R_I rfl ?_
  refine R_ldA rfl rfl ?_
  refine R_ldI rfl rfl ?_
  refine R_ldI rfl rfl ?_
  refine R_ldA rfl rfl ?_
  refine R_get rfl sh_60 rfl rfl ?_
  refine R_ldI rfl rfl ?_
  obtain ⟨c1882, hf⟩ := qchk hf
  refine R_ald rfl sh_64 c1882 ?_
  obtain ⟨⟨x1884, h1883⟩, e1885, hf⟩ := qbind_some hf
  dsimp only at hf
  refine R_callVi (as := [.ref 60, .int a1, .int a2, .int (h 64 a1.toNatClampNeg)]) (rest := [.int (1 : Int32)]) rfl rfl sh_60 rfl rfl rfl rfl (t_X6_gainOf (N := N) (by omega) a1 a2 (h 64 a1.toNatClampNeg) h e1885) ?_
  refine R_bin rfl ?_
  refine R_stI (ls' := [.ref 60, .int a1, .int a2, .int ((1 : Int32) - x1884), qU]) rfl rfl rfl rfl ?_
  refine R_ldI rfl rfl ?_
  have key : RR d cd_X6_priceOf (0, 0) 24 [.ref 60, .int a1, .int a2, qU, qU] [.int (if 0 ≤ ((1 : Int32) - x1884) then ((1 : Int32) - x1884) else (0 : Int32))] h1883 (some (.int v0)) h1 := by
    refine R_stI (ls' := [.ref 60, .int a1, .int a2, qU, .int (if 0 ≤ ((1 : Int32) - x1884) then ((1 : Int32) - x1884) else (0 : Int32))]) rfl rfl rfl rfl ?_
    refine R_ldA rfl rfl ?_
    refine R_ldI rfl rfl ?_
    refine R_ldI rfl rfl ?_
    refine R_ldI rfl rfl ?_
    obtain ⟨⟨x1888, h1887⟩, e1889, hf⟩ := qbind_some hf
    dsimp only at hf
    refine R_callVi (as := [.ref 60, .int a1, .int a2, .int a2]) (rest := []) rfl rfl sh_60 rfl rfl rfl rfl (t_X6_gainOf (N := N) (by omega) a1 a2 a2 h1883 e1889) ?_
    refine R_ldI rfl rfl ?_
    refine R_bin rfl ?_
    rcases qite hf with ⟨c1890, hf⟩ | ⟨c1890, hf⟩
    · refine R_IfLe_t rfl c1890 ?_
      refine R_I rfl ?_
      obtain ⟨rfl, rfl⟩ := qinj2 hf
      exact R_retI rfl
    · refine R_IfLe_f rfl c1890 ?_
      refine R_ldA rfl rfl ?_
      refine R_get rfl sh_60 rfl rfl ?_
      refine R_ldI rfl rfl ?_
      obtain ⟨c1891, hf⟩ := qchk hf
      refine R_ald rfl sh_61 c1891 ?_
      refine R_ldI rfl rfl ?_
      rcases qite hf with ⟨c1892, hf⟩ | ⟨c1892, hf⟩
      · refine R_CmLt_t rfl c1892 ?_
        refine R_I rfl ?_
        obtain ⟨rfl, rfl⟩ := qinj2 hf
        exact R_retI rfl
      · refine R_CmLt_f rfl c1892 ?_
        refine R_ldI rfl rfl ?_
        refine R_goto rfl ?_
        obtain ⟨rfl, rfl⟩ := qinj2 hf
        exact R_retI rfl
  clear hf
  by_cases c1886 : 0 ≤ ((1 : Int32) - x1884)
  · rw [show (if 0 ≤ ((1 : Int32) - x1884) then ((1 : Int32) - x1884) else (0 : Int32)) = ((1 : Int32) - x1884) from if_pos c1886] at key
    refine R_IfGe_t rfl c1886 ?_
    refine R_ldI rfl rfl ?_
    refine R_drop [true, true, true, false, true] (ls' := [.ref 60, .int a1, .int a2, qU, qU]) rfl ?_
    exact key
  · rw [show (if 0 ≤ ((1 : Int32) - x1884) then ((1 : Int32) - x1884) else (0 : Int32)) = (0 : Int32) from if_neg c1886] at key
    refine R_IfGe_f rfl c1886 ?_
    refine R_I rfl ?_
    refine R_goto rfl ?_
    refine R_drop [true, true, true, false, true] (ls' := [.ref 60, .int a1, .int a2, qU, qU]) rfl ?_
    exact key
def f_X6_agreed (N : Nat) (a1 : Int32) (a2 : Int32) (h : qN) : Option (Int32 × qN) :=
  qbind (f_X6_isThing a1 h) fun (x1894, h1893) =>
  if x1894 = 0 then
    some ((-1 : Int32), h1893)
  else
    qbind (f_X6_isPerson a2 h1893) fun (x1898, h1897) =>
    if x1898 = 0 then
      some ((-1 : Int32), h1897)
    else
      if a1 < 0 ∨ 8 ≤ a1.toNatClampNeg then none else
      if (h1897 64 a1.toNatClampNeg) = (6 : Int32) then
        some ((-2 : Int32), h1897)
      else
        if a1 < 0 ∨ 8 ≤ a1.toNatClampNeg then none else
        if (h1897 64 a1.toNatClampNeg) = a2 then
          some ((-2 : Int32), h1897)
        else
          qbind (f_X6_priceOf N a1 a2 h1897) fun (x1906, h1905) =>
          some (x1906, h1905)
set_option maxRecDepth 100000 in
theorem t_X6_agreed {d N : Nat} (hd : 6 ≤ d) (a1 : Int32) (a2 : Int32)  (h : qN) {v0 : Int32} {h1 : qN} (hf : f_X6_agreed N a1 a2 h = some (v0, h1)) : EE d 148 [.ref 60, .int a1, .int a2] h (some (.int v0)) h1 := by
  obtain ⟨d, rfl⟩ : ∃ d0, d = d0 + 1 := ⟨d - 1, by omega⟩
  unfold f_X6_agreed at hf
  refine E_intro qm_148 qc_148 (Nat.le_of_ble_eq_true rfl) rfl rfl ?_
  show RR d cd_X6_agreed (0, 0) 0 [.ref 60, .int a1, .int a2] [] h (some (.int v0)) h1
  refine R_ldA rfl rfl ?_
  refine R_ldI rfl rfl ?_
  obtain ⟨⟨x1894, h1893⟩, e1895, hf⟩ := qbind_some hf
  dsimp only at hf
  refine R_callVi (as := [.ref 60, .int a1]) (rest := []) rfl rfl sh_60 rfl rfl rfl rfl (t_X6_isThing (by omega) a1 h e1895) ?_
  rcases qite hf with ⟨c1896, hf⟩ | ⟨c1896, hf⟩
  · refine R_IfEq_t rfl c1896 ?_
    refine R_I rfl ?_
    obtain ⟨rfl, rfl⟩ := qinj2 hf
    exact R_retI rfl
  · refine R_IfEq_f rfl c1896 ?_
    refine R_ldI rfl rfl ?_
    obtain ⟨⟨x1898, h1897⟩, e1899, hf⟩ := qbind_some hf
    dsimp only at hf
    refine R_callSi (as := [.int a2]) (rest := []) rfl rfl rfl rfl rfl rfl (t_X6_isPerson (by omega) a2 h1893 e1899) ?_
    rcases qite hf with ⟨c1900, hf⟩ | ⟨c1900, hf⟩
    · refine R_IfNe_f rfl c1900 ?_
      refine R_I rfl ?_
      obtain ⟨rfl, rfl⟩ := qinj2 hf
      exact R_retI rfl
    · refine R_IfNe_t rfl c1900 ?_
      refine R_ldA rfl rfl ?_
      refine R_get rfl sh_60 rfl rfl ?_
      refine R_ldI rfl rfl ?_
      obtain ⟨c1901, hf⟩ := qchk hf
      refine R_ald rfl sh_64 c1901 ?_
      refine R_I rfl ?_
      rcases qite hf with ⟨c1902, hf⟩ | ⟨c1902, hf⟩
      · refine R_CmEq_t rfl c1902 ?_
        refine R_I rfl ?_
        refine R_goto rfl ?_
        obtain ⟨rfl, rfl⟩ := qinj2 hf
        exact R_retI rfl
      · refine R_CmEq_f rfl c1902 ?_
        refine R_ldA rfl rfl ?_
        refine R_get rfl sh_60 rfl rfl ?_
        refine R_ldI rfl rfl ?_
        obtain ⟨c1903, hf⟩ := qchk hf
        refine R_ald rfl sh_64 c1903 ?_
        refine R_ldI rfl rfl ?_
        rcases qite hf with ⟨c1904, hf⟩ | ⟨c1904, hf⟩
        · refine R_CmNe_f rfl c1904 ?_
          refine R_I rfl ?_
          refine R_goto rfl ?_
          obtain ⟨rfl, rfl⟩ := qinj2 hf
          exact R_retI rfl
        · refine R_CmNe_t rfl c1904 ?_
          refine R_ldA rfl rfl ?_
          refine R_ldI rfl rfl ?_
          refine R_ldI rfl rfl ?_
          obtain ⟨⟨x1906, h1905⟩, e1907, hf⟩ := qbind_some hf
          dsimp only at hf
          refine R_callVi (as := [.ref 60, .int a1, .int a2]) (rest := []) rfl rfl sh_60 rfl rfl rfl rfl (t_X6_priceOf (N := N) (by omega) a1 a2 h1897 e1907) ?_
          obtain ⟨rfl, rfl⟩ := qinj2 hf
          exact R_retI rfl
def f_X6_deals_L2 (N : Nat) : Nat → Int32 → qN → Option ((Int32 × qN) ⊕ (qN))
  | 0, _, _ => none
  | n + 1, l1, h =>
    if ((6 : Int32) * (h 60 3)) ≤ l1 then
      some (.inr h)
    else
      if (l1 / (6 : Int32)) < 0 ∨ 8 ≤ (l1 / (6 : Int32)).toNatClampNeg then none else
      if (h 64 (l1 / (6 : Int32)).toNatClampNeg) = (6 : Int32) then
        f_X6_deals_L2 N n (l1 + (1 : Int32)) h
      else
        if (l1 / (6 : Int32)) < 0 ∨ 8 ≤ (l1 / (6 : Int32)).toNatClampNeg then none else
        if (h 64 (l1 / (6 : Int32)).toNatClampNeg) = (l1 - l1 / (6 : Int32) * (6 : Int32)) then
          f_X6_deals_L2 N n (l1 + (1 : Int32)) h
        else
          qbind (f_X6_priceOf N (l1 / (6 : Int32)) (l1 - l1 / (6 : Int32) * (6 : Int32)) h) fun (x1914, h1913) =>
          if x1914 < 0 then
            f_X6_deals_L2 N n (l1 + (1 : Int32)) h1913
          else
            qbind (f_X6_sale N (l1 / (6 : Int32)) (l1 - l1 / (6 : Int32) * (6 : Int32)) x1914 h1913) fun (x1918, h1917) =>
            some (.inl ((1 : Int32), h1917))
set_option maxRecDepth 100000 in
theorem t_X6_deals_L2 {d N : Nat} (hd : 5 ≤ d) : ∀ (n : Nat) (l1 : Int32) (h : qN) (res : (Int32 × qN) ⊕ (qN)), f_X6_deals_L2 N n l1 h = some res → ∀ (v : Option Value) (h1 : qN), (∀ (rv : Int32) (rh : qN), res = .inl (rv, rh) → v = some (.int rv) ∧ h1 = rh) → (∀ (h2 : qN), res = .inr h2 → RR d cd_X6_deals (0, 0) 82 [qU, qU, qU] [] h2 v h1) → RR d cd_X6_deals (0, 0) 2 [.ref 60, .int l1, qU] [] h v h1 := by
  intro n
  induction n with
  | zero =>
    intro l1 h res hf v h1 hR hE
    exact absurd hf (by simp [f_X6_deals_L2])
  | succ n ih =>
    intro l1 h res hf v h1 hR hE
    unfold f_X6_deals_L2 at hf
    refine R_ldI rfl rfl ?_
    refine R_I rfl ?_
    refine R_ldA rfl rfl ?_
    refine R_get rfl sh_60 rfl rfl ?_
    refine R_bin rfl ?_
    rcases qite hf with ⟨c1908, hf⟩ | ⟨c1908, hf⟩
    · refine R_CmGe_t rfl c1908 ?_
      refine R_drop [false, false, true] (ls' := [qU, qU, qU]) rfl ?_
      obtain rfl := Option.some.inj hf
      exact hE _ rfl
    · refine R_CmGe_f rfl c1908 ?_
      refine R_ldA rfl rfl ?_
      refine R_get rfl sh_60 rfl rfl ?_
      refine R_ldI rfl rfl ?_
      refine R_I rfl ?_
      refine R_div rfl (by decide) ?_
      obtain ⟨c1909, hf⟩ := qchk hf
      refine R_ald rfl sh_64 c1909 ?_
      refine R_I rfl ?_
      rcases qite hf with ⟨c1910, hf⟩ | ⟨c1910, hf⟩
      · refine R_CmEq_t rfl c1910 ?_
        refine R_inc (ls' := [.ref 60, .int (l1 + (1 : Int32)), qU]) rfl rfl rfl rfl ?_
        refine R_goto rfl ?_
        exact ih  (l1 + (1 : Int32)) h _ hf _ _ hR hE
      · refine R_CmEq_f rfl c1910 ?_
        refine R_ldA rfl rfl ?_
        refine R_get rfl sh_60 rfl rfl ?_
        refine R_ldI rfl rfl ?_
        refine R_I rfl ?_
        refine R_div rfl (by decide) ?_
        obtain ⟨c1911, hf⟩ := qchk hf
        refine R_ald rfl sh_64 c1911 ?_
        refine R_ldI rfl rfl ?_
        refine R_I rfl ?_
        refine R_div rfl (by decide) ?_
        rcases qite hf with ⟨c1912, hf⟩ | ⟨c1912, hf⟩
        · refine R_CmEq_t rfl c1912 ?_
          refine R_inc (ls' := [.ref 60, .int (l1 + (1 : Int32)), qU]) rfl rfl rfl rfl ?_
          refine R_goto rfl ?_
          exact ih  (l1 + (1 : Int32)) h _ hf _ _ hR hE
        · refine R_CmEq_f rfl c1912 ?_
          refine R_ldA rfl rfl ?_
          refine R_ldI rfl rfl ?_
          refine R_I rfl ?_
          refine R_div rfl (by decide) ?_
          refine R_ldI rfl rfl ?_
          refine R_I rfl ?_
          refine R_div rfl (by decide) ?_
          obtain ⟨⟨x1914, h1913⟩, e1915, hf⟩ := qbind_some hf
          dsimp only at hf
          refine R_callVi (as := [.ref 60, .int (l1 / (6 : Int32)), .int (l1 - l1 / (6 : Int32) * (6 : Int32))]) (rest := []) rfl rfl sh_60 rfl rfl rfl rfl (t_X6_priceOf (N := N) (by omega) (l1 / (6 : Int32)) (l1 - l1 / (6 : Int32) * (6 : Int32)) h e1915) ?_
          refine R_stI (ls' := [.ref 60, .int l1, .int x1914]) rfl rfl rfl rfl ?_
          refine R_ldI rfl rfl ?_
          rcases qite hf with ⟨c1916, hf⟩ | ⟨c1916, hf⟩
          · refine R_IfLt_t rfl c1916 ?_
            refine R_inc (ls' := [.ref 60, .int (l1 + (1 : Int32)), .int x1914]) rfl rfl rfl rfl ?_
            refine R_goto rfl ?_
            refine R_drop [true, true, false] (ls' := [.ref 60, .int (l1 + (1 : Int32)), qU]) rfl ?_
            exact ih  (l1 + (1 : Int32)) h1913 _ hf _ _ hR hE
          · refine R_IfLt_f rfl c1916 ?_
            refine R_ldA rfl rfl ?_
            refine R_ldI rfl rfl ?_
            refine R_I rfl ?_
            refine R_div rfl (by decide) ?_
            refine R_ldI rfl rfl ?_
            refine R_I rfl ?_
            refine R_div rfl (by decide) ?_
            refine R_ldI rfl rfl ?_
            obtain ⟨⟨x1918, h1917⟩, e1919, hf⟩ := qbind_some hf
            dsimp only at hf
            refine R_callVi (as := [.ref 60, .int (l1 / (6 : Int32)), .int (l1 - l1 / (6 : Int32) * (6 : Int32)), .int x1914]) (rest := []) rfl rfl sh_60 rfl rfl rfl rfl (t_X6_sale (N := N) (by omega) (l1 / (6 : Int32)) (l1 - l1 / (6 : Int32) * (6 : Int32)) x1914 h1913 e1919) ?_
            refine R_pop rfl rfl ?_
            refine R_I rfl ?_
            obtain rfl := Option.some.inj hf
            obtain ⟨rfl, rfl⟩ := hR _ _ rfl
            exact R_retZ rfl (by decide)
def f_X6_deals (N : Nat) (h : qN) : Option (Int32 × qN) :=
  qbind (f_X6_deals_L2 N N (0 : Int32) h) fun
    | .inl (x1923, h1924) => some (x1923, h1924)
    | .inr h1921 =>
      some ((0 : Int32), h1921)
set_option maxRecDepth 100000 in
theorem t_X6_deals {d N : Nat} (hd : 6 ≤ d)   (h : qN) {v0 : Int32} {h1 : qN} (hf : f_X6_deals N  h = some (v0, h1)) : EE d 149 [.ref 60] h (some (.int v0)) h1 := by
  obtain ⟨d, rfl⟩ : ∃ d0, d = d0 + 1 := ⟨d - 1, by omega⟩
  unfold f_X6_deals at hf
  refine E_intro qm_149 qc_149 (Nat.le_of_ble_eq_true rfl) rfl rfl ?_
  show RR d cd_X6_deals (0, 0) 0 [.ref 60, qU, qU] [] h (some (.int v0)) h1
  refine R_I rfl ?_
  refine R_stI (ls' := [.ref 60, .int (0 : Int32), qU]) rfl rfl rfl rfl ?_
  obtain ⟨⟨x1923, h1924⟩ | h1921, e1922, hf⟩ := qbind_some hf
  · dsimp only at hf
    refine t_X6_deals_L2 (N := N) (by omega) _  (0 : Int32) h _ e1922 _ _ (fun rv rh he => ?_) (fun _ he => by cases he)
    cases he
    obtain ⟨rfl, rfl⟩ := qinj2 hf
    exact ⟨rfl, rfl⟩
  · dsimp only at hf
    refine t_X6_deals_L2 (N := N) (by omega) _  (0 : Int32) h _ e1922 _ _ (fun _ _ he => by cases he) (fun z0 he => ?_)
    cases he
    refine R_I rfl ?_
    obtain ⟨rfl, rfl⟩ := qinj2 hf
    exact R_retZ rfl (by decide)
def f_X6_rest_L16 (N : Nat) (l1 : Int32) : Nat → Int32 → qN → Option (Int32 × qN)
  | 0, _, _ => none
  | n + 1, l2, h =>
    if l1 ≤ l2 then
      some (l2, h)
    else
      qbind (f_X6_deals N  h) fun (x1931, h1930) =>
      if x1931 = 0 then
        some (l2, h1930)
      else
        f_X6_rest_L16 N l1 n (l2 + (1 : Int32)) h1930
set_option maxRecDepth 100000 in
theorem t_X6_rest_L16 {d N : Nat} (hd : 6 ≤ d) : ∀ (n : Nat) (l1 : Int32) (l2 : Int32) (h : qN) (y2 : Int32) (h2 : qN), f_X6_rest_L16 N l1 n l2 h = some (y2, h2) → ∀ (v : Option Value) (h1 : qN), RR d cd_X6_rest (0, 0) 34 [qU, qU, .int y2] [] h2 v h1 → RR d cd_X6_rest (0, 0) 16 [.ref 60, .int l1, .int l2] [] h v h1 := by
  intro n
  induction n with
  | zero =>
    intro l1 l2 h y2 h2 hf v h1 hE
    exact absurd hf (by simp [f_X6_rest_L16])
  | succ n ih =>
    intro l1 l2 h y2 h2 hf v h1 hE
    unfold f_X6_rest_L16 at hf
    refine R_ldI rfl rfl ?_
    refine R_ldI rfl rfl ?_
    rcases qite hf with ⟨c1929, hf⟩ | ⟨c1929, hf⟩
    · refine R_CmGe_t rfl c1929 ?_
      refine R_drop [false, false, true] (ls' := [qU, qU, .int l2]) rfl ?_
      obtain ⟨rfl, rfl⟩ := qinj2 hf
      exact hE
    · refine R_CmGe_f rfl c1929 ?_
      refine R_ldA rfl rfl ?_
      obtain ⟨⟨x1931, h1930⟩, e1932, hf⟩ := qbind_some hf
      dsimp only at hf
      refine R_callVi (as := [.ref 60]) (rest := []) rfl rfl sh_60 rfl rfl rfl rfl (t_X6_deals (N := N) (by omega)  h e1932) ?_
      rcases qite hf with ⟨c1933, hf⟩ | ⟨c1933, hf⟩
      · refine R_IfEq_t rfl c1933 ?_
        refine R_drop [false, false, true] (ls' := [qU, qU, .int l2]) rfl ?_
        obtain ⟨rfl, rfl⟩ := qinj2 hf
        exact hE
      · refine R_IfEq_f rfl c1933 ?_
        refine R_inc (ls' := [.ref 60, .int l1, .int (l2 + (1 : Int32))]) rfl rfl rfl rfl ?_
        refine R_goto rfl ?_
        exact ih l1 (l2 + (1 : Int32)) h1930 _ _ hf _ _ hE
def f_X6_rest (N : Nat) (a1 : Int32) (h : qN) : Option (Int32 × qN) :=
  qbind (f_X6_in a1.toInt64 (1 : Int64) (60 : Int64) h) fun (x1926, h1925) =>
  if x1926 = 0 then
    some ((-1 : Int32), h1925)
  else
    qbind (f_X6_rest_L16 N a1 N (0 : Int32) h1925) fun (x1935, h1936) =>
    some (x1935, h1936)
set_option maxRecDepth 100000 in
theorem t_X6_rest {d N : Nat} (hd : 7 ≤ d) (a1 : Int32)  (h : qN) {v0 : Int32} {h1 : qN} (hf : f_X6_rest N a1 h = some (v0, h1)) : EE d 150 [.ref 60, .int a1] h (some (.int v0)) h1 := by
  obtain ⟨d, rfl⟩ : ∃ d0, d = d0 + 1 := ⟨d - 1, by omega⟩
  unfold f_X6_rest at hf
  refine E_intro qm_150 qc_150 (Nat.le_of_ble_eq_true rfl) rfl rfl ?_
  show RR d cd_X6_rest (0, 0) 0 [.ref 60, .int a1, qU] [] h (some (.int v0)) h1
  refine R_ldI rfl rfl ?_
  refine R_i2l rfl ?_
  refine R_L rfl ?_
  refine R_L rfl ?_
  obtain ⟨⟨x1926, h1925⟩, e1927, hf⟩ := qbind_some hf
  dsimp only at hf
  refine R_callSi (as := [.long a1.toInt64, .long (1 : Int64), .long (60 : Int64)]) (rest := []) rfl rfl rfl rfl rfl rfl (t_X6_in (by omega) a1.toInt64 (1 : Int64) (60 : Int64) h e1927) ?_
  rcases qite hf with ⟨c1928, hf⟩ | ⟨c1928, hf⟩
  · refine R_IfNe_f rfl c1928 ?_
    refine R_I rfl ?_
    obtain ⟨rfl, rfl⟩ := qinj2 hf
    exact R_retI rfl
  · refine R_IfNe_t rfl c1928 ?_
    refine R_I rfl ?_
    refine R_stI (ls' := [.ref 60, .int a1, .int (0 : Int32)]) rfl rfl rfl rfl ?_
    obtain ⟨⟨x1935, h1936⟩, e1937, hf⟩ := qbind_some hf
    dsimp only at hf
    refine t_X6_rest_L16 (N := N) (by omega) _ a1 (0 : Int32) h1925 x1935 h1936 e1937 _ _ ?_
    refine R_ldI rfl rfl ?_
    obtain ⟨rfl, rfl⟩ := qinj2 hf
    exact R_retI rfl
def f_X6_groupOf_L16 (N : Nat) (l3 : Int32) : Nat → Int32 → Int32 → qN → Option (Int32 × qN)
  | 0, _, _, _ => none
  | n + 1, l2, l4, h =>
    if (h 60 6) ≤ l4 then
      some (l2, h)
    else
      if l4 < 0 ∨ 12 ≤ l4.toNatClampNeg then none else
      if l4 < 0 ∨ 12 ≤ l4.toNatClampNeg then none else
      qbind (f_X6_isOver l4 h) fun (x1945, h1944) =>
      f_X6_groupOf_L16 N l3 n (l2 ||| (if x1945 = 0 then (if (l2 &&& (((1 : Int32) <<< ((h 66 l4.toNatClampNeg) &&& 31)) ||| ((1 : Int32) <<< ((h 67 l4.toNatClampNeg) &&& 31)))) = 0 then (0 : Int32) else (((1 : Int32) <<< ((h 66 l4.toNatClampNeg) &&& 31)) ||| ((1 : Int32) <<< ((h 67 l4.toNatClampNeg) &&& 31)))) else (0 : Int32))) (l4 + (1 : Int32)) h1944
set_option maxRecDepth 100000 in
theorem t_X6_groupOf_L16 {d N : Nat} (hd : 1 ≤ d) : ∀ (n : Nat) (l3 : Int32) (l2 : Int32) (l4 : Int32) (h : qN) (y2 : Int32) (h2 : qN), f_X6_groupOf_L16 N l3 n l2 l4 h = some (y2, h2) → ∀ (v : Option Value) (h1 : qN), RR d cd_X6_groupOf (0, 0) 77 [.ref 60, qU, .int y2, .int l3, qU, qU] [] h2 v h1 → RR d cd_X6_groupOf (0, 0) 16 [.ref 60, qU, .int l2, .int l3, .int l4, qU] [] h v h1 := by
  intro n
  induction n with
  | zero =>
    intro l3 l2 l4 h y2 h2 hf v h1 hE
    exact absurd hf (by simp [f_X6_groupOf_L16])
  | succ n ih =>
    intro l3 l2 l4 h y2 h2 hf v h1 hE
    unfold f_X6_groupOf_L16 at hf
    refine R_ldI rfl rfl ?_
    refine R_ldA rfl rfl ?_
    refine R_get rfl sh_60 rfl rfl ?_
    rcases qite hf with ⟨c1941, hf⟩ | ⟨c1941, hf⟩
    · refine R_CmGe_t rfl c1941 ?_
      refine R_drop [true, true, true, true, false, true] (ls' := [.ref 60, qU, .int l2, .int l3, qU, qU]) rfl ?_
      obtain ⟨rfl, rfl⟩ := qinj2 hf
      exact hE
    · refine R_CmGe_f rfl c1941 ?_
      refine R_I rfl ?_
      refine R_ldA rfl rfl ?_
      refine R_get rfl sh_60 rfl rfl ?_
      refine R_ldI rfl rfl ?_
      obtain ⟨c1942, hf⟩ := qchk hf
      refine R_ald rfl sh_66 c1942 ?_
      refine R_bin rfl ?_
      refine R_I rfl ?_
      refine R_ldA rfl rfl ?_
      refine R_get rfl sh_60 rfl rfl ?_
      refine R_ldI rfl rfl ?_
      obtain ⟨c1943, hf⟩ := qchk hf
      refine R_ald rfl sh_67 c1943 ?_
      refine R_bin rfl ?_
      refine R_bin rfl ?_
      refine R_stI (ls' := [.ref 60, qU, .int l2, .int l3, .int l4, .int (((1 : Int32) <<< ((h 66 l4.toNatClampNeg) &&& 31)) ||| ((1 : Int32) <<< ((h 67 l4.toNatClampNeg) &&& 31)))]) rfl rfl rfl rfl ?_
      refine R_ldI rfl rfl ?_
      refine R_ldA rfl rfl ?_
      refine R_ldI rfl rfl ?_
      obtain ⟨⟨x1945, h1944⟩, e1946, hf⟩ := qbind_some hf
      dsimp only at hf
      refine R_callVi (as := [.ref 60, .int l4]) (rest := [.int l2]) rfl rfl sh_60 rfl rfl rfl rfl (t_X6_isOver (by omega) l4 h e1946) ?_
      have key : RR d cd_X6_groupOf (0, 0) 69 [.ref 60, qU, qU, .int l3, .int l4, qU] [.int (if x1945 = 0 then (if (l2 &&& (((1 : Int32) <<< ((h 66 l4.toNatClampNeg) &&& 31)) ||| ((1 : Int32) <<< ((h 67 l4.toNatClampNeg) &&& 31)))) = 0 then (0 : Int32) else (((1 : Int32) <<< ((h 66 l4.toNatClampNeg) &&& 31)) ||| ((1 : Int32) <<< ((h 67 l4.toNatClampNeg) &&& 31)))) else (0 : Int32)), .int l2] h1944 v h1 := by
        refine R_bin rfl ?_
        refine R_stI (ls' := [.ref 60, qU, .int (l2 ||| (if x1945 = 0 then (if (l2 &&& (((1 : Int32) <<< ((h 66 l4.toNatClampNeg) &&& 31)) ||| ((1 : Int32) <<< ((h 67 l4.toNatClampNeg) &&& 31)))) = 0 then (0 : Int32) else (((1 : Int32) <<< ((h 66 l4.toNatClampNeg) &&& 31)) ||| ((1 : Int32) <<< ((h 67 l4.toNatClampNeg) &&& 31)))) else (0 : Int32))), .int l3, .int l4, qU]) rfl rfl rfl rfl ?_
        refine R_inc (ls' := [.ref 60, qU, .int (l2 ||| (if x1945 = 0 then (if (l2 &&& (((1 : Int32) <<< ((h 66 l4.toNatClampNeg) &&& 31)) ||| ((1 : Int32) <<< ((h 67 l4.toNatClampNeg) &&& 31)))) = 0 then (0 : Int32) else (((1 : Int32) <<< ((h 66 l4.toNatClampNeg) &&& 31)) ||| ((1 : Int32) <<< ((h 67 l4.toNatClampNeg) &&& 31)))) else (0 : Int32))), .int l3, .int (l4 + (1 : Int32)), qU]) rfl rfl rfl rfl ?_
        refine R_goto rfl ?_
        exact ih l3 (l2 ||| (if x1945 = 0 then (if (l2 &&& (((1 : Int32) <<< ((h 66 l4.toNatClampNeg) &&& 31)) ||| ((1 : Int32) <<< ((h 67 l4.toNatClampNeg) &&& 31)))) = 0 then (0 : Int32) else (((1 : Int32) <<< ((h 66 l4.toNatClampNeg) &&& 31)) ||| ((1 : Int32) <<< ((h 67 l4.toNatClampNeg) &&& 31)))) else (0 : Int32))) (l4 + (1 : Int32)) h1944 _ _ hf _ _ hE
      clear hf
      by_cases c1947 : x1945 = 0
      · rw [show (if x1945 = 0 then (if (l2 &&& (((1 : Int32) <<< ((h 66 l4.toNatClampNeg) &&& 31)) ||| ((1 : Int32) <<< ((h 67 l4.toNatClampNeg) &&& 31)))) = 0 then (0 : Int32) else (((1 : Int32) <<< ((h 66 l4.toNatClampNeg) &&& 31)) ||| ((1 : Int32) <<< ((h 67 l4.toNatClampNeg) &&& 31)))) else (0 : Int32)) = (if (l2 &&& (((1 : Int32) <<< ((h 66 l4.toNatClampNeg) &&& 31)) ||| ((1 : Int32) <<< ((h 67 l4.toNatClampNeg) &&& 31)))) = 0 then (0 : Int32) else (((1 : Int32) <<< ((h 66 l4.toNatClampNeg) &&& 31)) ||| ((1 : Int32) <<< ((h 67 l4.toNatClampNeg) &&& 31)))) from if_pos c1947] at key
        refine R_IfNe_f rfl c1947 ?_
        refine R_ldI rfl rfl ?_
        refine R_ldI rfl rfl ?_
        refine R_bin rfl ?_
        by_cases c1948 : (l2 &&& (((1 : Int32) <<< ((h 66 l4.toNatClampNeg) &&& 31)) ||| ((1 : Int32) <<< ((h 67 l4.toNatClampNeg) &&& 31)))) = 0
        · rw [show (if (l2 &&& (((1 : Int32) <<< ((h 66 l4.toNatClampNeg) &&& 31)) ||| ((1 : Int32) <<< ((h 67 l4.toNatClampNeg) &&& 31)))) = 0 then (0 : Int32) else (((1 : Int32) <<< ((h 66 l4.toNatClampNeg) &&& 31)) ||| ((1 : Int32) <<< ((h 67 l4.toNatClampNeg) &&& 31)))) = (0 : Int32) from if_pos c1948] at key
          refine R_IfEq_t rfl c1948 ?_
          refine R_I rfl ?_
          refine R_drop [true, true, false, true, true, false] (ls' := [.ref 60, qU, qU, .int l3, .int l4, qU]) rfl ?_
          exact key
        · rw [show (if (l2 &&& (((1 : Int32) <<< ((h 66 l4.toNatClampNeg) &&& 31)) ||| ((1 : Int32) <<< ((h 67 l4.toNatClampNeg) &&& 31)))) = 0 then (0 : Int32) else (((1 : Int32) <<< ((h 66 l4.toNatClampNeg) &&& 31)) ||| ((1 : Int32) <<< ((h 67 l4.toNatClampNeg) &&& 31)))) = (((1 : Int32) <<< ((h 66 l4.toNatClampNeg) &&& 31)) ||| ((1 : Int32) <<< ((h 67 l4.toNatClampNeg) &&& 31))) from if_neg c1948] at key
          refine R_IfEq_f rfl c1948 ?_
          refine R_ldI rfl rfl ?_
          refine R_goto rfl ?_
          refine R_drop [true, true, false, true, true, false] (ls' := [.ref 60, qU, qU, .int l3, .int l4, qU]) rfl ?_
          exact key
      · rw [show (if x1945 = 0 then (if (l2 &&& (((1 : Int32) <<< ((h 66 l4.toNatClampNeg) &&& 31)) ||| ((1 : Int32) <<< ((h 67 l4.toNatClampNeg) &&& 31)))) = 0 then (0 : Int32) else (((1 : Int32) <<< ((h 66 l4.toNatClampNeg) &&& 31)) ||| ((1 : Int32) <<< ((h 67 l4.toNatClampNeg) &&& 31)))) else (0 : Int32)) = (0 : Int32) from if_neg c1947] at key
        refine R_IfNe_t rfl c1947 ?_
        refine R_I rfl ?_
        refine R_drop [true, true, false, true, true, false] (ls' := [.ref 60, qU, qU, .int l3, .int l4, qU]) rfl ?_
        exact key
def f_X6_groupOf_L6 (N : Nat) : Nat → Int32 → Int32 → qN → Option (Int32 × qN)
  | 0, _, _, _ => none
  | n + 1, l2, l3, h =>
    if l2 = l3 then
      some (l2, h)
    else
      qbind (f_X6_groupOf_L16 N l2 N l2 (0 : Int32) h) fun (x1950, h1951) =>
      f_X6_groupOf_L6 N n x1950 l2 h1951
set_option maxRecDepth 100000 in
theorem t_X6_groupOf_L6 {d N : Nat} (hd : 1 ≤ d) : ∀ (n : Nat) (l2 : Int32) (l3 : Int32) (h : qN) (y2 : Int32) (h2 : qN), f_X6_groupOf_L6 N n l2 l3 h = some (y2, h2) → ∀ (v : Option Value) (h1 : qN), RR d cd_X6_groupOf (0, 0) 80 [qU, qU, .int y2, qU, qU, qU] [] h2 v h1 → RR d cd_X6_groupOf (0, 0) 6 [.ref 60, qU, .int l2, .int l3, qU, qU] [] h v h1 := by
  intro n
  induction n with
  | zero =>
    intro l2 l3 h y2 h2 hf v h1 hE
    exact absurd hf (by simp [f_X6_groupOf_L6])
  | succ n ih =>
    intro l2 l3 h y2 h2 hf v h1 hE
    unfold f_X6_groupOf_L6 at hf
    refine R_ldI rfl rfl ?_
    refine R_ldI rfl rfl ?_
    rcases qite hf with ⟨c1940, hf⟩ | ⟨c1940, hf⟩
    · refine R_CmEq_t rfl c1940 ?_
      refine R_drop [false, true, true, false, true, true] (ls' := [qU, qU, .int l2, qU, qU, qU]) rfl ?_
      obtain ⟨rfl, rfl⟩ := qinj2 hf
      exact hE
    · refine R_CmEq_f rfl c1940 ?_
      refine R_ldI rfl rfl ?_
      refine R_stI (ls' := [.ref 60, qU, .int l2, .int l2, qU, qU]) rfl rfl rfl rfl ?_
      refine R_I rfl ?_
      refine R_stI (ls' := [.ref 60, qU, .int l2, .int l2, .int (0 : Int32), qU]) rfl rfl rfl rfl ?_
      obtain ⟨⟨x1950, h1951⟩, e1952, hf⟩ := qbind_some hf
      dsimp only at hf
      refine t_X6_groupOf_L16 (N := N) (by omega) _ l2 l2 (0 : Int32) h x1950 h1951 e1952 _ _ ?_
      refine R_goto rfl ?_
      exact ih  x1950 l2 h1951 _ _ hf _ _ hE
def f_X6_groupOf (N : Nat) (a1 : Int32) (h : qN) : Option (Int32 × qN) :=
  qbind (f_X6_groupOf_L6 N N ((1 : Int32) <<< (a1 &&& 31)) (0 : Int32) h) fun (x1956, h1957) =>
  some (x1956, h1957)
set_option maxRecDepth 100000 in
theorem t_X6_groupOf {d N : Nat} (hd : 2 ≤ d) (a1 : Int32)  (h : qN) {v0 : Int32} {h1 : qN} (hf : f_X6_groupOf N a1 h = some (v0, h1)) : EE d 151 [.ref 60, .int a1] h (some (.int v0)) h1 := by
  obtain ⟨d, rfl⟩ : ∃ d0, d = d0 + 1 := ⟨d - 1, by omega⟩
  unfold f_X6_groupOf at hf
  refine E_intro qm_151 qc_151 (Nat.le_of_ble_eq_true rfl) rfl rfl ?_
  show RR d cd_X6_groupOf (0, 0) 0 [.ref 60, .int a1, qU, qU, qU, qU] [] h (some (.int v0)) h1
  refine R_I rfl ?_
  refine R_ldI rfl rfl ?_
  refine R_bin rfl ?_
  refine R_stI (ls' := [.ref 60, .int a1, .int ((1 : Int32) <<< (a1 &&& 31)), qU, qU, qU]) rfl rfl rfl rfl ?_
  refine R_I rfl ?_
  refine R_stI (ls' := [.ref 60, .int a1, .int ((1 : Int32) <<< (a1 &&& 31)), .int (0 : Int32), qU, qU]) rfl rfl rfl rfl ?_
  refine R_drop [true, false, true, true, true, true] (ls' := [.ref 60, qU, .int ((1 : Int32) <<< (a1 &&& 31)), .int (0 : Int32), qU, qU]) rfl ?_
  obtain ⟨⟨x1956, h1957⟩, e1958, hf⟩ := qbind_some hf
  dsimp only at hf
  refine t_X6_groupOf_L6 (N := N) (by omega) _  ((1 : Int32) <<< (a1 &&& 31)) (0 : Int32) h x1956 h1957 e1958 _ _ ?_
  refine R_ldI rfl rfl ?_
  obtain ⟨rfl, rfl⟩ := qinj2 hf
  exact R_retI rfl
def f_X6_group_L32 (N : Nat) : Nat → Int32 → Int32 → Int32 → qN → Option (Int32 × qN)
  | 0, _, _, _, _ => none
  | n + 1, l2, l3, l4, h =>
    if (16 : Int32) ≤ l4 then
      some (l3, h)
    else
      qbind (f_X6_isSide l4 h) fun (x1965, h1964) =>
      qbind (
          if x1965 = 0 then
            some (l2, l3, h1964)
          else
            if ((l2 >>> (l4 &&& 31)) &&& (1 : Int32)) = 0 then
              qbind (f_X6_groupOf N l4 h1964) fun (x1970, h1969) =>
              qbind (f_X6_size N x1970 h1969) fun (x1973, h1972) =>
              some ((l2 ||| x1970), (l3 + (if x1973 ≤ (1 : Int32) then (0 : Int32) else (1 : Int32))), h1972)
            else
              some (l2, l3, h1964) : Option (Int32 × Int32 × qN)) fun (x1976, x1977, h1978) =>
      f_X6_group_L32 N n x1976 x1977 (l4 + (1 : Int32)) h1978
set_option maxRecDepth 100000 in
theorem t_X6_group_L32 {d N : Nat} (hd : 3 ≤ d) : ∀ (n : Nat) (l2 : Int32) (l3 : Int32) (l4 : Int32) (h : qN) (y3 : Int32) (h2 : qN), f_X6_group_L32 N n l2 l3 l4 h = some (y3, h2) → ∀ (v : Option Value) (h1 : qN), RR d cd_X6_group (0, 0) 93 [qU, qU, qU, .int y3, qU, qU] [] h2 v h1 → RR d cd_X6_group (0, 0) 32 [.ref 60, qU, .int l2, .int l3, .int l4, qU] [] h v h1 := by
  intro n
  induction n with
  | zero =>
    intro l2 l3 l4 h y3 h2 hf v h1 hE
    exact absurd hf (by simp [f_X6_group_L32])
  | succ n ih =>
    intro l2 l3 l4 h y3 h2 hf v h1 hE
    unfold f_X6_group_L32 at hf
    refine R_ldI rfl rfl ?_
    refine R_I rfl ?_
    rcases qite hf with ⟨c1963, hf⟩ | ⟨c1963, hf⟩
    · refine R_CmGe_t rfl c1963 ?_
      refine R_drop [false, true, false, true, false, true] (ls' := [qU, qU, qU, .int l3, qU, qU]) rfl ?_
      obtain ⟨rfl, rfl⟩ := qinj2 hf
      exact hE
    · refine R_CmGe_f rfl c1963 ?_
      refine R_ldA rfl rfl ?_
      refine R_ldI rfl rfl ?_
      obtain ⟨⟨x1965, h1964⟩, e1966, hf⟩ := qbind_some hf
      dsimp only at hf
      refine R_callVi (as := [.ref 60, .int l4]) (rest := []) rfl rfl sh_60 rfl rfl rfl rfl (t_X6_isSide (by omega) l4 h e1966) ?_
      obtain ⟨⟨x1976, x1977, h1978⟩, e1979, hf⟩ := qbind_some hf
      dsimp only at hf
      have key : RR d cd_X6_group (0, 0) 87 [.ref 60, qU, .int x1976, .int x1977, .int l4, qU] [] h1978 v h1 := by
        clear e1979
        refine R_inc (ls' := [.ref 60, qU, .int x1976, .int x1977, .int (l4 + (1 : Int32)), qU]) rfl rfl rfl rfl ?_
        refine R_goto rfl ?_
        exact ih  x1976 x1977 (l4 + (1 : Int32)) h1978 _ _ hf _ _ hE
      clear hf
      have hf := e1979
      clear e1979
      rcases qite hf with ⟨c1967, hf⟩ | ⟨c1967, hf⟩
      · refine R_IfEq_t rfl c1967 ?_
        obtain ⟨rfl, rfl, rfl⟩ := qinj3 hf
        exact key
      · refine R_IfEq_f rfl c1967 ?_
        refine R_ldI rfl rfl ?_
        refine R_ldI rfl rfl ?_
        refine R_bin rfl ?_
        refine R_I rfl ?_
        refine R_bin rfl ?_
        rcases qite hf with ⟨c1968, hf⟩ | ⟨c1968, hf⟩
        · refine R_IfNe_f rfl c1968 ?_
          refine R_ldA rfl rfl ?_
          refine R_ldI rfl rfl ?_
          obtain ⟨⟨x1970, h1969⟩, e1971, hf⟩ := qbind_some hf
          dsimp only at hf
          refine R_callVi (as := [.ref 60, .int l4]) (rest := []) rfl rfl sh_60 rfl rfl rfl rfl (t_X6_groupOf (N := N) (by omega) l4 h1964 e1971) ?_
          refine R_stI (ls' := [.ref 60, qU, .int l2, .int l3, .int l4, .int x1970]) rfl rfl rfl rfl ?_
          refine R_ldI rfl rfl ?_
          refine R_ldI rfl rfl ?_
          refine R_bin rfl ?_
          refine R_stI (ls' := [.ref 60, qU, .int (l2 ||| x1970), .int l3, .int l4, .int x1970]) rfl rfl rfl rfl ?_
          refine R_ldI rfl rfl ?_
          refine R_ldI rfl rfl ?_
          obtain ⟨⟨x1973, h1972⟩, e1974, hf⟩ := qbind_some hf
          dsimp only at hf
          refine R_callSi (as := [.int x1970]) (rest := [.int l3]) rfl rfl rfl rfl rfl rfl (t_X6_size (N := N) (by omega) x1970 h1969 e1974) ?_
          refine R_I rfl ?_
          have key : RR d cd_X6_group (0, 0) 85 [.ref 60, qU, .int (l2 ||| x1970), qU, .int l4, qU] [.int (if x1973 ≤ (1 : Int32) then (0 : Int32) else (1 : Int32)), .int l3] h1972 v h1 := by
            refine R_bin rfl ?_
            refine R_stI (ls' := [.ref 60, qU, .int (l2 ||| x1970), .int (l3 + (if x1973 ≤ (1 : Int32) then (0 : Int32) else (1 : Int32))), .int l4, qU]) rfl rfl rfl rfl ?_
            obtain ⟨rfl, rfl, rfl⟩ := qinj3 hf
            exact key
          clear hf
          by_cases c1975 : x1973 ≤ (1 : Int32)
          · rw [show (if x1973 ≤ (1 : Int32) then (0 : Int32) else (1 : Int32)) = (0 : Int32) from if_pos c1975] at key
            refine R_CmLe_t rfl c1975 ?_
            refine R_I rfl ?_
            refine R_drop [true, true, true, false, true, false] (ls' := [.ref 60, qU, .int (l2 ||| x1970), qU, .int l4, qU]) rfl ?_
            exact key
          · rw [show (if x1973 ≤ (1 : Int32) then (0 : Int32) else (1 : Int32)) = (1 : Int32) from if_neg c1975] at key
            refine R_CmLe_f rfl c1975 ?_
            refine R_I rfl ?_
            refine R_goto rfl ?_
            refine R_drop [true, true, true, false, true, false] (ls' := [.ref 60, qU, .int (l2 ||| x1970), qU, .int l4, qU]) rfl ?_
            exact key
        · refine R_IfNe_t rfl c1968 ?_
          obtain ⟨rfl, rfl, rfl⟩ := qinj3 hf
          exact key
def f_X6_group (N : Nat) (a1 : Int32) (h : qN) : Option (Int32 × qN) :=
  if a1 = (-1 : Int32) then
    if a1 < 0 then
      qbind (f_X6_group_L32 N N (0 : Int32) (0 : Int32) (0 : Int32) h) fun (x1981, h1982) =>
      some (x1981, h1982)
    else
      qbind (f_X6_groupOf N a1 h) fun (x1987, h1986) =>
      some (x1987, h1986)
  else
    qbind (f_X6_isThing a1 h) fun (x1990, h1989) =>
    if x1990 = 0 then
      some ((-1 : Int32), h1989)
    else
      if a1 < 0 then
        qbind (f_X6_group_L32 N N (0 : Int32) (0 : Int32) (0 : Int32) h1989) fun (x1994, h1995) =>
        some (x1994, h1995)
      else
        qbind (f_X6_groupOf N a1 h1989) fun (x2000, h1999) =>
        some (x2000, h1999)
set_option maxRecDepth 100000 in
theorem t_X6_group {d N : Nat} (hd : 4 ≤ d) (a1 : Int32)  (h : qN) {v0 : Int32} {h1 : qN} (hf : f_X6_group N a1 h = some (v0, h1)) : EE d 152 [.ref 60, .int a1] h (some (.int v0)) h1 := by
  obtain ⟨d, rfl⟩ : ∃ d0, d = d0 + 1 := ⟨d - 1, by omega⟩
  unfold f_X6_group at hf
  refine E_intro qm_152 qc_152 (Nat.le_of_ble_eq_true rfl) rfl rfl ?_
  show RR d cd_X6_group (0, 0) 0 [.ref 60, .int a1, qU, qU, qU, qU] [] h (some (.int v0)) h1
  refine R_ldI rfl rfl ?_
  refine R_I rfl ?_
  rcases qite hf with ⟨c1961, hf⟩ | ⟨c1961, hf⟩
  · refine R_CmEq_t rfl c1961 ?_
    refine R_ldI rfl rfl ?_
    rcases qite hf with ⟨c1962, hf⟩ | ⟨c1962, hf⟩
    · refine R_IfLt_t rfl c1962 ?_
      refine R_I rfl ?_
      refine R_stI (ls' := [.ref 60, .int a1, .int (0 : Int32), qU, qU, qU]) rfl rfl rfl rfl ?_
      refine R_I rfl ?_
      refine R_stI (ls' := [.ref 60, .int a1, .int (0 : Int32), .int (0 : Int32), qU, qU]) rfl rfl rfl rfl ?_
      refine R_I rfl ?_
      refine R_stI (ls' := [.ref 60, .int a1, .int (0 : Int32), .int (0 : Int32), .int (0 : Int32), qU]) rfl rfl rfl rfl ?_
      refine R_drop [true, false, true, true, true, true] (ls' := [.ref 60, qU, .int (0 : Int32), .int (0 : Int32), .int (0 : Int32), qU]) rfl ?_
      obtain ⟨⟨x1981, h1982⟩, e1983, hf⟩ := qbind_some hf
      dsimp only at hf
      refine t_X6_group_L32 (N := N) (by omega) _  (0 : Int32) (0 : Int32) (0 : Int32) h x1981 h1982 e1983 _ _ ?_
      refine R_ldI rfl rfl ?_
      obtain ⟨rfl, rfl⟩ := qinj2 hf
      exact R_retI rfl
    · refine R_IfLt_f rfl c1962 ?_
      refine R_ldA rfl rfl ?_
      refine R_ldI rfl rfl ?_
      obtain ⟨⟨x1987, h1986⟩, e1988, hf⟩ := qbind_some hf
      dsimp only at hf
      refine R_callVi (as := [.ref 60, .int a1]) (rest := []) rfl rfl sh_60 rfl rfl rfl rfl (t_X6_groupOf (N := N) (by omega) a1 h e1988) ?_
      obtain ⟨rfl, rfl⟩ := qinj2 hf
      exact R_retI rfl
  · refine R_CmEq_f rfl c1961 ?_
    refine R_ldA rfl rfl ?_
    refine R_ldI rfl rfl ?_
    obtain ⟨⟨x1990, h1989⟩, e1991, hf⟩ := qbind_some hf
    dsimp only at hf
    refine R_callVi (as := [.ref 60, .int a1]) (rest := []) rfl rfl sh_60 rfl rfl rfl rfl (t_X6_isThing (by omega) a1 h e1991) ?_
    rcases qite hf with ⟨c1992, hf⟩ | ⟨c1992, hf⟩
    · refine R_IfNe_f rfl c1992 ?_
      refine R_I rfl ?_
      obtain ⟨rfl, rfl⟩ := qinj2 hf
      exact R_retI rfl
    · refine R_IfNe_t rfl c1992 ?_
      refine R_ldI rfl rfl ?_
      rcases qite hf with ⟨c1993, hf⟩ | ⟨c1993, hf⟩
      · refine R_IfLt_t rfl c1993 ?_
        refine R_I rfl ?_
        refine R_stI (ls' := [.ref 60, .int a1, .int (0 : Int32), qU, qU, qU]) rfl rfl rfl rfl ?_
        refine R_I rfl ?_
        refine R_stI (ls' := [.ref 60, .int a1, .int (0 : Int32), .int (0 : Int32), qU, qU]) rfl rfl rfl rfl ?_
        refine R_I rfl ?_
        refine R_stI (ls' := [.ref 60, .int a1, .int (0 : Int32), .int (0 : Int32), .int (0 : Int32), qU]) rfl rfl rfl rfl ?_
        refine R_drop [true, false, true, true, true, true] (ls' := [.ref 60, qU, .int (0 : Int32), .int (0 : Int32), .int (0 : Int32), qU]) rfl ?_
        obtain ⟨⟨x1994, h1995⟩, e1996, hf⟩ := qbind_some hf
        dsimp only at hf
        refine t_X6_group_L32 (N := N) (by omega) _  (0 : Int32) (0 : Int32) (0 : Int32) h1989 x1994 h1995 e1996 _ _ ?_
        refine R_ldI rfl rfl ?_
        obtain ⟨rfl, rfl⟩ := qinj2 hf
        exact R_retI rfl
      · refine R_IfLt_f rfl c1993 ?_
        refine R_ldA rfl rfl ?_
        refine R_ldI rfl rfl ?_
        obtain ⟨⟨x2000, h1999⟩, e2001, hf⟩ := qbind_some hf
        dsimp only at hf
        refine R_callVi (as := [.ref 60, .int a1]) (rest := []) rfl rfl sh_60 rfl rfl rfl rfl (t_X6_groupOf (N := N) (by omega) a1 h1989 e2001) ?_
        obtain ⟨rfl, rfl⟩ := qinj2 hf
        exact R_retI rfl
def f_X6_neverOf_L4 (N : Nat) : Nat → Int32 → Int32 → qN → Option (Int32 × qN)
  | 0, _, _, _ => none
  | n + 1, l1, l2, h =>
    if (h 60 6) ≤ l2 then
      some (l1, h)
    else
      qbind (f_X6_isOver l2 h) fun (x2004, h2003) =>
      qbind (
          if x2004 = 0 then
            if l2 < 0 ∨ 12 ≤ l2.toNatClampNeg then none else
            if (h2003 66 l2.toNatClampNeg) ≤ (9 : Int32) then
              some (0 : Int32)
            else
              if l2 < 0 ∨ 12 ≤ l2.toNatClampNeg then none else
              if (h2003 67 l2.toNatClampNeg) ≤ (9 : Int32) then
                some (0 : Int32)
              else
                some ((1 : Int32) <<< (l2 &&& 31))
          else
            some (0 : Int32) : Option (Int32)) fun x2011 =>
      f_X6_neverOf_L4 N n (l1 ||| x2011) (l2 + (1 : Int32)) h2003
set_option maxRecDepth 100000 in
theorem t_X6_neverOf_L4 {d N : Nat} (hd : 1 ≤ d) : ∀ (n : Nat) (l1 : Int32) (l2 : Int32) (h : qN) (y1 : Int32) (h2 : qN), f_X6_neverOf_L4 N n l1 l2 h = some (y1, h2) → ∀ (v : Option Value) (h1 : qN), RR d cd_X6_neverOf (0, 0) 58 [qU, .int y1, qU] [] h2 v h1 → RR d cd_X6_neverOf (0, 0) 4 [.ref 60, .int l1, .int l2] [] h v h1 := by
  intro n
  induction n with
  | zero =>
    intro l1 l2 h y1 h2 hf v h1 hE
    exact absurd hf (by simp [f_X6_neverOf_L4])
  | succ n ih =>
    intro l1 l2 h y1 h2 hf v h1 hE
    unfold f_X6_neverOf_L4 at hf
    refine R_ldI rfl rfl ?_
    refine R_ldA rfl rfl ?_
    refine R_get rfl sh_60 rfl rfl ?_
    rcases qite hf with ⟨c2002, hf⟩ | ⟨c2002, hf⟩
    · refine R_CmGe_t rfl c2002 ?_
      refine R_drop [false, true, false] (ls' := [qU, .int l1, qU]) rfl ?_
      obtain ⟨rfl, rfl⟩ := qinj2 hf
      exact hE
    · refine R_CmGe_f rfl c2002 ?_
      refine R_ldI rfl rfl ?_
      refine R_ldA rfl rfl ?_
      refine R_ldI rfl rfl ?_
      obtain ⟨⟨x2004, h2003⟩, e2005, hf⟩ := qbind_some hf
      dsimp only at hf
      refine R_callVi (as := [.ref 60, .int l2]) (rest := [.int l1]) rfl rfl sh_60 rfl rfl rfl rfl (t_X6_isOver (by omega) l2 h e2005) ?_
      obtain ⟨x2011, e2012, hf⟩ := qbind_some hf
      have key : RR d cd_X6_neverOf (0, 0) 50 [.ref 60, qU, .int l2] [.int x2011, .int l1] h2003 v h1 := by
        clear e2012
        refine R_bin rfl ?_
        refine R_stI (ls' := [.ref 60, .int (l1 ||| x2011), .int l2]) rfl rfl rfl rfl ?_
        refine R_inc (ls' := [.ref 60, .int (l1 ||| x2011), .int (l2 + (1 : Int32))]) rfl rfl rfl rfl ?_
        refine R_goto rfl ?_
        exact ih  (l1 ||| x2011) (l2 + (1 : Int32)) h2003 _ _ hf _ _ hE
      clear hf
      have hf := e2012
      clear e2012
      rcases qite hf with ⟨c2006, hf⟩ | ⟨c2006, hf⟩
      · refine R_IfNe_f rfl c2006 ?_
        refine R_ldA rfl rfl ?_
        refine R_get rfl sh_60 rfl rfl ?_
        refine R_ldI rfl rfl ?_
        obtain ⟨c2007, hf⟩ := qchk hf
        refine R_ald rfl sh_66 c2007 ?_
        refine R_I rfl ?_
        rcases qite hf with ⟨c2008, hf⟩ | ⟨c2008, hf⟩
        · refine R_CmLe_t rfl c2008 ?_
          refine R_I rfl ?_
          refine R_drop [true, false, true] (ls' := [.ref 60, qU, .int l2]) rfl ?_
          obtain rfl := Option.some.inj hf
          exact key
        · refine R_CmLe_f rfl c2008 ?_
          refine R_ldA rfl rfl ?_
          refine R_get rfl sh_60 rfl rfl ?_
          refine R_ldI rfl rfl ?_
          obtain ⟨c2009, hf⟩ := qchk hf
          refine R_ald rfl sh_67 c2009 ?_
          refine R_I rfl ?_
          rcases qite hf with ⟨c2010, hf⟩ | ⟨c2010, hf⟩
          · refine R_CmLe_t rfl c2010 ?_
            refine R_I rfl ?_
            refine R_drop [true, false, true] (ls' := [.ref 60, qU, .int l2]) rfl ?_
            obtain rfl := Option.some.inj hf
            exact key
          · refine R_CmLe_f rfl c2010 ?_
            refine R_I rfl ?_
            refine R_ldI rfl rfl ?_
            refine R_bin rfl ?_
            refine R_goto rfl ?_
            refine R_drop [true, false, true] (ls' := [.ref 60, qU, .int l2]) rfl ?_
            obtain rfl := Option.some.inj hf
            exact key
      · refine R_IfNe_t rfl c2006 ?_
        refine R_I rfl ?_
        refine R_drop [true, false, true] (ls' := [.ref 60, qU, .int l2]) rfl ?_
        obtain rfl := Option.some.inj hf
        exact key
def f_X6_neverOf (N : Nat) (h : qN) : Option (Int32 × qN) :=
  qbind (f_X6_neverOf_L4 N N (0 : Int32) (0 : Int32) h) fun (x2014, h2015) =>
  some (x2014, h2015)
set_option maxRecDepth 100000 in
theorem t_X6_neverOf {d N : Nat} (hd : 2 ≤ d)   (h : qN) {v0 : Int32} {h1 : qN} (hf : f_X6_neverOf N  h = some (v0, h1)) : EE d 153 [.ref 60] h (some (.int v0)) h1 := by
  obtain ⟨d, rfl⟩ : ∃ d0, d = d0 + 1 := ⟨d - 1, by omega⟩
  unfold f_X6_neverOf at hf
  refine E_intro qm_153 qc_153 (Nat.le_of_ble_eq_true rfl) rfl rfl ?_
  show RR d cd_X6_neverOf (0, 0) 0 [.ref 60, qU, qU] [] h (some (.int v0)) h1
  refine R_I rfl ?_
  refine R_stI (ls' := [.ref 60, .int (0 : Int32), qU]) rfl rfl rfl rfl ?_
  refine R_I rfl ?_
  refine R_stI (ls' := [.ref 60, .int (0 : Int32), .int (0 : Int32)]) rfl rfl rfl rfl ?_
  obtain ⟨⟨x2014, h2015⟩, e2016, hf⟩ := qbind_some hf
  dsimp only at hf
  refine t_X6_neverOf_L4 (N := N) (by omega) _  (0 : Int32) (0 : Int32) h x2014 h2015 e2016 _ _ ?_
  refine R_ldI rfl rfl ?_
  obtain ⟨rfl, rfl⟩ := qinj2 hf
  exact R_retI rfl
def f_X6_never (N : Nat) (h : qN) : Option (Int32 × qN) :=
  qbind (f_X6_neverOf N  h) fun (x2020, h2019) =>
  some (x2020, h2019)
set_option maxRecDepth 100000 in
theorem t_X6_never {d N : Nat} (hd : 3 ≤ d)   (h : qN) {v0 : Int32} {h1 : qN} (hf : f_X6_never N  h = some (v0, h1)) : EE d 154 [.ref 60] h (some (.int v0)) h1 := by
  obtain ⟨d, rfl⟩ : ∃ d0, d = d0 + 1 := ⟨d - 1, by omega⟩
  unfold f_X6_never at hf
  refine E_intro qm_154 qc_154 (Nat.le_of_ble_eq_true rfl) rfl rfl ?_
  show RR d cd_X6_never (0, 0) 0 [.ref 60] [] h (some (.int v0)) h1
  refine R_ldA rfl rfl ?_
  obtain ⟨⟨x2020, h2019⟩, e2021, hf⟩ := qbind_some hf
  dsimp only at hf
  refine R_callVi (as := [.ref 60]) (rest := []) rfl rfl sh_60 rfl rfl rfl rfl (t_X6_neverOf (N := N) (by omega)  h e2021) ?_
  obtain ⟨rfl, rfl⟩ := qinj2 hf
  exact R_retI rfl
def f_X6_done_L16 (N : Nat) (l2 : Int32) (l3 : Int32) : Nat → Int32 → Int32 → qN → Option (qN)
  | 0, _, _, _ => none
  | n + 1, l4, l5, h =>
    if l5 < 0 then
      some h
    else
      if l3 = 0 then none else
      if l5 < 0 ∨ 3 ≤ l5.toNatClampNeg then none else
      if l3 = 0 then none else
      f_X6_done_L16 N l2 l3 n (l4 / l3) (l5 + (-1 : Int32)) (qup h 73 l5.toNatClampNeg (l4 - l4 / l3 * l3))
set_option maxRecDepth 100000 in
theorem t_X6_done_L16 {d N : Nat} (hd : 3 ≤ d) : ∀ (n : Nat) (l2 : Int32) (l3 : Int32) (l4 : Int32) (l5 : Int32) (h : qN) (h2 : qN), f_X6_done_L16 N l2 l3 n l4 l5 h = some h2 → ∀ (v : Option Value) (h1 : qN), RR d cd_X6_done (0, 0) 44 [.ref 60, qU, .int l2, qU, qU, qU] [] h2 v h1 → RR d cd_X6_done (0, 0) 16 [.ref 60, qU, .int l2, .int l3, .int l4, .int l5] [] h v h1 := by
  intro n
  induction n with
  | zero =>
    intro l2 l3 l4 l5 h h2 hf v h1 hE
    exact absurd hf (by simp [f_X6_done_L16])
  | succ n ih =>
    intro l2 l3 l4 l5 h h2 hf v h1 hE
    unfold f_X6_done_L16 at hf
    refine R_ldI rfl rfl ?_
    rcases qite hf with ⟨c2022, hf⟩ | ⟨c2022, hf⟩
    · refine R_IfLt_t rfl c2022 ?_
      refine R_drop [true, true, true, false, false, false] (ls' := [.ref 60, qU, .int l2, qU, qU, qU]) rfl ?_
      obtain rfl := Option.some.inj hf
      exact hE
    · refine R_IfLt_f rfl c2022 ?_
      refine R_ldA rfl rfl ?_
      refine R_get rfl sh_60 rfl rfl ?_
      refine R_ldI rfl rfl ?_
      refine R_ldI rfl rfl ?_
      refine R_ldI rfl rfl ?_
      obtain ⟨c2023, hf⟩ := qchk hf
      refine R_div rfl c2023 ?_
      obtain ⟨c2024, hf⟩ := qchk hf
      refine R_ast rfl sh_73 c2024 ?_
      refine R_ldI rfl rfl ?_
      refine R_ldI rfl rfl ?_
      obtain ⟨c2025, hf⟩ := qchk hf
      refine R_div rfl c2025 ?_
      refine R_stI (ls' := [.ref 60, qU, .int l2, .int l3, .int (l4 / l3), .int l5]) rfl rfl rfl rfl ?_
      refine R_inc (ls' := [.ref 60, qU, .int l2, .int l3, .int (l4 / l3), .int (l5 + (-1 : Int32))]) rfl rfl rfl rfl ?_
      refine R_goto rfl ?_
      exact ih l2 l3 (l4 / l3) (l5 + (-1 : Int32)) (qup h 73 l5.toNatClampNeg (l4 - l4 / l3 * l3)) _ hf _ _ hE
def f_X6_done_L47 (N : Nat) (l2 : Int32) : Nat → Int32 → qN → Option ((Int32 × qN) ⊕ (qN))
  | 0, _, _ => none
  | n + 1, l5, h =>
    if l2 ≤ l5 then
      some (.inr h)
    else
      if l5 < 0 ∨ 3 ≤ l5.toNatClampNeg then none else
      if ((h 73 l5.toNatClampNeg) / (6 : Int32)) < 0 ∨ 8 ≤ ((h 73 l5.toNatClampNeg) / (6 : Int32)).toNatClampNeg then none else
      if l5 < 0 ∨ 3 ≤ l5.toNatClampNeg then none else
      if (h 64 ((h 73 l5.toNatClampNeg) / (6 : Int32)).toNatClampNeg) = ((h 73 l5.toNatClampNeg) - (h 73 l5.toNatClampNeg) / (6 : Int32) * (6 : Int32)) then
        some (.inl ((0 : Int32), h))
      else
        if l5 < 0 ∨ 3 ≤ l5.toNatClampNeg then none else
        if l5 < 0 ∨ 3 ≤ l5.toNatClampNeg then none else
        qbind (f_X6_sells N ((h 73 l5.toNatClampNeg) / (6 : Int32)) ((h 73 l5.toNatClampNeg) - (h 73 l5.toNatClampNeg) / (6 : Int32) * (6 : Int32)) h) fun (x2037, h2036) =>
        f_X6_done_L47 N l2 n (l5 + (1 : Int32)) h2036
set_option maxRecDepth 100000 in
theorem t_X6_done_L47 {d N : Nat} (hd : 3 ≤ d) : ∀ (n : Nat) (l2 : Int32) (l5 : Int32) (h : qN) (res : (Int32 × qN) ⊕ (qN)), f_X6_done_L47 N l2 n l5 h = some res → ∀ (v : Option Value) (h1 : qN), (∀ (rv : Int32) (rh : qN), res = .inl (rv, rh) → v = some (.int rv) ∧ h1 = rh) → (∀ (h2 : qN), res = .inr h2 → RR d cd_X6_done (0, 0) 114 [qU, qU, qU, qU, qU, qU] [] h2 v h1) → RR d cd_X6_done (0, 0) 47 [.ref 60, qU, .int l2, qU, qU, .int l5] [] h v h1 := by
  intro n
  induction n with
  | zero =>
    intro l2 l5 h res hf v h1 hR hE
    exact absurd hf (by simp [f_X6_done_L47])
  | succ n ih =>
    intro l2 l5 h res hf v h1 hR hE
    unfold f_X6_done_L47 at hf
    refine R_ldI rfl rfl ?_
    refine R_ldI rfl rfl ?_
    rcases qite hf with ⟨c2029, hf⟩ | ⟨c2029, hf⟩
    · refine R_CmGe_t rfl c2029 ?_
      refine R_drop [false, true, false, true, true, false] (ls' := [qU, qU, qU, qU, qU, qU]) rfl ?_
      obtain rfl := Option.some.inj hf
      exact hE _ rfl
    · refine R_CmGe_f rfl c2029 ?_
      refine R_ldA rfl rfl ?_
      refine R_get rfl sh_60 rfl rfl ?_
      refine R_ldA rfl rfl ?_
      refine R_get rfl sh_60 rfl rfl ?_
      refine R_ldI rfl rfl ?_
      obtain ⟨c2030, hf⟩ := qchk hf
      refine R_ald rfl sh_73 c2030 ?_
      refine R_I rfl ?_
      refine R_div rfl (by decide) ?_
      obtain ⟨c2031, hf⟩ := qchk hf
      refine R_ald rfl sh_64 c2031 ?_
      refine R_ldA rfl rfl ?_
      refine R_get rfl sh_60 rfl rfl ?_
      refine R_ldI rfl rfl ?_
      obtain ⟨c2032, hf⟩ := qchk hf
      refine R_ald rfl sh_73 c2032 ?_
      refine R_I rfl ?_
      refine R_div rfl (by decide) ?_
      rcases qite hf with ⟨c2033, hf⟩ | ⟨c2033, hf⟩
      · refine R_CmNe_f rfl c2033 ?_
        refine R_I rfl ?_
        obtain rfl := Option.some.inj hf
        obtain ⟨rfl, rfl⟩ := hR _ _ rfl
        exact R_retZ rfl (by decide)
      · refine R_CmNe_t rfl c2033 ?_
        refine R_ldA rfl rfl ?_
        refine R_ldA rfl rfl ?_
        refine R_get rfl sh_60 rfl rfl ?_
        refine R_ldI rfl rfl ?_
        obtain ⟨c2034, hf⟩ := qchk hf
        refine R_ald rfl sh_73 c2034 ?_
        refine R_I rfl ?_
        refine R_div rfl (by decide) ?_
        refine R_ldA rfl rfl ?_
        refine R_get rfl sh_60 rfl rfl ?_
        refine R_ldI rfl rfl ?_
        obtain ⟨c2035, hf⟩ := qchk hf
        refine R_ald rfl sh_73 c2035 ?_
        refine R_I rfl ?_
        refine R_div rfl (by decide) ?_
        obtain ⟨⟨x2037, h2036⟩, e2038, hf⟩ := qbind_some hf
        dsimp only at hf
        refine R_callVi (as := [.ref 60, .int ((h 73 l5.toNatClampNeg) / (6 : Int32)), .int ((h 73 l5.toNatClampNeg) - (h 73 l5.toNatClampNeg) / (6 : Int32) * (6 : Int32))]) (rest := []) rfl rfl sh_60 rfl rfl rfl rfl (t_X6_sells (N := N) (by omega) ((h 73 l5.toNatClampNeg) / (6 : Int32)) ((h 73 l5.toNatClampNeg) - (h 73 l5.toNatClampNeg) / (6 : Int32) * (6 : Int32)) h e2038) ?_
        refine R_pop rfl rfl ?_
        refine R_inc (ls' := [.ref 60, qU, .int l2, qU, qU, .int (l5 + (1 : Int32))]) rfl rfl rfl rfl ?_
        refine R_goto rfl ?_
        exact ih l2 (l5 + (1 : Int32)) h2036 _ hf _ _ hR hE
def f_X6_done (N : Nat) (a1 : Int32) (a2 : Int32) (h : qN) : Option (Int32 × qN) :=
  qbind (f_X6_done_L16 N a2 ((6 : Int32) * (h 60 3)) N a1 (a2 - (1 : Int32)) h) fun h2027 =>
  qbind (f_X6_done_L47 N a2 N (0 : Int32) h2027) fun
    | .inl (x2042, h2043) => some (x2042, h2043)
    | .inr h2040 =>
      some ((1 : Int32), h2040)
set_option maxRecDepth 100000 in
theorem t_X6_done {d N : Nat} (hd : 4 ≤ d) (a1 : Int32) (a2 : Int32)  (h : qN) {v0 : Int32} {h1 : qN} (hf : f_X6_done N a1 a2 h = some (v0, h1)) : EE d 155 [.ref 60, .int a1, .int a2] h (some (.int v0)) h1 := by
  obtain ⟨d, rfl⟩ : ∃ d0, d = d0 + 1 := ⟨d - 1, by omega⟩
  unfold f_X6_done at hf
  refine E_intro qm_155 qc_155 (Nat.le_of_ble_eq_true rfl) rfl rfl ?_
  show RR d cd_X6_done (0, 0) 0 [.ref 60, .int a1, .int a2, qU, qU, qU] [] h (some (.int v0)) h1
  refine R_I rfl ?_
  refine R_ldA rfl rfl ?_
  refine R_get rfl sh_60 rfl rfl ?_
  refine R_bin rfl ?_
  refine R_stI (ls' := [.ref 60, .int a1, .int a2, .int ((6 : Int32) * (h 60 3)), qU, qU]) rfl rfl rfl rfl ?_
  refine R_ldI rfl rfl ?_
  refine R_stI (ls' := [.ref 60, .int a1, .int a2, .int ((6 : Int32) * (h 60 3)), .int a1, qU]) rfl rfl rfl rfl ?_
  refine R_ldI rfl rfl ?_
  refine R_I rfl ?_
  refine R_bin rfl ?_
  refine R_stI (ls' := [.ref 60, .int a1, .int a2, .int ((6 : Int32) * (h 60 3)), .int a1, .int (a2 - (1 : Int32))]) rfl rfl rfl rfl ?_
  refine R_drop [true, false, true, true, true, true] (ls' := [.ref 60, qU, .int a2, .int ((6 : Int32) * (h 60 3)), .int a1, .int (a2 - (1 : Int32))]) rfl ?_
  obtain ⟨h2027, e2028, hf⟩ := qbind_some hf
  refine t_X6_done_L16 (N := N) (by omega) _ a2 ((6 : Int32) * (h 60 3)) a1 (a2 - (1 : Int32)) h h2027 e2028 _ _ ?_
  refine R_I rfl ?_
  refine R_stI (ls' := [.ref 60, qU, .int a2, qU, qU, .int (0 : Int32)]) rfl rfl rfl rfl ?_
  obtain ⟨⟨x2042, h2043⟩ | h2040, e2041, hf⟩ := qbind_some hf
  · dsimp only at hf
    refine t_X6_done_L47 (N := N) (by omega) _ a2 (0 : Int32) h2027 _ e2041 _ _ (fun rv rh he => ?_) (fun _ he => by cases he)
    cases he
    obtain ⟨rfl, rfl⟩ := qinj2 hf
    exact ⟨rfl, rfl⟩
  · dsimp only at hf
    refine t_X6_done_L47 (N := N) (by omega) _ a2 (0 : Int32) h2027 _ e2041 _ _ (fun _ _ he => by cases he) (fun z0 he => ?_)
    cases he
    refine R_I rfl ?_
    obtain ⟨rfl, rfl⟩ := qinj2 hf
    exact R_retZ rfl (by decide)
def f_X6_notes_L2 (N : Nat) (l1 : Int32) : Nat → Int32 → qN → Option (qN)
  | 0, _, _ => none
  | n + 1, l2, h =>
    if l1 ≤ l2 then
      some h
    else
      if l2 < 0 ∨ 3 ≤ l2.toNatClampNeg then none else
      if l2 < 0 ∨ 3 ≤ l2.toNatClampNeg then none else
      if l2 < 0 ∨ 3 ≤ l2.toNatClampNeg then none else
      f_X6_notes_L2 N l1 n (l2 + (1 : Int32)) (qup h 74 l2.toNatClampNeg (((10 : Int32) * ((h 73 l2.toNatClampNeg) / (6 : Int32))) + ((h 73 l2.toNatClampNeg) - (h 73 l2.toNatClampNeg) / (6 : Int32) * (6 : Int32))))
set_option maxRecDepth 100000 in
theorem t_X6_notes_L2 {d N : Nat} (hd : 0 ≤ d) : ∀ (n : Nat) (l1 : Int32) (l2 : Int32) (h : qN) (h2 : qN), f_X6_notes_L2 N l1 n l2 h = some h2 → ∀ (v : Option Value) (h1 : qN), RR d cd_X6_notes (0, 0) 41 [qU, qU, qU] [] h2 v h1 → RR d cd_X6_notes (0, 0) 2 [.ref 60, .int l1, .int l2] [] h v h1 := by
  intro n
  induction n with
  | zero =>
    intro l1 l2 h h2 hf v h1 hE
    exact absurd hf (by simp [f_X6_notes_L2])
  | succ n ih =>
    intro l1 l2 h h2 hf v h1 hE
    unfold f_X6_notes_L2 at hf
    refine R_ldI rfl rfl ?_
    refine R_ldI rfl rfl ?_
    rcases qite hf with ⟨c2046, hf⟩ | ⟨c2046, hf⟩
    · refine R_CmGe_t rfl c2046 ?_
      refine R_drop [false, false, false] (ls' := [qU, qU, qU]) rfl ?_
      obtain rfl := Option.some.inj hf
      exact hE
    · refine R_CmGe_f rfl c2046 ?_
      refine R_ldA rfl rfl ?_
      refine R_get rfl sh_60 rfl rfl ?_
      refine R_ldI rfl rfl ?_
      refine R_I rfl ?_
      refine R_ldA rfl rfl ?_
      refine R_get rfl sh_60 rfl rfl ?_
      refine R_ldI rfl rfl ?_
      obtain ⟨c2047, hf⟩ := qchk hf
      refine R_ald rfl sh_73 c2047 ?_
      refine R_I rfl ?_
      refine R_div rfl (by decide) ?_
      refine R_bin rfl ?_
      refine R_ldA rfl rfl ?_
      refine R_get rfl sh_60 rfl rfl ?_
      refine R_ldI rfl rfl ?_
      obtain ⟨c2048, hf⟩ := qchk hf
      refine R_ald rfl sh_73 c2048 ?_
      refine R_I rfl ?_
      refine R_div rfl (by decide) ?_
      refine R_bin rfl ?_
      obtain ⟨c2049, hf⟩ := qchk hf
      refine R_ast rfl sh_74 c2049 ?_
      refine R_inc (ls' := [.ref 60, .int l1, .int (l2 + (1 : Int32))]) rfl rfl rfl rfl ?_
      refine R_goto rfl ?_
      exact ih l1 (l2 + (1 : Int32)) (qup h 74 l2.toNatClampNeg (((10 : Int32) * ((h 73 l2.toNatClampNeg) / (6 : Int32))) + ((h 73 l2.toNatClampNeg) - (h 73 l2.toNatClampNeg) / (6 : Int32) * (6 : Int32)))) _ hf _ _ hE
def f_X6_notes (N : Nat) (a1 : Int32) (h : qN) : Option (qN) :=
  qbind (f_X6_notes_L2 N a1 N (0 : Int32) h) fun h2051 =>
  some h2051
set_option maxRecDepth 100000 in
theorem t_X6_notes {d N : Nat} (hd : 1 ≤ d) (a1 : Int32)  (h : qN) {h1 : qN} (hf : f_X6_notes N a1 h = some h1) : EE d 156 [.ref 60, .int a1] h none h1 := by
  obtain ⟨d, rfl⟩ : ∃ d0, d = d0 + 1 := ⟨d - 1, by omega⟩
  unfold f_X6_notes at hf
  refine E_intro qm_156 qc_156 (Nat.le_of_ble_eq_true rfl) rfl rfl ?_
  show RR d cd_X6_notes (0, 0) 0 [.ref 60, .int a1, qU] [] h none h1
  refine R_I rfl ?_
  refine R_stI (ls' := [.ref 60, .int a1, .int (0 : Int32)]) rfl rfl rfl rfl ?_
  obtain ⟨h2051, e2052, hf⟩ := qbind_some hf
  refine t_X6_notes_L2 (N := N) (by omega) _ a1 (0 : Int32) h h2051 e2052 _ _ ?_
  obtain rfl := Option.some.inj hf
  exact R_retV rfl
def f_X6_fewestOf_L32 (N : Nat) (l1 : Int32) (l2 : Int32) (l3 : Int32) : Nat → Int32 → qN → Option ((Int32 × qN) ⊕ (qN))
  | 0, _, _ => none
  | n + 1, l4, h =>
    if l2 ≤ l4 then
      some (.inr h)
    else
      qbind (f_X6_done N l4 l3 h) fun (x2063, h2062) =>
      qbind (f_X6_back N  h2062) fun h2067 =>
      if (if x2063 = 0 then (0 : Int32) else (if ((h2062 60 9) &&& l1) = l1 then (1 : Int32) else (0 : Int32))) = 0 then
        f_X6_fewestOf_L32 N l1 l2 l3 n (l4 + (1 : Int32)) h2067
      else
        qbind (f_X6_notes N l3 h2067) fun h2070 =>
        some (.inl (l3, h2070))
set_option maxRecDepth 100000 in
theorem t_X6_fewestOf_L32 {d N : Nat} (hd : 4 ≤ d) : ∀ (n : Nat) (l1 : Int32) (l2 : Int32) (l3 : Int32) (l4 : Int32) (h : qN) (res : (Int32 × qN) ⊕ (qN)), f_X6_fewestOf_L32 N l1 l2 l3 n l4 h = some res → ∀ (v : Option Value) (h1 : qN), (∀ (rv : Int32) (rh : qN), res = .inl (rv, rh) → v = some (.int rv) ∧ h1 = rh) → (∀ (h2 : qN), res = .inr h2 → RR d cd_X6_fewestOf (0, 0) 87 [.ref 60, .int l1, .int l2, .int l3, qU, qU] [] h2 v h1) → RR d cd_X6_fewestOf (0, 0) 32 [.ref 60, .int l1, .int l2, .int l3, .int l4, qU] [] h v h1 := by
  intro n
  induction n with
  | zero =>
    intro l1 l2 l3 l4 h res hf v h1 hR hE
    exact absurd hf (by simp [f_X6_fewestOf_L32])
  | succ n ih =>
    intro l1 l2 l3 l4 h res hf v h1 hR hE
    unfold f_X6_fewestOf_L32 at hf
    refine R_ldI rfl rfl ?_
    refine R_ldI rfl rfl ?_
    rcases qite hf with ⟨c2061, hf⟩ | ⟨c2061, hf⟩
    · refine R_CmGe_t rfl c2061 ?_
      refine R_drop [true, true, true, true, false, true] (ls' := [.ref 60, .int l1, .int l2, .int l3, qU, qU]) rfl ?_
      obtain rfl := Option.some.inj hf
      exact hE _ rfl
    · refine R_CmGe_f rfl c2061 ?_
      refine R_ldA rfl rfl ?_
      refine R_ldI rfl rfl ?_
      refine R_ldI rfl rfl ?_
      obtain ⟨⟨x2063, h2062⟩, e2064, hf⟩ := qbind_some hf
      dsimp only at hf
      refine R_callVi (as := [.ref 60, .int l4, .int l3]) (rest := []) rfl rfl sh_60 rfl rfl rfl rfl (t_X6_done (N := N) (by omega) l4 l3 h e2064) ?_
      have key : RR d cd_X6_fewestOf (0, 0) 63 [.ref 60, .int l1, .int l2, .int l3, .int l4, qU] [.int (if x2063 = 0 then (0 : Int32) else (if ((h2062 60 9) &&& l1) = l1 then (1 : Int32) else (0 : Int32)))] h2062 v h1 := by
        refine R_stI (ls' := [.ref 60, .int l1, .int l2, .int l3, .int l4, .int (if x2063 = 0 then (0 : Int32) else (if ((h2062 60 9) &&& l1) = l1 then (1 : Int32) else (0 : Int32)))]) rfl rfl rfl rfl ?_
        refine R_ldA rfl rfl ?_
        obtain ⟨h2067, e2068, hf⟩ := qbind_some hf
        refine R_callVv (as := [.ref 60]) (rest := []) rfl rfl sh_60 rfl rfl rfl rfl (t_X6_back (N := N) (by omega)  h2062 e2068) ?_
        refine R_ldI rfl rfl ?_
        rcases qite hf with ⟨c2069, hf⟩ | ⟨c2069, hf⟩
        · refine R_IfEq_t rfl c2069 ?_
          refine R_inc (ls' := [.ref 60, .int l1, .int l2, .int l3, .int (l4 + (1 : Int32)), .int (if x2063 = 0 then (0 : Int32) else (if ((h2062 60 9) &&& l1) = l1 then (1 : Int32) else (0 : Int32)))]) rfl rfl rfl rfl ?_
          refine R_goto rfl ?_
          refine R_drop [true, true, true, true, true, false] (ls' := [.ref 60, .int l1, .int l2, .int l3, .int (l4 + (1 : Int32)), qU]) rfl ?_
          exact ih l1 l2 l3 (l4 + (1 : Int32)) h2067 _ hf _ _ hR hE
        · refine R_IfEq_f rfl c2069 ?_
          refine R_ldA rfl rfl ?_
          refine R_ldI rfl rfl ?_
          obtain ⟨h2070, e2071, hf⟩ := qbind_some hf
          refine R_callVv (as := [.ref 60, .int l3]) (rest := []) rfl rfl sh_60 rfl rfl rfl rfl (t_X6_notes (N := N) (by omega) l3 h2067 e2071) ?_
          refine R_ldI rfl rfl ?_
          obtain rfl := Option.some.inj hf
          obtain ⟨rfl, rfl⟩ := hR _ _ rfl
          exact R_retI rfl
      clear hf
      by_cases c2065 : x2063 = 0
      · rw [show (if x2063 = 0 then (0 : Int32) else (if ((h2062 60 9) &&& l1) = l1 then (1 : Int32) else (0 : Int32))) = (0 : Int32) from if_pos c2065] at key
        refine R_IfEq_t rfl c2065 ?_
        refine R_I rfl ?_
        exact key
      · rw [show (if x2063 = 0 then (0 : Int32) else (if ((h2062 60 9) &&& l1) = l1 then (1 : Int32) else (0 : Int32))) = (if ((h2062 60 9) &&& l1) = l1 then (1 : Int32) else (0 : Int32)) from if_neg c2065] at key
        refine R_IfEq_f rfl c2065 ?_
        refine R_ldA rfl rfl ?_
        refine R_get rfl sh_60 rfl rfl ?_
        refine R_ldI rfl rfl ?_
        refine R_bin rfl ?_
        refine R_ldI rfl rfl ?_
        by_cases c2066 : ((h2062 60 9) &&& l1) = l1
        · rw [show (if ((h2062 60 9) &&& l1) = l1 then (1 : Int32) else (0 : Int32)) = (1 : Int32) from if_pos c2066] at key
          refine R_CmNe_f rfl c2066 ?_
          refine R_I rfl ?_
          refine R_goto rfl ?_
          exact key
        · rw [show (if ((h2062 60 9) &&& l1) = l1 then (1 : Int32) else (0 : Int32)) = (0 : Int32) from if_neg c2066] at key
          refine R_CmNe_t rfl c2066 ?_
          refine R_I rfl ?_
          exact key
def f_X6_fewestOf_L24 (N : Nat) (l1 : Int32) : Nat → Int32 → Int32 → qN → Option ((Int32 × qN) ⊕ (qN))
  | 0, _, _, _ => none
  | n + 1, l2, l3, h =>
    if (4 : Int32) ≤ l3 then
      some (.inr h)
    else
      qbind (f_X6_fewestOf_L32 N l1 l2 l3 N (0 : Int32) h) fun
        | .inl (x2075, h2076) => some (.inl (x2075, h2076))
        | .inr h2073 =>
          f_X6_fewestOf_L24 N l1 n (l2 * ((6 : Int32) * (h2073 60 3))) (l3 + (1 : Int32)) h2073
set_option maxRecDepth 100000 in
theorem t_X6_fewestOf_L24 {d N : Nat} (hd : 4 ≤ d) : ∀ (n : Nat) (l1 : Int32) (l2 : Int32) (l3 : Int32) (h : qN) (res : (Int32 × qN) ⊕ (qN)), f_X6_fewestOf_L24 N l1 n l2 l3 h = some res → ∀ (v : Option Value) (h1 : qN), (∀ (rv : Int32) (rh : qN), res = .inl (rv, rh) → v = some (.int rv) ∧ h1 = rh) → (∀ (h2 : qN), res = .inr h2 → RR d cd_X6_fewestOf (0, 0) 103 [qU, qU, qU, qU, qU, qU] [] h2 v h1) → RR d cd_X6_fewestOf (0, 0) 24 [.ref 60, .int l1, .int l2, .int l3, qU, qU] [] h v h1 := by
  intro n
  induction n with
  | zero =>
    intro l1 l2 l3 h res hf v h1 hR hE
    exact absurd hf (by simp [f_X6_fewestOf_L24])
  | succ n ih =>
    intro l1 l2 l3 h res hf v h1 hR hE
    unfold f_X6_fewestOf_L24 at hf
    refine R_ldI rfl rfl ?_
    refine R_I rfl ?_
    rcases qite hf with ⟨c2060, hf⟩ | ⟨c2060, hf⟩
    · refine R_CmGe_t rfl c2060 ?_
      refine R_drop [false, false, false, false, true, true] (ls' := [qU, qU, qU, qU, qU, qU]) rfl ?_
      obtain rfl := Option.some.inj hf
      exact hE _ rfl
    · refine R_CmGe_f rfl c2060 ?_
      refine R_I rfl ?_
      refine R_stI (ls' := [.ref 60, .int l1, .int l2, .int l3, .int (0 : Int32), qU]) rfl rfl rfl rfl ?_
      obtain ⟨⟨x2075, h2076⟩ | h2073, e2074, hf⟩ := qbind_some hf
      · dsimp only at hf
        refine t_X6_fewestOf_L32 (N := N) (by omega) _ l1 l2 l3 (0 : Int32) h _ e2074 _ _ (fun rv rh he => ?_) (fun _ he => by cases he)
        cases he
        obtain rfl := Option.some.inj hf
        exact hR _ _ rfl
      · dsimp only at hf
        refine t_X6_fewestOf_L32 (N := N) (by omega) _ l1 l2 l3 (0 : Int32) h _ e2074 _ _ (fun _ _ he => by cases he) (fun z0 he => ?_)
        cases he
        refine R_ldI rfl rfl ?_
        refine R_I rfl ?_
        refine R_ldA rfl rfl ?_
        refine R_get rfl sh_60 rfl rfl ?_
        refine R_bin rfl ?_
        refine R_bin rfl ?_
        refine R_stI (ls' := [.ref 60, .int l1, .int (l2 * ((6 : Int32) * (h2073 60 3))), .int l3, qU, qU]) rfl rfl rfl rfl ?_
        refine R_inc (ls' := [.ref 60, .int l1, .int (l2 * ((6 : Int32) * (h2073 60 3))), .int (l3 + (1 : Int32)), qU, qU]) rfl rfl rfl rfl ?_
        refine R_goto rfl ?_
        exact ih l1 (l2 * ((6 : Int32) * (h2073 60 3))) (l3 + (1 : Int32)) h2073 _ hf _ _ hR hE
def f_X6_fewestOf (N : Nat) (h : qN) : Option (Int32 × qN) :=
  qbind (f_X6_neverOf N  h) fun (x2056, h2055) =>
  qbind (f_X6_keeps N  h2055) fun h2058 =>
  qbind (f_X6_fewestOf_L24 N ((((1 : Int32) <<< ((h 60 6) &&& 31)) - (1 : Int32)) &&& (x2056 ^^^ (-1 : Int32))) N (1 : Int32) (0 : Int32) h2058) fun
    | .inl (x2080, h2081) => some (x2080, h2081)
    | .inr h2078 =>
      some ((4 : Int32), h2078)
set_option maxRecDepth 100000 in
theorem t_X6_fewestOf {d N : Nat} (hd : 5 ≤ d)   (h : qN) {v0 : Int32} {h1 : qN} (hf : f_X6_fewestOf N  h = some (v0, h1)) : EE d 157 [.ref 60] h (some (.int v0)) h1 := by
  obtain ⟨d, rfl⟩ : ∃ d0, d = d0 + 1 := ⟨d - 1, by omega⟩
  unfold f_X6_fewestOf at hf
  refine E_intro qm_157 qc_157 (Nat.le_of_ble_eq_true rfl) rfl rfl ?_
  show RR d cd_X6_fewestOf (0, 0) 0 [.ref 60, qU, qU, qU, qU, qU] [] h (some (.int v0)) h1
  refine R_I rfl ?_
  refine R_ldA rfl rfl ?_
  refine R_get rfl sh_60 rfl rfl ?_
  refine R_bin rfl ?_
  refine R_I rfl ?_
  refine R_bin rfl ?_
  refine R_ldA rfl rfl ?_
  obtain ⟨⟨x2056, h2055⟩, e2057, hf⟩ := qbind_some hf
  dsimp only at hf
  refine R_callVi (as := [.ref 60]) (rest := [.int (((1 : Int32) <<< ((h 60 6) &&& 31)) - (1 : Int32))]) rfl rfl sh_60 rfl rfl rfl rfl (t_X6_neverOf (N := N) (by omega)  h e2057) ?_
  refine R_I rfl ?_
  refine R_bin rfl ?_
  refine R_bin rfl ?_
  refine R_stI (ls' := [.ref 60, .int ((((1 : Int32) <<< ((h 60 6) &&& 31)) - (1 : Int32)) &&& (x2056 ^^^ (-1 : Int32))), qU, qU, qU, qU]) rfl rfl rfl rfl ?_
  refine R_I rfl ?_
  refine R_stI (ls' := [.ref 60, .int ((((1 : Int32) <<< ((h 60 6) &&& 31)) - (1 : Int32)) &&& (x2056 ^^^ (-1 : Int32))), .int (1 : Int32), qU, qU, qU]) rfl rfl rfl rfl ?_
  refine R_ldA rfl rfl ?_
  obtain ⟨h2058, e2059, hf⟩ := qbind_some hf
  refine R_callVv (as := [.ref 60]) (rest := []) rfl rfl sh_60 rfl rfl rfl rfl (t_X6_keeps (N := N) (by omega)  h2055 e2059) ?_
  refine R_I rfl ?_
  refine R_stI (ls' := [.ref 60, .int ((((1 : Int32) <<< ((h 60 6) &&& 31)) - (1 : Int32)) &&& (x2056 ^^^ (-1 : Int32))), .int (1 : Int32), .int (0 : Int32), qU, qU]) rfl rfl rfl rfl ?_
  obtain ⟨⟨x2080, h2081⟩ | h2078, e2079, hf⟩ := qbind_some hf
  · dsimp only at hf
    refine t_X6_fewestOf_L24 (N := N) (by omega) _ ((((1 : Int32) <<< ((h 60 6) &&& 31)) - (1 : Int32)) &&& (x2056 ^^^ (-1 : Int32))) (1 : Int32) (0 : Int32) h2058 _ e2079 _ _ (fun rv rh he => ?_) (fun _ he => by cases he)
    cases he
    obtain ⟨rfl, rfl⟩ := qinj2 hf
    exact ⟨rfl, rfl⟩
  · dsimp only at hf
    refine t_X6_fewestOf_L24 (N := N) (by omega) _ ((((1 : Int32) <<< ((h 60 6) &&& 31)) - (1 : Int32)) &&& (x2056 ^^^ (-1 : Int32))) (1 : Int32) (0 : Int32) h2058 _ e2079 _ _ (fun _ _ he => by cases he) (fun z0 he => ?_)
    cases he
    refine R_I rfl ?_
    obtain ⟨rfl, rfl⟩ := qinj2 hf
    exact R_retI rfl
