theorem kc {mt : List qM} {cc : ByteArray} {own : String} {ml : Nat} {rt : Option FieldType} {ini : Bool} {mc ms : Nat} {scr : Option (Nat × (Nat → Int32))} {pc : Nat} {op : qOp} {l : List (Nat × qOp)} (h : OpOK mt cc own ml rt ini mc ms scr pc op) (hl : ∀ x ∈ l, OpOK mt cc own ml rt ini mc ms scr x.1 x.2) : ∀ x ∈ (pc, op) :: l, OpOK mt cc own ml rt ini mc ms scr x.1 x.2 := List.forall_mem_cons.mpr ⟨h, hl⟩
theorem kn {mt : List qM} {cc : ByteArray} {own : String} {ml : Nat} {rt : Option FieldType} {ini : Bool} {mc ms : Nat} {scr : Option (Nat × (Nat → Int32))} : ∀ x ∈ ([] : List (Nat × qOp)), OpOK mt cc own ml rt ini mc ms scr x.1 x.2 := fun _ h => absurd h List.not_mem_nil
def cd_X0_init : List (Nat × qOp) := [
  (0, oLdA 0 1),
  (1, oObj 4),
  (4, oLdA 0 5),
  (5, oI (2) 6),
  (6, oNewI 4 34 8),
  (8, oPutF 0 0 11),
  (11, oLdA 0 12),
  (12, oI (8) 14),
  (14, oNewI 4 34 16),
  (16, oPutF 0 1 19),
  (19, oLdA 0 20),
  (20, oI (12) 22),
  (22, oNewI 4 34 24),
  (24, oPutF 0 2 27),
  (27, oLdA 0 28),
  (28, oI (12) 30),
  (30, oNewI 4 34 32),
  (32, oPutF 0 3 35),
  (35, oLdA 0 36),
  (36, oI (0) 37),
  (37, oPutI 0 4 40),
  (40, oLdA 0 41),
  (41, oI (0) 42),
  (42, oPutI 0 5 45),
  (45, oLdA 0 46),
  (46, oI (0) 47),
  (47, oPutI 0 6 50),
  (50, oRetV)]
set_option maxRecDepth 100000 in
theorem ck_X0_init {ini : Bool} (hi : ini = true) : ∀ x ∈ cd_X0_init, OpOK qMT cX0_init RX0 1 none ini 4 34 none x.1 x.2 :=
  kc (ok_aload_n dX0_init_0 rfl) (
  kc (ok_objInit dX0_init_1 hw_81 hw_68 hw_69) (
  kc (ok_aload_n dX0_init_4 rfl) (
  kc (ok_iconst dX0_init_5 (by decide)) (
  kc (ok_newI dX0_init_6 hw_118) (
  kc (ok_putF (T := TX0) (k := 0) dX0_init_8 rfl hin_X0 tyX0_ok nmX0 (by decide) hw_82 rfl rfl hi (tyX0_ok 0 (by decide)) (fun _ => ⟨rfl, rfl⟩)) (
  kc (ok_aload_n dX0_init_11 rfl) (
  kc (ok_bipush dX0_init_12 (by decide)) (
  kc (ok_newI dX0_init_14 hw_118) (
  kc (ok_putF (T := TX0) (k := 1) dX0_init_16 rfl hin_X0 tyX0_ok nmX0 (by decide) hw_84 rfl rfl hi (tyX0_ok 1 (by decide)) (fun _ => ⟨rfl, rfl⟩)) (
  kc (ok_aload_n dX0_init_19 rfl) (
  kc (ok_bipush dX0_init_20 (by decide)) (
  kc (ok_newI dX0_init_22 hw_118) (
  kc (ok_putF (T := TX0) (k := 2) dX0_init_24 rfl hin_X0 tyX0_ok nmX0 (by decide) hw_88 rfl rfl hi (tyX0_ok 2 (by decide)) (fun _ => ⟨rfl, rfl⟩)) (
  kc (ok_aload_n dX0_init_27 rfl) (
  kc (ok_bipush dX0_init_28 (by decide)) (
  kc (ok_newI dX0_init_30 hw_118) (
  kc (ok_putF (T := TX0) (k := 3) dX0_init_32 rfl hin_X0 tyX0_ok nmX0 (by decide) hw_90 rfl rfl hi (tyX0_ok 3 (by decide)) (fun _ => ⟨rfl, rfl⟩)) (
  kc (ok_aload_n dX0_init_35 rfl) (
  kc (ok_iconst dX0_init_36 (by decide)) (
  kc (ok_putI (T := TX0) (k := 4) dX0_init_37 rfl hin_X0 tyX0_ok nmX0 (by decide) hw_92 rfl (tyX0_ok 4 (by decide))) (
  kc (ok_aload_n dX0_init_40 rfl) (
  kc (ok_iconst dX0_init_41 (by decide)) (
  kc (ok_putI (T := TX0) (k := 5) dX0_init_42 rfl hin_X0 tyX0_ok nmX0 (by decide) hw_95 rfl (tyX0_ok 5 (by decide))) (
  kc (ok_aload_n dX0_init_45 rfl) (
  kc (ok_iconst dX0_init_46 (by decide)) (
  kc (ok_putI (T := TX0) (k := 6) dX0_init_47 rfl hin_X0 tyX0_ok nmX0 (by decide) hw_99 rfl (tyX0_ok 6 (by decide))) (
  kc (ok_retV dX0_init_50 rfl) (
  kn))))))))))))))))))))))))))))
def cd_X0_become : List (Nat × qOp) := [
  (0, oLdA 1 1),
  (1, oGet 0 0 4),
  (4, oI (0) 5),
  (5, oLdA 0 6),
  (6, oGet 0 0 9),
  (9, oI (0) 10),
  (10, oLdA 0 11),
  (11, oGet 0 0 14),
  (14, oLen 15),
  (15, oCopy 18),
  (18, oLdA 1 19),
  (19, oGet 0 1 22),
  (22, oI (0) 23),
  (23, oLdA 0 24),
  (24, oGet 0 1 27),
  (27, oI (0) 28),
  (28, oLdA 0 29),
  (29, oGet 0 1 32),
  (32, oLen 33),
  (33, oCopy 36),
  (36, oLdA 1 37),
  (37, oGet 0 2 40),
  (40, oI (0) 41),
  (41, oLdA 0 42),
  (42, oGet 0 2 45),
  (45, oI (0) 46),
  (46, oLdA 0 47),
  (47, oGet 0 2 50),
  (50, oLen 51),
  (51, oCopy 54),
  (54, oLdA 1 55),
  (55, oGet 0 3 58),
  (58, oI (0) 59),
  (59, oLdA 0 60),
  (60, oGet 0 3 63),
  (63, oI (0) 64),
  (64, oLdA 0 65),
  (65, oGet 0 3 68),
  (68, oLen 69),
  (69, oCopy 72),
  (72, oLdA 0 73),
  (73, oLdA 1 74),
  (74, oGet 0 4 77),
  (77, oPutI 0 4 80),
  (80, oLdA 0 81),
  (81, oLdA 1 82),
  (82, oGet 0 5 85),
  (85, oPutI 0 5 88),
  (88, oLdA 0 89),
  (89, oLdA 1 90),
  (90, oGet 0 6 93),
  (93, oPutI 0 6 96),
  (96, oRetV)]
set_option maxRecDepth 100000 in
theorem ck_X0_become {ini : Bool} : ∀ x ∈ cd_X0_become, OpOK qMT cX0_become RX0 2 none ini 0 0 none x.1 x.2 :=
  kc (ok_aload_n dX0_become_0 rfl) (
  kc (ok_get (T := TX0) (k := 0) dX0_become_1 rfl hin_X0 (by decide) hw_82) (
  kc (ok_iconst dX0_become_4 (by decide)) (
  kc (ok_aload_n dX0_become_5 rfl) (
  kc (ok_get (T := TX0) (k := 0) dX0_become_6 rfl hin_X0 (by decide) hw_82) (
  kc (ok_iconst dX0_become_9 (by decide)) (
  kc (ok_aload_n dX0_become_10 rfl) (
  kc (ok_get (T := TX0) (k := 0) dX0_become_11 rfl hin_X0 (by decide) hw_82) (
  kc (ok_alen dX0_become_14) (
  kc (ok_copy dX0_become_15 hw_470 hw_366 hw_365 hw_59) (
  kc (ok_aload_n dX0_become_18 rfl) (
  kc (ok_get (T := TX0) (k := 1) dX0_become_19 rfl hin_X0 (by decide) hw_84) (
  kc (ok_iconst dX0_become_22 (by decide)) (
  kc (ok_aload_n dX0_become_23 rfl) (
  kc (ok_get (T := TX0) (k := 1) dX0_become_24 rfl hin_X0 (by decide) hw_84) (
  kc (ok_iconst dX0_become_27 (by decide)) (
  kc (ok_aload_n dX0_become_28 rfl) (
  kc (ok_get (T := TX0) (k := 1) dX0_become_29 rfl hin_X0 (by decide) hw_84) (
  kc (ok_alen dX0_become_32) (
  kc (ok_copy dX0_become_33 hw_470 hw_366 hw_365 hw_59) (
  kc (ok_aload_n dX0_become_36 rfl) (
  kc (ok_get (T := TX0) (k := 2) dX0_become_37 rfl hin_X0 (by decide) hw_88) (
  kc (ok_iconst dX0_become_40 (by decide)) (
  kc (ok_aload_n dX0_become_41 rfl) (
  kc (ok_get (T := TX0) (k := 2) dX0_become_42 rfl hin_X0 (by decide) hw_88) (
  kc (ok_iconst dX0_become_45 (by decide)) (
  kc (ok_aload_n dX0_become_46 rfl) (
  kc (ok_get (T := TX0) (k := 2) dX0_become_47 rfl hin_X0 (by decide) hw_88) (
  kc (ok_alen dX0_become_50) (
  kc (ok_copy dX0_become_51 hw_470 hw_366 hw_365 hw_59) (
  kc (ok_aload_n dX0_become_54 rfl) (
  kc (ok_get (T := TX0) (k := 3) dX0_become_55 rfl hin_X0 (by decide) hw_90) (
  kc (ok_iconst dX0_become_58 (by decide)) (
  kc (ok_aload_n dX0_become_59 rfl) (
  kc (ok_get (T := TX0) (k := 3) dX0_become_60 rfl hin_X0 (by decide) hw_90) (
  kc (ok_iconst dX0_become_63 (by decide)) (
  kc (ok_aload_n dX0_become_64 rfl) (
  kc (ok_get (T := TX0) (k := 3) dX0_become_65 rfl hin_X0 (by decide) hw_90) (
  kc (ok_alen dX0_become_68) (
  kc (ok_copy dX0_become_69 hw_470 hw_366 hw_365 hw_59) (
  kc (ok_aload_n dX0_become_72 rfl) (
  kc (ok_aload_n dX0_become_73 rfl) (
  kc (ok_get (T := TX0) (k := 4) dX0_become_74 rfl hin_X0 (by decide) hw_92) (
  kc (ok_putI (T := TX0) (k := 4) dX0_become_77 rfl hin_X0 tyX0_ok nmX0 (by decide) hw_92 rfl (tyX0_ok 4 (by decide))) (
  kc (ok_aload_n dX0_become_80 rfl) (
  kc (ok_aload_n dX0_become_81 rfl) (
  kc (ok_get (T := TX0) (k := 5) dX0_become_82 rfl hin_X0 (by decide) hw_95) (
  kc (ok_putI (T := TX0) (k := 5) dX0_become_85 rfl hin_X0 tyX0_ok nmX0 (by decide) hw_95 rfl (tyX0_ok 5 (by decide))) (
  kc (ok_aload_n dX0_become_88 rfl) (
  kc (ok_aload_n dX0_become_89 rfl) (
  kc (ok_get (T := TX0) (k := 6) dX0_become_90 rfl hin_X0 (by decide) hw_99) (
  kc (ok_putI (T := TX0) (k := 6) dX0_become_93 rfl hin_X0 tyX0_ok nmX0 (by decide) hw_99 rfl (tyX0_ok 6 (by decide))) (
  kc (ok_retV dX0_become_96 rfl) (
  kn)))))))))))))))))))))))))))))))))))))))))))))))))))))
def cd_X0_isOver : List (Nat × qOp) := [
  (0, oLdA 0 1),
  (1, oGet 0 6 4),
  (4, oLdI 1 5),
  (5, oBin (fun x y => x >>> (y &&& 31)) 6),
  (6, oI (1) 7),
  (7, oBin (fun x y => x &&& y) 8),
  (8, oI (1) 9),
  (9, oCmNe 16 12),
  (12, oI (1) 13),
  (13, oGoto 17),
  (16, oI (0) 17),
  (17, oRetZ)]
set_option maxRecDepth 100000 in
theorem ck_X0_isOver {ini : Bool} : ∀ x ∈ cd_X0_isOver, OpOK qMT cX0_isOver RX0 2 (some .boolean) ini 0 0 none x.1 x.2 :=
  kc (ok_aload_n dX0_isOver_0 rfl) (
  kc (ok_get (T := TX0) (k := 6) dX0_isOver_1 rfl hin_X0 (by decide) hw_99) (
  kc (ok_iload_n dX0_isOver_4 rfl) (
  kc (ok_ishr dX0_isOver_5) (
  kc (ok_iconst dX0_isOver_6 (by decide)) (
  kc (ok_iand dX0_isOver_7) (
  kc (ok_iconst dX0_isOver_8 (by decide)) (
  kc (ok_cm_ne dX0_isOver_9 (by decide)) (
  kc (ok_iconst dX0_isOver_12 (by decide)) (
  kc (ok_goto dX0_isOver_13 (by decide)) (
  kc (ok_iconst dX0_isOver_16 (by decide)) (
  kc (ok_retZ dX0_isOver_17 rfl) (
  kn))))))))))))
def cd_X0_standing : List (Nat × qOp) := [
  (0, oLdI 1 1),
  (1, oI (10) 3),
  (3, oCmLt 13 6),
  (6, oLdI 1 7),
  (7, oI (10) 9),
  (9, oBin (fun x y => x - y) 10),
  (10, oGoto 19),
  (13, oLdA 0 14),
  (14, oGet 0 1 17),
  (17, oLdI 1 18),
  (18, oALd 19),
  (19, oRetI)]
set_option maxRecDepth 100000 in
theorem ck_X0_standing {ini : Bool} : ∀ x ∈ cd_X0_standing, OpOK qMT cX0_standing RX0 2 (some .int) ini 0 0 none x.1 x.2 :=
  kc (ok_iload_n dX0_standing_0 rfl) (
  kc (ok_bipush dX0_standing_1 (by decide)) (
  kc (ok_cm_lt dX0_standing_3 (by decide)) (
  kc (ok_iload_n dX0_standing_6 rfl) (
  kc (ok_bipush dX0_standing_7 (by decide)) (
  kc (ok_isub dX0_standing_9) (
  kc (ok_goto dX0_standing_10 (by decide)) (
  kc (ok_aload_n dX0_standing_13 rfl) (
  kc (ok_get (T := TX0) (k := 1) dX0_standing_14 rfl hin_X0 (by decide) hw_84) (
  kc (ok_iload_n dX0_standing_17 rfl) (
  kc (ok_iaload dX0_standing_18) (
  kc (ok_retI dX0_standing_19 rfl) (
  kn))))))))))))
def cd_X0_addSuit : List (Nat × qOp) := [
  (0, oLdA 0 1),
  (1, oGet 0 5 4),
  (4, oStI 3 5),
  (5, oLdA 0 6),
  (6, oGet 0 2 9),
  (9, oLdI 3 10),
  (10, oLdI 1 11),
  (11, oASt 12),
  (12, oLdA 0 13),
  (13, oGet 0 3 16),
  (16, oLdI 3 17),
  (17, oLdI 2 18),
  (18, oASt 19),
  (19, oLdA 0 20),
  (20, oDup 21),
  (21, oGet 0 5 24),
  (24, oI (1) 25),
  (25, oBin (fun x y => x + y) 26),
  (26, oPutI 0 5 29),
  (29, oLdA 0 30),
  (30, oCallV 5 0 0 0 0 0 0 33),
  (33, oPop 34),
  (34, oLdI 3 35),
  (35, oRetI)]
set_option maxRecDepth 100000 in
theorem ck_X0_addSuit {ini : Bool} : ∀ x ∈ cd_X0_addSuit, OpOK qMT cX0_addSuit RX0 4 (some .int) ini 0 0 none x.1 x.2 :=
  kc (ok_aload_n dX0_addSuit_0 rfl) (
  kc (ok_get (T := TX0) (k := 5) dX0_addSuit_1 rfl hin_X0 (by decide) hw_95) (
  kc (ok_istore_n dX0_addSuit_4 rfl) (
  kc (ok_aload_n dX0_addSuit_5 rfl) (
  kc (ok_get (T := TX0) (k := 2) dX0_addSuit_6 rfl hin_X0 (by decide) hw_88) (
  kc (ok_iload_n dX0_addSuit_9 rfl) (
  kc (ok_iload_n dX0_addSuit_10 rfl) (
  kc (ok_iastore dX0_addSuit_11) (
  kc (ok_aload_n dX0_addSuit_12 rfl) (
  kc (ok_get (T := TX0) (k := 3) dX0_addSuit_13 rfl hin_X0 (by decide) hw_90) (
  kc (ok_iload_n dX0_addSuit_16 rfl) (
  kc (ok_iload_n dX0_addSuit_17 rfl) (
  kc (ok_iastore dX0_addSuit_18) (
  kc (ok_aload_n dX0_addSuit_19 rfl) (
  kc (ok_dup dX0_addSuit_20) (
  kc (ok_get (T := TX0) (k := 5) dX0_addSuit_21 rfl hin_X0 (by decide) hw_95) (
  kc (ok_iconst dX0_addSuit_24 (by decide)) (
  kc (ok_iadd dX0_addSuit_25) (
  kc (ok_putI (T := TX0) (k := 5) dX0_addSuit_26 rfl hin_X0 tyX0_ok nmX0 (by decide) hw_95 rfl (tyX0_ok 5 (by decide))) (
  kc (ok_aload_n dX0_addSuit_29 rfl) (
  kc (ok_callV (T := TX0) dX0_addSuit_30 qm_5 rfl rfl rfl hw_298 hw_255 hw_256 qp_5) (
  kc (ok_pop dX0_addSuit_33) (
  kc (ok_iload_n dX0_addSuit_34 rfl) (
  kc (ok_retI dX0_addSuit_35 rfl) (
  kn))))))))))))))))))))))))
def cd_X0_settle : List (Nat × qOp) := [
  (0, oI (0) 1),
  (1, oStI 1 2),
  (2, oI (0) 3),
  (3, oStI 2 4),
  (4, oLdI 2 5),
  (5, oLdA 0 6),
  (6, oGet 0 5 9),
  (9, oCmGe 113 12),
  (12, oLdA 0 13),
  (13, oLdA 0 14),
  (14, oGet 0 2 17),
  (17, oLdI 2 18),
  (18, oALd 19),
  (19, oCallV 3 0 1 0 0 0 0 22),
  (22, oStI 3 23),
  (23, oLdA 0 24),
  (24, oLdA 0 25),
  (25, oGet 0 3 28),
  (28, oLdI 2 29),
  (29, oALd 30),
  (30, oCallV 3 0 1 0 0 0 0 33),
  (33, oStI 4 35),
  (35, oLdI 3 36),
  (36, oI (6) 38),
  (38, oCmEq 48 41),
  (41, oLdI 4 43),
  (43, oI (6) 45),
  (45, oCmNe 66 48),
  (48, oLdA 0 49),
  (49, oGet 0 0 52),
  (52, oI (1) 53),
  (53, oALd 54),
  (54, oI (1) 55),
  (55, oCmNe 62 58),
  (58, oI (1) 59),
  (59, oGoto 77),
  (62, oI (0) 63),
  (63, oGoto 77),
  (66, oLdI 3 67),
  (67, oLdI 4 69),
  (69, oCmNe 76 72),
  (72, oI (1) 73),
  (73, oGoto 77),
  (76, oI (0) 77),
  (77, oStI 5 79),
  (79, oLdI 5 81),
  (81, oIfEq 107 84),
  (84, oLdA 0 85),
  (85, oLdI 2 86),
  (86, oCallV 2 0 1 0 0 0 0 89),
  (89, oIfNe 107 92),
  (92, oLdA 0 93),
  (93, oDup 94),
  (94, oGet 0 6 97),
  (97, oI (1) 98),
  (98, oLdI 2 99),
  (99, oBin (fun x y => x <<< (y &&& 31)) 100),
  (100, oBin (fun x y => x ||| y) 101),
  (101, oPutI 0 6 104),
  (104, oInc 1 (1) 107),
  (107, oInc 2 (1) 110),
  (110, oGoto 4),
  (113, oLdI 1 114),
  (114, oRetI)]
set_option maxRecDepth 100000 in
theorem ck_X0_settle {ini : Bool} : ∀ x ∈ cd_X0_settle, OpOK qMT cX0_settle RX0 6 (some .int) ini 0 0 none x.1 x.2 :=
  kc (ok_iconst dX0_settle_0 (by decide)) (
  kc (ok_istore_n dX0_settle_1 rfl) (
  kc (ok_iconst dX0_settle_2 (by decide)) (
  kc (ok_istore_n dX0_settle_3 rfl) (
  kc (ok_iload_n dX0_settle_4 rfl) (
  kc (ok_aload_n dX0_settle_5 rfl) (
  kc (ok_get (T := TX0) (k := 5) dX0_settle_6 rfl hin_X0 (by decide) hw_95) (
  kc (ok_cm_ge dX0_settle_9 (by decide)) (
  kc (ok_aload_n dX0_settle_12 rfl) (
  kc (ok_aload_n dX0_settle_13 rfl) (
  kc (ok_get (T := TX0) (k := 2) dX0_settle_14 rfl hin_X0 (by decide) hw_88) (
  kc (ok_iload_n dX0_settle_17 rfl) (
  kc (ok_iaload dX0_settle_18) (
  kc (ok_callV (T := TX0) dX0_settle_19 qm_3 rfl rfl rfl hw_258 hw_259 hw_260 qp_3) (
  kc (ok_istore_n dX0_settle_22 rfl) (
  kc (ok_aload_n dX0_settle_23 rfl) (
  kc (ok_aload_n dX0_settle_24 rfl) (
  kc (ok_get (T := TX0) (k := 3) dX0_settle_25 rfl hin_X0 (by decide) hw_90) (
  kc (ok_iload_n dX0_settle_28 rfl) (
  kc (ok_iaload dX0_settle_29) (
  kc (ok_callV (T := TX0) dX0_settle_30 qm_3 rfl rfl rfl hw_258 hw_259 hw_260 qp_3) (
  kc (ok_istore dX0_settle_33) (
  kc (ok_iload_n dX0_settle_35 rfl) (
  kc (ok_bipush dX0_settle_36 (by decide)) (
  kc (ok_cm_eq dX0_settle_38 (by decide)) (
  kc (ok_iload dX0_settle_41) (
  kc (ok_bipush dX0_settle_43 (by decide)) (
  kc (ok_cm_ne dX0_settle_45 (by decide)) (
  kc (ok_aload_n dX0_settle_48 rfl) (
  kc (ok_get (T := TX0) (k := 0) dX0_settle_49 rfl hin_X0 (by decide) hw_82) (
  kc (ok_iconst dX0_settle_52 (by decide)) (
  kc (ok_iaload dX0_settle_53) (
  kc (ok_iconst dX0_settle_54 (by decide)) (
  kc (ok_cm_ne dX0_settle_55 (by decide)) (
  kc (ok_iconst dX0_settle_58 (by decide)) (
  kc (ok_goto dX0_settle_59 (by decide)) (
  kc (ok_iconst dX0_settle_62 (by decide)) (
  kc (ok_goto dX0_settle_63 (by decide)) (
  kc (ok_iload_n dX0_settle_66 rfl) (
  kc (ok_iload dX0_settle_67) (
  kc (ok_cm_ne dX0_settle_69 (by decide)) (
  kc (ok_iconst dX0_settle_72 (by decide)) (
  kc (ok_goto dX0_settle_73 (by decide)) (
  kc (ok_iconst dX0_settle_76 (by decide)) (
  kc (ok_istore dX0_settle_77) (
  kc (ok_iload dX0_settle_79) (
  kc (ok_if_eq dX0_settle_81 (by decide)) (
  kc (ok_aload_n dX0_settle_84 rfl) (
  kc (ok_iload_n dX0_settle_85 rfl) (
  kc (ok_callV (T := TX0) dX0_settle_86 qm_2 rfl rfl rfl hw_262 hw_263 hw_264 qp_2) (
  kc (ok_if_ne dX0_settle_89 (by decide)) (
  kc (ok_aload_n dX0_settle_92 rfl) (
  kc (ok_dup dX0_settle_93) (
  kc (ok_get (T := TX0) (k := 6) dX0_settle_94 rfl hin_X0 (by decide) hw_99) (
  kc (ok_iconst dX0_settle_97 (by decide)) (
  kc (ok_iload_n dX0_settle_98 rfl) (
  kc (ok_ishl dX0_settle_99) (
  kc (ok_ior dX0_settle_100) (
  kc (ok_putI (T := TX0) (k := 6) dX0_settle_101 rfl hin_X0 tyX0_ok nmX0 (by decide) hw_99 rfl (tyX0_ok 6 (by decide))) (
  kc (ok_iinc dX0_settle_104 (by decide)) (
  kc (ok_iinc dX0_settle_107 (by decide)) (
  kc (ok_goto dX0_settle_110 (by decide)) (
  kc (ok_iload_n dX0_settle_113 rfl) (
  kc (ok_retI dX0_settle_114 rfl) (
  kn))))))))))))))))))))))))))))))))))))))))))))))))))))))))))))))))
def cd_X0_move : List (Nat × qOp) := [
  (0, oLdA 0 1),
  (1, oLdI 1 2),
  (2, oCallV 8 0 1 0 0 0 0 5),
  (5, oLdA 0 6),
  (6, oGet 0 1 9),
  (9, oLdI 1 10),
  (10, oLdI 2 11),
  (11, oASt 12),
  (12, oLdA 0 13),
  (13, oCallV 5 0 0 0 0 0 0 16),
  (16, oRetI)]
set_option maxRecDepth 100000 in
theorem ck_X0_move {ini : Bool} : ∀ x ∈ cd_X0_move, OpOK qMT cX0_move RX0 3 (some .int) ini 0 0 none x.1 x.2 :=
  kc (ok_aload_n dX0_move_0 rfl) (
  kc (ok_iload_n dX0_move_1 rfl) (
  kc (ok_callV (T := TX0) dX0_move_2 qm_8 rfl rfl rfl hw_414 hw_416 hw_6 qp_8) (
  kc (ok_aload_n dX0_move_5 rfl) (
  kc (ok_get (T := TX0) (k := 1) dX0_move_6 rfl hin_X0 (by decide) hw_84) (
  kc (ok_iload_n dX0_move_9 rfl) (
  kc (ok_iload_n dX0_move_10 rfl) (
  kc (ok_iastore dX0_move_11) (
  kc (ok_aload_n dX0_move_12 rfl) (
  kc (ok_callV (T := TX0) dX0_move_13 qm_5 rfl rfl rfl hw_298 hw_255 hw_256 qp_5) (
  kc (ok_retI dX0_move_16 rfl) (
  kn)))))))))))
def cd_X0_exchange : List (Nat × qOp) := [
  (0, oLdA 0 1),
  (1, oLdI 1 2),
  (2, oCallV 8 0 1 0 0 0 0 5),
  (5, oLdA 0 6),
  (6, oLdI 2 7),
  (7, oCallV 8 0 1 0 0 0 0 10),
  (10, oLdA 0 11),
  (11, oGet 0 1 14),
  (14, oLdI 1 15),
  (15, oALd 16),
  (16, oStI 3 17),
  (17, oLdA 0 18),
  (18, oGet 0 1 21),
  (21, oLdI 1 22),
  (22, oLdA 0 23),
  (23, oGet 0 1 26),
  (26, oLdI 2 27),
  (27, oALd 28),
  (28, oASt 29),
  (29, oLdA 0 30),
  (30, oGet 0 1 33),
  (33, oLdI 2 34),
  (34, oLdI 3 35),
  (35, oASt 36),
  (36, oLdA 0 37),
  (37, oCallV 5 0 0 0 0 0 0 40),
  (40, oRetI)]
set_option maxRecDepth 100000 in
theorem ck_X0_exchange {ini : Bool} : ∀ x ∈ cd_X0_exchange, OpOK qMT cX0_exchange RX0 4 (some .int) ini 0 0 none x.1 x.2 :=
  kc (ok_aload_n dX0_exchange_0 rfl) (
  kc (ok_iload_n dX0_exchange_1 rfl) (
  kc (ok_callV (T := TX0) dX0_exchange_2 qm_8 rfl rfl rfl hw_414 hw_416 hw_6 qp_8) (
  kc (ok_aload_n dX0_exchange_5 rfl) (
  kc (ok_iload_n dX0_exchange_6 rfl) (
  kc (ok_callV (T := TX0) dX0_exchange_7 qm_8 rfl rfl rfl hw_414 hw_416 hw_6 qp_8) (
  kc (ok_aload_n dX0_exchange_10 rfl) (
  kc (ok_get (T := TX0) (k := 1) dX0_exchange_11 rfl hin_X0 (by decide) hw_84) (
  kc (ok_iload_n dX0_exchange_14 rfl) (
  kc (ok_iaload dX0_exchange_15) (
  kc (ok_istore_n dX0_exchange_16 rfl) (
  kc (ok_aload_n dX0_exchange_17 rfl) (
  kc (ok_get (T := TX0) (k := 1) dX0_exchange_18 rfl hin_X0 (by decide) hw_84) (
  kc (ok_iload_n dX0_exchange_21 rfl) (
  kc (ok_aload_n dX0_exchange_22 rfl) (
  kc (ok_get (T := TX0) (k := 1) dX0_exchange_23 rfl hin_X0 (by decide) hw_84) (
  kc (ok_iload_n dX0_exchange_26 rfl) (
  kc (ok_iaload dX0_exchange_27) (
  kc (ok_iastore dX0_exchange_28) (
  kc (ok_aload_n dX0_exchange_29 rfl) (
  kc (ok_get (T := TX0) (k := 1) dX0_exchange_30 rfl hin_X0 (by decide) hw_84) (
  kc (ok_iload_n dX0_exchange_33 rfl) (
  kc (ok_iload_n dX0_exchange_34 rfl) (
  kc (ok_iastore dX0_exchange_35) (
  kc (ok_aload_n dX0_exchange_36 rfl) (
  kc (ok_callV (T := TX0) dX0_exchange_37 qm_5 rfl rfl rfl hw_298 hw_255 hw_256 qp_5) (
  kc (ok_retI dX0_exchange_40 rfl) (
  kn)))))))))))))))))))))))))))
def cd_X0_leaveSides : List (Nat × qOp) := [
  (0, oLdA 0 1),
  (1, oGet 0 1 4),
  (4, oLdI 1 5),
  (5, oALd 6),
  (6, oStI 2 7),
  (7, oLdA 0 8),
  (8, oGet 0 0 11),
  (11, oI (0) 12),
  (12, oALd 13),
  (13, oIfEq 22 16),
  (16, oLdI 2 17),
  (17, oI (6) 19),
  (19, oCmNe 23 22),
  (22, oRetV),
  (23, oI (0) 24),
  (24, oStI 3 25),
  (25, oLdI 3 26),
  (26, oLdA 0 27),
  (27, oGet 0 5 30),
  (30, oCmGe 57 33),
  (33, oLdA 0 34),
  (34, oLdI 3 35),
  (35, oCallV 2 0 1 0 0 0 0 38),
  (38, oIfNe 51 41),
  (41, oLdA 0 42),
  (42, oLdI 3 43),
  (43, oLdI 1 44),
  (44, oI (10) 46),
  (46, oLdI 2 47),
  (47, oBin (fun x y => x + y) 48),
  (48, oCallV 9 0 3 0 0 0 0 51),
  (51, oInc 3 (1) 54),
  (54, oGoto 25),
  (57, oRetV)]
set_option maxRecDepth 100000 in
theorem ck_X0_leaveSides {ini : Bool} : ∀ x ∈ cd_X0_leaveSides, OpOK qMT cX0_leaveSides RX0 4 none ini 0 0 none x.1 x.2 :=
  kc (ok_aload_n dX0_leaveSides_0 rfl) (
  kc (ok_get (T := TX0) (k := 1) dX0_leaveSides_1 rfl hin_X0 (by decide) hw_84) (
  kc (ok_iload_n dX0_leaveSides_4 rfl) (
  kc (ok_iaload dX0_leaveSides_5) (
  kc (ok_istore_n dX0_leaveSides_6 rfl) (
  kc (ok_aload_n dX0_leaveSides_7 rfl) (
  kc (ok_get (T := TX0) (k := 0) dX0_leaveSides_8 rfl hin_X0 (by decide) hw_82) (
  kc (ok_iconst dX0_leaveSides_11 (by decide)) (
  kc (ok_iaload dX0_leaveSides_12) (
  kc (ok_if_eq dX0_leaveSides_13 (by decide)) (
  kc (ok_iload_n dX0_leaveSides_16 rfl) (
  kc (ok_bipush dX0_leaveSides_17 (by decide)) (
  kc (ok_cm_ne dX0_leaveSides_19 (by decide)) (
  kc (ok_retV dX0_leaveSides_22 rfl) (
  kc (ok_iconst dX0_leaveSides_23 (by decide)) (
  kc (ok_istore_n dX0_leaveSides_24 rfl) (
  kc (ok_iload_n dX0_leaveSides_25 rfl) (
  kc (ok_aload_n dX0_leaveSides_26 rfl) (
  kc (ok_get (T := TX0) (k := 5) dX0_leaveSides_27 rfl hin_X0 (by decide) hw_95) (
  kc (ok_cm_ge dX0_leaveSides_30 (by decide)) (
  kc (ok_aload_n dX0_leaveSides_33 rfl) (
  kc (ok_iload_n dX0_leaveSides_34 rfl) (
  kc (ok_callV (T := TX0) dX0_leaveSides_35 qm_2 rfl rfl rfl hw_262 hw_263 hw_264 qp_2) (
  kc (ok_if_ne dX0_leaveSides_38 (by decide)) (
  kc (ok_aload_n dX0_leaveSides_41 rfl) (
  kc (ok_iload_n dX0_leaveSides_42 rfl) (
  kc (ok_iload_n dX0_leaveSides_43 rfl) (
  kc (ok_bipush dX0_leaveSides_44 (by decide)) (
  kc (ok_iload_n dX0_leaveSides_46 rfl) (
  kc (ok_iadd dX0_leaveSides_47) (
  kc (ok_callV (T := TX0) dX0_leaveSides_48 qm_9 rfl rfl rfl hw_418 hw_420 hw_7 qp_9) (
  kc (ok_iinc dX0_leaveSides_51 (by decide)) (
  kc (ok_goto dX0_leaveSides_54 (by decide)) (
  kc (ok_retV dX0_leaveSides_57 rfl) (
  kn))))))))))))))))))))))))))))))))))
def cd_X0_changeSides : List (Nat × qOp) := [
  (0, oLdA 0 1),
  (1, oGet 0 2 4),
  (4, oLdI 1 5),
  (5, oALd 6),
  (6, oLdI 2 7),
  (7, oCmNe 17 10),
  (10, oLdA 0 11),
  (11, oGet 0 2 14),
  (14, oLdI 1 15),
  (15, oLdI 3 16),
  (16, oASt 17),
  (17, oLdA 0 18),
  (18, oGet 0 3 21),
  (21, oLdI 1 22),
  (22, oALd 23),
  (23, oLdI 2 24),
  (24, oCmNe 34 27),
  (27, oLdA 0 28),
  (28, oGet 0 3 31),
  (31, oLdI 1 32),
  (32, oLdI 3 33),
  (33, oASt 34),
  (34, oRetV)]
set_option maxRecDepth 100000 in
theorem ck_X0_changeSides {ini : Bool} : ∀ x ∈ cd_X0_changeSides, OpOK qMT cX0_changeSides RX0 4 none ini 0 0 none x.1 x.2 :=
  kc (ok_aload_n dX0_changeSides_0 rfl) (
  kc (ok_get (T := TX0) (k := 2) dX0_changeSides_1 rfl hin_X0 (by decide) hw_88) (
  kc (ok_iload_n dX0_changeSides_4 rfl) (
  kc (ok_iaload dX0_changeSides_5) (
  kc (ok_iload_n dX0_changeSides_6 rfl) (
  kc (ok_cm_ne dX0_changeSides_7 (by decide)) (
  kc (ok_aload_n dX0_changeSides_10 rfl) (
  kc (ok_get (T := TX0) (k := 2) dX0_changeSides_11 rfl hin_X0 (by decide) hw_88) (
  kc (ok_iload_n dX0_changeSides_14 rfl) (
  kc (ok_iload_n dX0_changeSides_15 rfl) (
  kc (ok_iastore dX0_changeSides_16) (
  kc (ok_aload_n dX0_changeSides_17 rfl) (
  kc (ok_get (T := TX0) (k := 3) dX0_changeSides_18 rfl hin_X0 (by decide) hw_90) (
  kc (ok_iload_n dX0_changeSides_21 rfl) (
  kc (ok_iaload dX0_changeSides_22) (
  kc (ok_iload_n dX0_changeSides_23 rfl) (
  kc (ok_cm_ne dX0_changeSides_24 (by decide)) (
  kc (ok_aload_n dX0_changeSides_27 rfl) (
  kc (ok_get (T := TX0) (k := 3) dX0_changeSides_28 rfl hin_X0 (by decide) hw_90) (
  kc (ok_iload_n dX0_changeSides_31 rfl) (
  kc (ok_iload_n dX0_changeSides_32 rfl) (
  kc (ok_iastore dX0_changeSides_33) (
  kc (ok_retV dX0_changeSides_34 rfl) (
  kn)))))))))))))))))))))))
def cd_X0_marry : List (Nat × qOp) := [
  (0, oI (0) 1),
  (1, oStI 3 2),
  (2, oLdI 3 3),
  (3, oLdA 0 4),
  (4, oGet 0 4 7),
  (7, oCmGe 33 10),
  (10, oLdA 0 11),
  (11, oGet 0 1 14),
  (14, oLdI 3 15),
  (15, oALd 16),
  (16, oLdI 2 17),
  (17, oCmNe 27 20),
  (20, oLdA 0 21),
  (21, oGet 0 1 24),
  (24, oLdI 3 25),
  (25, oLdI 1 26),
  (26, oASt 27),
  (27, oInc 3 (1) 30),
  (30, oGoto 2),
  (33, oI (0) 34),
  (34, oStI 3 35),
  (35, oLdI 3 36),
  (36, oLdA 0 37),
  (37, oGet 0 5 40),
  (40, oCmGe 62 43),
  (43, oLdA 0 44),
  (44, oLdI 3 45),
  (45, oI (10) 47),
  (47, oLdI 2 48),
  (48, oBin (fun x y => x + y) 49),
  (49, oI (10) 51),
  (51, oLdI 1 52),
  (52, oBin (fun x y => x + y) 53),
  (53, oCallV 9 0 3 0 0 0 0 56),
  (56, oInc 3 (1) 59),
  (59, oGoto 35),
  (62, oLdA 0 63),
  (63, oCallV 5 0 0 0 0 0 0 66),
  (66, oRetI)]
set_option maxRecDepth 100000 in
theorem ck_X0_marry {ini : Bool} : ∀ x ∈ cd_X0_marry, OpOK qMT cX0_marry RX0 4 (some .int) ini 0 0 none x.1 x.2 :=
  kc (ok_iconst dX0_marry_0 (by decide)) (
  kc (ok_istore_n dX0_marry_1 rfl) (
  kc (ok_iload_n dX0_marry_2 rfl) (
  kc (ok_aload_n dX0_marry_3 rfl) (
  kc (ok_get (T := TX0) (k := 4) dX0_marry_4 rfl hin_X0 (by decide) hw_92) (
  kc (ok_cm_ge dX0_marry_7 (by decide)) (
  kc (ok_aload_n dX0_marry_10 rfl) (
  kc (ok_get (T := TX0) (k := 1) dX0_marry_11 rfl hin_X0 (by decide) hw_84) (
  kc (ok_iload_n dX0_marry_14 rfl) (
  kc (ok_iaload dX0_marry_15) (
  kc (ok_iload_n dX0_marry_16 rfl) (
  kc (ok_cm_ne dX0_marry_17 (by decide)) (
  kc (ok_aload_n dX0_marry_20 rfl) (
  kc (ok_get (T := TX0) (k := 1) dX0_marry_21 rfl hin_X0 (by decide) hw_84) (
  kc (ok_iload_n dX0_marry_24 rfl) (
  kc (ok_iload_n dX0_marry_25 rfl) (
  kc (ok_iastore dX0_marry_26) (
  kc (ok_iinc dX0_marry_27 (by decide)) (
  kc (ok_goto dX0_marry_30 (by decide)) (
  kc (ok_iconst dX0_marry_33 (by decide)) (
  kc (ok_istore_n dX0_marry_34 rfl) (
  kc (ok_iload_n dX0_marry_35 rfl) (
  kc (ok_aload_n dX0_marry_36 rfl) (
  kc (ok_get (T := TX0) (k := 5) dX0_marry_37 rfl hin_X0 (by decide) hw_95) (
  kc (ok_cm_ge dX0_marry_40 (by decide)) (
  kc (ok_aload_n dX0_marry_43 rfl) (
  kc (ok_iload_n dX0_marry_44 rfl) (
  kc (ok_bipush dX0_marry_45 (by decide)) (
  kc (ok_iload_n dX0_marry_47 rfl) (
  kc (ok_iadd dX0_marry_48) (
  kc (ok_bipush dX0_marry_49 (by decide)) (
  kc (ok_iload_n dX0_marry_51 rfl) (
  kc (ok_iadd dX0_marry_52) (
  kc (ok_callV (T := TX0) dX0_marry_53 qm_9 rfl rfl rfl hw_418 hw_420 hw_7 qp_9) (
  kc (ok_iinc dX0_marry_56 (by decide)) (
  kc (ok_goto dX0_marry_59 (by decide)) (
  kc (ok_aload_n dX0_marry_62 rfl) (
  kc (ok_callV (T := TX0) dX0_marry_63 qm_5 rfl rfl rfl hw_298 hw_255 hw_256 qp_5) (
  kc (ok_retI dX0_marry_66 rfl) (
  kn)))))))))))))))))))))))))))))))))))))))
def cd_X0_addThing : List (Nat × qOp) := [
  (0, oLdA 0 1),
  (1, oGet 0 4 4),
  (4, oStI 2 5),
  (5, oLdA 0 6),
  (6, oGet 0 1 9),
  (9, oLdI 2 10),
  (10, oLdI 1 11),
  (11, oASt 12),
  (12, oLdA 0 13),
  (13, oDup 14),
  (14, oGet 0 4 17),
  (17, oI (1) 18),
  (18, oBin (fun x y => x + y) 19),
  (19, oPutI 0 4 22),
  (22, oLdI 2 23),
  (23, oRetI)]
set_option maxRecDepth 100000 in
theorem ck_X0_addThing {ini : Bool} : ∀ x ∈ cd_X0_addThing, OpOK qMT cX0_addThing RX0 3 (some .int) ini 0 0 none x.1 x.2 :=
  kc (ok_aload_n dX0_addThing_0 rfl) (
  kc (ok_get (T := TX0) (k := 4) dX0_addThing_1 rfl hin_X0 (by decide) hw_92) (
  kc (ok_istore_n dX0_addThing_4 rfl) (
  kc (ok_aload_n dX0_addThing_5 rfl) (
  kc (ok_get (T := TX0) (k := 1) dX0_addThing_6 rfl hin_X0 (by decide) hw_84) (
  kc (ok_iload_n dX0_addThing_9 rfl) (
  kc (ok_iload_n dX0_addThing_10 rfl) (
  kc (ok_iastore dX0_addThing_11) (
  kc (ok_aload_n dX0_addThing_12 rfl) (
  kc (ok_dup dX0_addThing_13) (
  kc (ok_get (T := TX0) (k := 4) dX0_addThing_14 rfl hin_X0 (by decide) hw_92) (
  kc (ok_iconst dX0_addThing_17 (by decide)) (
  kc (ok_iadd dX0_addThing_18) (
  kc (ok_putI (T := TX0) (k := 4) dX0_addThing_19 rfl hin_X0 tyX0_ok nmX0 (by decide) hw_92 rfl (tyX0_ok 4 (by decide))) (
  kc (ok_iload_n dX0_addThing_22 rfl) (
  kc (ok_retI dX0_addThing_23 rfl) (
  kn))))))))))))))))
def cd_X0_split : List (Nat × qOp) := [
  (0, oLdA 0 1),
  (1, oLdA 0 2),
  (2, oGet 0 1 5),
  (5, oLdI 1 6),
  (6, oALd 7),
  (7, oCallV 11 0 1 0 0 0 0 10),
  (10, oStI 3 11),
  (11, oI (0) 12),
  (12, oStI 4 14),
  (14, oLdI 4 16),
  (16, oLdA 0 17),
  (17, oGet 0 5 20),
  (20, oCmGe 56 23),
  (23, oLdI 2 24),
  (24, oLdI 4 26),
  (26, oBin (fun x y => x >>> (y &&& 31)) 27),
  (27, oI (1) 28),
  (28, oBin (fun x y => x &&& y) 29),
  (29, oI (1) 30),
  (30, oCmNe 50 33),
  (33, oLdA 0 34),
  (34, oLdI 4 36),
  (36, oCallV 2 0 1 0 0 0 0 39),
  (39, oIfNe 50 42),
  (42, oLdA 0 43),
  (43, oLdI 4 45),
  (45, oLdI 1 46),
  (46, oLdI 3 47),
  (47, oCallV 9 0 3 0 0 0 0 50),
  (50, oInc 4 (1) 53),
  (53, oGoto 14),
  (56, oLdA 0 57),
  (57, oCallV 5 0 0 0 0 0 0 60),
  (60, oPop 61),
  (61, oLdI 3 62),
  (62, oRetI)]
set_option maxRecDepth 100000 in
theorem ck_X0_split {ini : Bool} : ∀ x ∈ cd_X0_split, OpOK qMT cX0_split RX0 5 (some .int) ini 0 0 none x.1 x.2 :=
  kc (ok_aload_n dX0_split_0 rfl) (
  kc (ok_aload_n dX0_split_1 rfl) (
  kc (ok_get (T := TX0) (k := 1) dX0_split_2 rfl hin_X0 (by decide) hw_84) (
  kc (ok_iload_n dX0_split_5 rfl) (
  kc (ok_iaload dX0_split_6) (
  kc (ok_callV (T := TX0) dX0_split_7 qm_11 rfl rfl rfl hw_456 hw_275 hw_276 qp_11) (
  kc (ok_istore_n dX0_split_10 rfl) (
  kc (ok_iconst dX0_split_11 (by decide)) (
  kc (ok_istore dX0_split_12) (
  kc (ok_iload dX0_split_14) (
  kc (ok_aload_n dX0_split_16 rfl) (
  kc (ok_get (T := TX0) (k := 5) dX0_split_17 rfl hin_X0 (by decide) hw_95) (
  kc (ok_cm_ge dX0_split_20 (by decide)) (
  kc (ok_iload_n dX0_split_23 rfl) (
  kc (ok_iload dX0_split_24) (
  kc (ok_ishr dX0_split_26) (
  kc (ok_iconst dX0_split_27 (by decide)) (
  kc (ok_iand dX0_split_28) (
  kc (ok_iconst dX0_split_29 (by decide)) (
  kc (ok_cm_ne dX0_split_30 (by decide)) (
  kc (ok_aload_n dX0_split_33 rfl) (
  kc (ok_iload dX0_split_34) (
  kc (ok_callV (T := TX0) dX0_split_36 qm_2 rfl rfl rfl hw_262 hw_263 hw_264 qp_2) (
  kc (ok_if_ne dX0_split_39 (by decide)) (
  kc (ok_aload_n dX0_split_42 rfl) (
  kc (ok_iload dX0_split_43) (
  kc (ok_iload_n dX0_split_45 rfl) (
  kc (ok_iload_n dX0_split_46 rfl) (
  kc (ok_callV (T := TX0) dX0_split_47 qm_9 rfl rfl rfl hw_418 hw_420 hw_7 qp_9) (
  kc (ok_iinc dX0_split_50 (by decide)) (
  kc (ok_goto dX0_split_53 (by decide)) (
  kc (ok_aload_n dX0_split_56 rfl) (
  kc (ok_callV (T := TX0) dX0_split_57 qm_5 rfl rfl rfl hw_298 hw_255 hw_256 qp_5) (
  kc (ok_pop dX0_split_60) (
  kc (ok_iload_n dX0_split_61 rfl) (
  kc (ok_retI dX0_split_62 rfl) (
  kn))))))))))))))))))))))))))))))))))))
def cd_X0_countStood : List (Nat × qOp) := [
  (0, oI (0) 1),
  (1, oStI 2 2),
  (2, oI (0) 3),
  (3, oStI 3 4),
  (4, oLdI 3 5),
  (5, oLdA 0 6),
  (6, oGet 0 5 9),
  (9, oCmGe 57 12),
  (12, oLdA 0 13),
  (13, oLdI 3 14),
  (14, oCallV 2 0 1 0 0 0 0 17),
  (17, oIfNe 51 20),
  (20, oLdA 0 21),
  (21, oLdA 0 22),
  (22, oGet 0 2 25),
  (25, oLdI 3 26),
  (26, oALd 27),
  (27, oCallV 3 0 1 0 0 0 0 30),
  (30, oLdI 1 31),
  (31, oCmEq 48 34),
  (34, oLdA 0 35),
  (35, oLdA 0 36),
  (36, oGet 0 3 39),
  (39, oLdI 3 40),
  (40, oALd 41),
  (41, oCallV 3 0 1 0 0 0 0 44),
  (44, oLdI 1 45),
  (45, oCmNe 51 48),
  (48, oInc 2 (1) 51),
  (51, oInc 3 (1) 54),
  (54, oGoto 4),
  (57, oLdI 2 58),
  (58, oRetI)]
set_option maxRecDepth 100000 in
theorem ck_X0_countStood {ini : Bool} : ∀ x ∈ cd_X0_countStood, OpOK qMT cX0_countStood RX0 4 (some .int) ini 0 0 none x.1 x.2 :=
  kc (ok_iconst dX0_countStood_0 (by decide)) (
  kc (ok_istore_n dX0_countStood_1 rfl) (
  kc (ok_iconst dX0_countStood_2 (by decide)) (
  kc (ok_istore_n dX0_countStood_3 rfl) (
  kc (ok_iload_n dX0_countStood_4 rfl) (
  kc (ok_aload_n dX0_countStood_5 rfl) (
  kc (ok_get (T := TX0) (k := 5) dX0_countStood_6 rfl hin_X0 (by decide) hw_95) (
  kc (ok_cm_ge dX0_countStood_9 (by decide)) (
  kc (ok_aload_n dX0_countStood_12 rfl) (
  kc (ok_iload_n dX0_countStood_13 rfl) (
  kc (ok_callV (T := TX0) dX0_countStood_14 qm_2 rfl rfl rfl hw_262 hw_263 hw_264 qp_2) (
  kc (ok_if_ne dX0_countStood_17 (by decide)) (
  kc (ok_aload_n dX0_countStood_20 rfl) (
  kc (ok_aload_n dX0_countStood_21 rfl) (
  kc (ok_get (T := TX0) (k := 2) dX0_countStood_22 rfl hin_X0 (by decide) hw_88) (
  kc (ok_iload_n dX0_countStood_25 rfl) (
  kc (ok_iaload dX0_countStood_26) (
  kc (ok_callV (T := TX0) dX0_countStood_27 qm_3 rfl rfl rfl hw_258 hw_259 hw_260 qp_3) (
  kc (ok_iload_n dX0_countStood_30 rfl) (
  kc (ok_cm_eq dX0_countStood_31 (by decide)) (
  kc (ok_aload_n dX0_countStood_34 rfl) (
  kc (ok_aload_n dX0_countStood_35 rfl) (
  kc (ok_get (T := TX0) (k := 3) dX0_countStood_36 rfl hin_X0 (by decide) hw_90) (
  kc (ok_iload_n dX0_countStood_39 rfl) (
  kc (ok_iaload dX0_countStood_40) (
  kc (ok_callV (T := TX0) dX0_countStood_41 qm_3 rfl rfl rfl hw_258 hw_259 hw_260 qp_3) (
  kc (ok_iload_n dX0_countStood_44 rfl) (
  kc (ok_cm_ne dX0_countStood_45 (by decide)) (
  kc (ok_iinc dX0_countStood_48 (by decide)) (
  kc (ok_iinc dX0_countStood_51 (by decide)) (
  kc (ok_goto dX0_countStood_54 (by decide)) (
  kc (ok_iload_n dX0_countStood_57 rfl) (
  kc (ok_retI dX0_countStood_58 rfl) (
  kn)))))))))))))))))))))))))))))))))
def cd_X0_costOfAll : List (Nat × qOp) := [
  (0, oI (0) 1),
  (1, oStI 2 2),
  (2, oI (0) 3),
  (3, oStI 3 4),
  (4, oLdI 3 5),
  (5, oLdA 0 6),
  (6, oGet 0 5 9),
  (9, oCmGe 58 12),
  (12, oLdA 0 13),
  (13, oLdI 3 14),
  (14, oCallV 2 0 1 0 0 0 0 17),
  (17, oIfNe 52 20),
  (20, oLdI 2 21),
  (21, oLdA 0 22),
  (22, oLdA 0 23),
  (23, oGet 0 2 26),
  (26, oLdI 3 27),
  (27, oALd 28),
  (28, oCallV 3 0 1 0 0 0 0 31),
  (31, oLdA 1 32),
  (32, oCallS 15 2 0 0 0 0 35),
  (35, oLdA 0 36),
  (36, oLdA 0 37),
  (37, oGet 0 3 40),
  (40, oLdI 3 41),
  (41, oALd 42),
  (42, oCallV 3 0 1 0 0 0 0 45),
  (45, oLdA 1 46),
  (46, oCallS 15 2 0 0 0 0 49),
  (49, oBin (fun x y => x + y) 50),
  (50, oBin (fun x y => x + y) 51),
  (51, oStI 2 52),
  (52, oInc 3 (1) 55),
  (55, oGoto 4),
  (58, oLdI 2 59),
  (59, oRetI)]
set_option maxRecDepth 100000 in
theorem ck_X0_costOfAll {ini : Bool} : ∀ x ∈ cd_X0_costOfAll, OpOK qMT cX0_costOfAll RX0 4 (some .int) ini 0 0 none x.1 x.2 :=
  kc (ok_iconst dX0_costOfAll_0 (by decide)) (
  kc (ok_istore_n dX0_costOfAll_1 rfl) (
  kc (ok_iconst dX0_costOfAll_2 (by decide)) (
  kc (ok_istore_n dX0_costOfAll_3 rfl) (
  kc (ok_iload_n dX0_costOfAll_4 rfl) (
  kc (ok_aload_n dX0_costOfAll_5 rfl) (
  kc (ok_get (T := TX0) (k := 5) dX0_costOfAll_6 rfl hin_X0 (by decide) hw_95) (
  kc (ok_cm_ge dX0_costOfAll_9 (by decide)) (
  kc (ok_aload_n dX0_costOfAll_12 rfl) (
  kc (ok_iload_n dX0_costOfAll_13 rfl) (
  kc (ok_callV (T := TX0) dX0_costOfAll_14 qm_2 rfl rfl rfl hw_262 hw_263 hw_264 qp_2) (
  kc (ok_if_ne dX0_costOfAll_17 (by decide)) (
  kc (ok_iload_n dX0_costOfAll_20 rfl) (
  kc (ok_aload_n dX0_costOfAll_21 rfl) (
  kc (ok_aload_n dX0_costOfAll_22 rfl) (
  kc (ok_get (T := TX0) (k := 2) dX0_costOfAll_23 rfl hin_X0 (by decide) hw_88) (
  kc (ok_iload_n dX0_costOfAll_26 rfl) (
  kc (ok_iaload dX0_costOfAll_27) (
  kc (ok_callV (T := TX0) dX0_costOfAll_28 qm_3 rfl rfl rfl hw_258 hw_259 hw_260 qp_3) (
  kc (ok_aload_n dX0_costOfAll_31 rfl) (
  kc (ok_callS dX0_costOfAll_32 qm_15 rfl rfl hw_396 hw_397 qp_15) (
  kc (ok_aload_n dX0_costOfAll_35 rfl) (
  kc (ok_aload_n dX0_costOfAll_36 rfl) (
  kc (ok_get (T := TX0) (k := 3) dX0_costOfAll_37 rfl hin_X0 (by decide) hw_90) (
  kc (ok_iload_n dX0_costOfAll_40 rfl) (
  kc (ok_iaload dX0_costOfAll_41) (
  kc (ok_callV (T := TX0) dX0_costOfAll_42 qm_3 rfl rfl rfl hw_258 hw_259 hw_260 qp_3) (
  kc (ok_aload_n dX0_costOfAll_45 rfl) (
  kc (ok_callS dX0_costOfAll_46 qm_15 rfl rfl hw_396 hw_397 qp_15) (
  kc (ok_iadd dX0_costOfAll_49) (
  kc (ok_iadd dX0_costOfAll_50) (
  kc (ok_istore_n dX0_costOfAll_51 rfl) (
  kc (ok_iinc dX0_costOfAll_52 (by decide)) (
  kc (ok_goto dX0_costOfAll_55 (by decide)) (
  kc (ok_iload_n dX0_costOfAll_58 rfl) (
  kc (ok_retI dX0_costOfAll_59 rfl) (
  kn))))))))))))))))))))))))))))))))))))
def cd_X0_costTo : List (Nat × qOp) := [
  (0, oLdI 0 1),
  (1, oI (6) 3),
  (3, oCmNe 10 6),
  (6, oI (0) 7),
  (7, oGoto 13),
  (10, oLdA 1 11),
  (11, oLdI 0 12),
  (12, oALd 13),
  (13, oRetI)]
set_option maxRecDepth 100000 in
theorem ck_X0_costTo {ini : Bool} : ∀ x ∈ cd_X0_costTo, OpOK qMT cX0_costTo RX0 2 (some .int) ini 0 0 none x.1 x.2 :=
  kc (ok_iload_n dX0_costTo_0 rfl) (
  kc (ok_bipush dX0_costTo_1 (by decide)) (
  kc (ok_cm_ne dX0_costTo_3 (by decide)) (
  kc (ok_iconst dX0_costTo_6 (by decide)) (
  kc (ok_goto dX0_costTo_7 (by decide)) (
  kc (ok_aload_n dX0_costTo_10 rfl) (
  kc (ok_iload_n dX0_costTo_11 rfl) (
  kc (ok_iaload dX0_costTo_12) (
  kc (ok_retI dX0_costTo_13 rfl) (
  kn)))))))))
def cd_X0_neverEnding : List (Nat × qOp) := [
  (0, oI (0) 1),
  (1, oStI 1 2),
  (2, oI (0) 3),
  (3, oStI 2 4),
  (4, oLdI 2 5),
  (5, oLdA 0 6),
  (6, oGet 0 5 9),
  (9, oCmGe 54 12),
  (12, oLdA 0 13),
  (13, oLdI 2 14),
  (14, oCallV 2 0 1 0 0 0 0 17),
  (17, oIfNe 48 20),
  (20, oLdA 0 21),
  (21, oGet 0 2 24),
  (24, oLdI 2 25),
  (25, oALd 26),
  (26, oI (10) 28),
  (28, oCmLt 48 31),
  (31, oLdA 0 32),
  (32, oGet 0 3 35),
  (35, oLdI 2 36),
  (36, oALd 37),
  (37, oI (10) 39),
  (39, oCmLt 48 42),
  (42, oLdI 1 43),
  (43, oI (1) 44),
  (44, oLdI 2 45),
  (45, oBin (fun x y => x <<< (y &&& 31)) 46),
  (46, oBin (fun x y => x ||| y) 47),
  (47, oStI 1 48),
  (48, oInc 2 (1) 51),
  (51, oGoto 4),
  (54, oLdI 1 55),
  (55, oRetI)]
set_option maxRecDepth 100000 in
theorem ck_X0_neverEnding {ini : Bool} : ∀ x ∈ cd_X0_neverEnding, OpOK qMT cX0_neverEnding RX0 3 (some .int) ini 0 0 none x.1 x.2 :=
  kc (ok_iconst dX0_neverEnding_0 (by decide)) (
  kc (ok_istore_n dX0_neverEnding_1 rfl) (
  kc (ok_iconst dX0_neverEnding_2 (by decide)) (
  kc (ok_istore_n dX0_neverEnding_3 rfl) (
  kc (ok_iload_n dX0_neverEnding_4 rfl) (
  kc (ok_aload_n dX0_neverEnding_5 rfl) (
  kc (ok_get (T := TX0) (k := 5) dX0_neverEnding_6 rfl hin_X0 (by decide) hw_95) (
  kc (ok_cm_ge dX0_neverEnding_9 (by decide)) (
  kc (ok_aload_n dX0_neverEnding_12 rfl) (
  kc (ok_iload_n dX0_neverEnding_13 rfl) (
  kc (ok_callV (T := TX0) dX0_neverEnding_14 qm_2 rfl rfl rfl hw_262 hw_263 hw_264 qp_2) (
  kc (ok_if_ne dX0_neverEnding_17 (by decide)) (
  kc (ok_aload_n dX0_neverEnding_20 rfl) (
  kc (ok_get (T := TX0) (k := 2) dX0_neverEnding_21 rfl hin_X0 (by decide) hw_88) (
  kc (ok_iload_n dX0_neverEnding_24 rfl) (
  kc (ok_iaload dX0_neverEnding_25) (
  kc (ok_bipush dX0_neverEnding_26 (by decide)) (
  kc (ok_cm_lt dX0_neverEnding_28 (by decide)) (
  kc (ok_aload_n dX0_neverEnding_31 rfl) (
  kc (ok_get (T := TX0) (k := 3) dX0_neverEnding_32 rfl hin_X0 (by decide) hw_90) (
  kc (ok_iload_n dX0_neverEnding_35 rfl) (
  kc (ok_iaload dX0_neverEnding_36) (
  kc (ok_bipush dX0_neverEnding_37 (by decide)) (
  kc (ok_cm_lt dX0_neverEnding_39 (by decide)) (
  kc (ok_iload_n dX0_neverEnding_42 rfl) (
  kc (ok_iconst dX0_neverEnding_43 (by decide)) (
  kc (ok_iload_n dX0_neverEnding_44 rfl) (
  kc (ok_ishl dX0_neverEnding_45) (
  kc (ok_ior dX0_neverEnding_46) (
  kc (ok_istore_n dX0_neverEnding_47 rfl) (
  kc (ok_iinc dX0_neverEnding_48 (by decide)) (
  kc (ok_goto dX0_neverEnding_51 (by decide)) (
  kc (ok_iload_n dX0_neverEnding_54 rfl) (
  kc (ok_retI dX0_neverEnding_55 rfl) (
  kn))))))))))))))))))))))))))))))))))
def cd_X0_sidesOf : List (Nat × qOp) := [
  (0, oI (1) 1),
  (1, oLdA 0 2),
  (2, oGet 0 2 5),
  (5, oLdI 1 6),
  (6, oALd 7),
  (7, oBin (fun x y => x <<< (y &&& 31)) 8),
  (8, oI (1) 9),
  (9, oLdA 0 10),
  (10, oGet 0 3 13),
  (13, oLdI 1 14),
  (14, oALd 15),
  (15, oBin (fun x y => x <<< (y &&& 31)) 16),
  (16, oBin (fun x y => x ||| y) 17),
  (17, oRetI)]
set_option maxRecDepth 100000 in
theorem ck_X0_sidesOf {ini : Bool} : ∀ x ∈ cd_X0_sidesOf, OpOK qMT cX0_sidesOf RX0 2 (some .int) ini 0 0 none x.1 x.2 :=
  kc (ok_iconst dX0_sidesOf_0 (by decide)) (
  kc (ok_aload_n dX0_sidesOf_1 rfl) (
  kc (ok_get (T := TX0) (k := 2) dX0_sidesOf_2 rfl hin_X0 (by decide) hw_88) (
  kc (ok_iload_n dX0_sidesOf_5 rfl) (
  kc (ok_iaload dX0_sidesOf_6) (
  kc (ok_ishl dX0_sidesOf_7) (
  kc (ok_iconst dX0_sidesOf_8 (by decide)) (
  kc (ok_aload_n dX0_sidesOf_9 rfl) (
  kc (ok_get (T := TX0) (k := 3) dX0_sidesOf_10 rfl hin_X0 (by decide) hw_90) (
  kc (ok_iload_n dX0_sidesOf_13 rfl) (
  kc (ok_iaload dX0_sidesOf_14) (
  kc (ok_ishl dX0_sidesOf_15) (
  kc (ok_ior dX0_sidesOf_16) (
  kc (ok_retI dX0_sidesOf_17 rfl) (
  kn))))))))))))))
def cd_X0_groupOf : List (Nat × qOp) := [
  (0, oI (1) 1),
  (1, oLdI 1 2),
  (2, oBin (fun x y => x <<< (y &&& 31)) 3),
  (3, oStI 2 4),
  (4, oI (0) 5),
  (5, oStI 3 6),
  (6, oLdI 3 7),
  (7, oLdA 0 8),
  (8, oGet 0 5 11),
  (11, oCmGe 38 14),
  (14, oLdA 0 15),
  (15, oLdI 2 16),
  (16, oCallV 19 0 1 0 0 0 0 19),
  (19, oStI 4 21),
  (21, oLdI 4 23),
  (23, oLdI 2 24),
  (24, oCmNe 29 27),
  (27, oLdI 2 28),
  (28, oRetI),
  (29, oLdI 4 31),
  (31, oStI 2 32),
  (32, oInc 3 (1) 35),
  (35, oGoto 6),
  (38, oLdI 2 39),
  (39, oRetI)]
set_option maxRecDepth 100000 in
theorem ck_X0_groupOf {ini : Bool} : ∀ x ∈ cd_X0_groupOf, OpOK qMT cX0_groupOf RX0 5 (some .int) ini 0 0 none x.1 x.2 :=
  kc (ok_iconst dX0_groupOf_0 (by decide)) (
  kc (ok_iload_n dX0_groupOf_1 rfl) (
  kc (ok_ishl dX0_groupOf_2) (
  kc (ok_istore_n dX0_groupOf_3 rfl) (
  kc (ok_iconst dX0_groupOf_4 (by decide)) (
  kc (ok_istore_n dX0_groupOf_5 rfl) (
  kc (ok_iload_n dX0_groupOf_6 rfl) (
  kc (ok_aload_n dX0_groupOf_7 rfl) (
  kc (ok_get (T := TX0) (k := 5) dX0_groupOf_8 rfl hin_X0 (by decide) hw_95) (
  kc (ok_cm_ge dX0_groupOf_11 (by decide)) (
  kc (ok_aload_n dX0_groupOf_14 rfl) (
  kc (ok_iload_n dX0_groupOf_15 rfl) (
  kc (ok_callV (T := TX0) dX0_groupOf_16 qm_19 rfl rfl rfl hw_507 hw_509 hw_11 qp_19) (
  kc (ok_istore dX0_groupOf_19) (
  kc (ok_iload dX0_groupOf_21) (
  kc (ok_iload_n dX0_groupOf_23 rfl) (
  kc (ok_cm_ne dX0_groupOf_24 (by decide)) (
  kc (ok_iload_n dX0_groupOf_27 rfl) (
  kc (ok_retI dX0_groupOf_28 rfl) (
  kc (ok_iload dX0_groupOf_29) (
  kc (ok_istore_n dX0_groupOf_31 rfl) (
  kc (ok_iinc dX0_groupOf_32 (by decide)) (
  kc (ok_goto dX0_groupOf_35 (by decide)) (
  kc (ok_iload_n dX0_groupOf_38 rfl) (
  kc (ok_retI dX0_groupOf_39 rfl) (
  kn)))))))))))))))))))))))))
def cd_X0_widen : List (Nat × qOp) := [
  (0, oI (0) 1),
  (1, oStI 2 2),
  (2, oLdI 2 3),
  (3, oLdA 0 4),
  (4, oGet 0 5 7),
  (7, oCmGe 42 10),
  (10, oLdA 0 11),
  (11, oLdI 2 12),
  (12, oCallV 2 0 1 0 0 0 0 15),
  (15, oIfNe 36 18),
  (18, oLdI 1 19),
  (19, oLdA 0 20),
  (20, oLdI 2 21),
  (21, oCallV 17 0 1 0 0 0 0 24),
  (24, oBin (fun x y => x &&& y) 25),
  (25, oIfEq 36 28),
  (28, oLdI 1 29),
  (29, oLdA 0 30),
  (30, oLdI 2 31),
  (31, oCallV 17 0 1 0 0 0 0 34),
  (34, oBin (fun x y => x ||| y) 35),
  (35, oStI 1 36),
  (36, oInc 2 (1) 39),
  (39, oGoto 2),
  (42, oLdI 1 43),
  (43, oRetI)]
set_option maxRecDepth 100000 in
theorem ck_X0_widen {ini : Bool} : ∀ x ∈ cd_X0_widen, OpOK qMT cX0_widen RX0 3 (some .int) ini 0 0 none x.1 x.2 :=
  kc (ok_iconst dX0_widen_0 (by decide)) (
  kc (ok_istore_n dX0_widen_1 rfl) (
  kc (ok_iload_n dX0_widen_2 rfl) (
  kc (ok_aload_n dX0_widen_3 rfl) (
  kc (ok_get (T := TX0) (k := 5) dX0_widen_4 rfl hin_X0 (by decide) hw_95) (
  kc (ok_cm_ge dX0_widen_7 (by decide)) (
  kc (ok_aload_n dX0_widen_10 rfl) (
  kc (ok_iload_n dX0_widen_11 rfl) (
  kc (ok_callV (T := TX0) dX0_widen_12 qm_2 rfl rfl rfl hw_262 hw_263 hw_264 qp_2) (
  kc (ok_if_ne dX0_widen_15 (by decide)) (
  kc (ok_iload_n dX0_widen_18 rfl) (
  kc (ok_aload_n dX0_widen_19 rfl) (
  kc (ok_iload_n dX0_widen_20 rfl) (
  kc (ok_callV (T := TX0) dX0_widen_21 qm_17 rfl rfl rfl hw_499 hw_500 hw_501 qp_17) (
  kc (ok_iand dX0_widen_24) (
  kc (ok_if_eq dX0_widen_25 (by decide)) (
  kc (ok_iload_n dX0_widen_28 rfl) (
  kc (ok_aload_n dX0_widen_29 rfl) (
  kc (ok_iload_n dX0_widen_30 rfl) (
  kc (ok_callV (T := TX0) dX0_widen_31 qm_17 rfl rfl rfl hw_499 hw_500 hw_501 qp_17) (
  kc (ok_ior dX0_widen_34) (
  kc (ok_istore_n dX0_widen_35 rfl) (
  kc (ok_iinc dX0_widen_36 (by decide)) (
  kc (ok_goto dX0_widen_39 (by decide)) (
  kc (ok_iload_n dX0_widen_42 rfl) (
  kc (ok_retI dX0_widen_43 rfl) (
  kn))))))))))))))))))))))))))
def cd_X0_countGroups : List (Nat × qOp) := [
  (0, oI (0) 1),
  (1, oStI 1 2),
  (2, oI (0) 3),
  (3, oStI 2 4),
  (4, oI (0) 5),
  (5, oStI 3 6),
  (6, oLdI 3 7),
  (7, oLdA 0 8),
  (8, oGet 0 5 11),
  (11, oCmGe 54 14),
  (14, oLdA 0 15),
  (15, oLdI 3 16),
  (16, oCallV 2 0 1 0 0 0 0 19),
  (19, oIfNe 48 22),
  (22, oLdI 2 23),
  (23, oLdA 0 24),
  (24, oLdI 3 25),
  (25, oCallV 17 0 1 0 0 0 0 28),
  (28, oBin (fun x y => x &&& y) 29),
  (29, oIfNe 48 32),
  (32, oLdI 2 33),
  (33, oLdA 0 34),
  (34, oLdA 0 35),
  (35, oGet 0 2 38),
  (38, oLdI 3 39),
  (39, oALd 40),
  (40, oCallV 18 0 1 0 0 0 0 43),
  (43, oBin (fun x y => x ||| y) 44),
  (44, oStI 2 45),
  (45, oInc 1 (1) 48),
  (48, oInc 3 (1) 51),
  (51, oGoto 6),
  (54, oLdI 1 55),
  (55, oRetI)]
set_option maxRecDepth 100000 in
theorem ck_X0_countGroups {ini : Bool} : ∀ x ∈ cd_X0_countGroups, OpOK qMT cX0_countGroups RX0 4 (some .int) ini 0 0 none x.1 x.2 :=
  kc (ok_iconst dX0_countGroups_0 (by decide)) (
  kc (ok_istore_n dX0_countGroups_1 rfl) (
  kc (ok_iconst dX0_countGroups_2 (by decide)) (
  kc (ok_istore_n dX0_countGroups_3 rfl) (
  kc (ok_iconst dX0_countGroups_4 (by decide)) (
  kc (ok_istore_n dX0_countGroups_5 rfl) (
  kc (ok_iload_n dX0_countGroups_6 rfl) (
  kc (ok_aload_n dX0_countGroups_7 rfl) (
  kc (ok_get (T := TX0) (k := 5) dX0_countGroups_8 rfl hin_X0 (by decide) hw_95) (
  kc (ok_cm_ge dX0_countGroups_11 (by decide)) (
  kc (ok_aload_n dX0_countGroups_14 rfl) (
  kc (ok_iload_n dX0_countGroups_15 rfl) (
  kc (ok_callV (T := TX0) dX0_countGroups_16 qm_2 rfl rfl rfl hw_262 hw_263 hw_264 qp_2) (
  kc (ok_if_ne dX0_countGroups_19 (by decide)) (
  kc (ok_iload_n dX0_countGroups_22 rfl) (
  kc (ok_aload_n dX0_countGroups_23 rfl) (
  kc (ok_iload_n dX0_countGroups_24 rfl) (
  kc (ok_callV (T := TX0) dX0_countGroups_25 qm_17 rfl rfl rfl hw_499 hw_500 hw_501 qp_17) (
  kc (ok_iand dX0_countGroups_28) (
  kc (ok_if_ne dX0_countGroups_29 (by decide)) (
  kc (ok_iload_n dX0_countGroups_32 rfl) (
  kc (ok_aload_n dX0_countGroups_33 rfl) (
  kc (ok_aload_n dX0_countGroups_34 rfl) (
  kc (ok_get (T := TX0) (k := 2) dX0_countGroups_35 rfl hin_X0 (by decide) hw_88) (
  kc (ok_iload_n dX0_countGroups_38 rfl) (
  kc (ok_iaload dX0_countGroups_39) (
  kc (ok_callV (T := TX0) dX0_countGroups_40 qm_18 rfl rfl rfl hw_503 hw_504 hw_505 qp_18) (
  kc (ok_ior dX0_countGroups_43) (
  kc (ok_istore_n dX0_countGroups_44 rfl) (
  kc (ok_iinc dX0_countGroups_45 (by decide)) (
  kc (ok_iinc dX0_countGroups_48 (by decide)) (
  kc (ok_goto dX0_countGroups_51 (by decide)) (
  kc (ok_iload_n dX0_countGroups_54 rfl) (
  kc (ok_retI dX0_countGroups_55 rfl) (
  kn))))))))))))))))))))))))))))))))))
def cd_X1_init : List (Nat × qOp) := [
  (0, oLdA 0 1),
  (1, oObj 4),
  (4, oLdA 0 5),
  (5, oI (4) 6),
  (6, oNewR 0 23 174 9),
  (9, oPutF 1 0 12),
  (12, oLdA 0 13),
  (13, oI (3) 14),
  (14, oNewI 23 174 16),
  (16, oPutF 1 1 19),
  (19, oLdA 0 20),
  (20, oI (3) 21),
  (21, oNewI 23 174 23),
  (23, oPutF 1 2 26),
  (26, oLdA 0 27),
  (27, oI (0) 28),
  (28, oPutI 1 3 31),
  (31, oLdA 0 32),
  (32, oI (0) 33),
  (33, oPutI 1 4 36),
  (36, oI (0) 37),
  (37, oStI 1 38),
  (38, oLdI 1 39),
  (39, oLdA 0 40),
  (40, oGet 1 0 43),
  (43, oLen 44),
  (44, oCmGe 66 47),
  (47, oLdA 0 48),
  (48, oGet 1 0 51),
  (51, oLdI 1 52),
  (52, oNew 0 7 [some none, some none, some none, some none, none, none, none] 23 174 55),
  (55, oDup 56),
  (56, oCallI 0 0 4 34 23 174 59),
  (59, oAASt 60),
  (60, oInc 1 (1) 63),
  (63, oGoto 38),
  (66, oRetV)]
set_option maxRecDepth 100000 in
theorem ck_X1_init {ini : Bool} (hi : ini = true) : ∀ x ∈ cd_X1_init, OpOK qMT cX1_init RX1 2 none ini 23 174 none x.1 x.2 :=
  kc (ok_aload_n dX1_init_0 rfl) (
  kc (ok_objInit dX1_init_1 hw_147 hw_68 hw_69) (
  kc (ok_aload_n dX1_init_4 rfl) (
  kc (ok_iconst dX1_init_5 (by decide)) (
  kc (ok_newR dX1_init_6 hw_148 (Or.inl ⟨rfl, rfl⟩)) (
  kc (ok_putF (T := TX1) (k := 0) dX1_init_9 rfl hin_X1 tyX1_ok nmX1 (by decide) hw_151 rfl rfl hi (tyX1_ok 0 (by decide)) (fun _ => ⟨rfl, rfl⟩)) (
  kc (ok_aload_n dX1_init_12 rfl) (
  kc (ok_iconst dX1_init_13 (by decide)) (
  kc (ok_newI dX1_init_14 hw_118) (
  kc (ok_putF (T := TX1) (k := 1) dX1_init_16 rfl hin_X1 tyX1_ok nmX1 (by decide) hw_152 rfl rfl hi (tyX1_ok 1 (by decide)) (fun _ => ⟨rfl, rfl⟩)) (
  kc (ok_aload_n dX1_init_19 rfl) (
  kc (ok_iconst dX1_init_20 (by decide)) (
  kc (ok_newI dX1_init_21 hw_118) (
  kc (ok_putF (T := TX1) (k := 2) dX1_init_23 rfl hin_X1 tyX1_ok nmX1 (by decide) hw_153 rfl rfl hi (tyX1_ok 2 (by decide)) (fun _ => ⟨rfl, rfl⟩)) (
  kc (ok_aload_n dX1_init_26 rfl) (
  kc (ok_iconst dX1_init_27 (by decide)) (
  kc (ok_putI (T := TX1) (k := 3) dX1_init_28 rfl hin_X1 tyX1_ok nmX1 (by decide) hw_155 rfl (tyX1_ok 3 (by decide))) (
  kc (ok_aload_n dX1_init_31 rfl) (
  kc (ok_iconst dX1_init_32 (by decide)) (
  kc (ok_putI (T := TX1) (k := 4) dX1_init_33 rfl hin_X1 tyX1_ok nmX1 (by decide) hw_157 rfl (tyX1_ok 4 (by decide))) (
  kc (ok_iconst dX1_init_36 (by decide)) (
  kc (ok_istore_n dX1_init_37 rfl) (
  kc (ok_iload_n dX1_init_38 rfl) (
  kc (ok_aload_n dX1_init_39 rfl) (
  kc (ok_get (T := TX1) (k := 0) dX1_init_40 rfl hin_X1 (by decide) hw_151) (
  kc (ok_alen dX1_init_43) (
  kc (ok_cm_ge dX1_init_44 (by decide)) (
  kc (ok_aload_n dX1_init_47 rfl) (
  kc (ok_get (T := TX1) (k := 0) dX1_init_48 rfl hin_X1 (by decide) hw_151) (
  kc (ok_iload_n dX1_init_51 rfl) (
  kc (ok_new (T := TX0) dX1_init_52 rfl hin_X0 tyX0_ok hw_148 hw_77 hw_54 rfl (by decide +kernel) (by decide)) (
  kc (ok_dup dX1_init_55) (
  kc (ok_callIN dX1_init_56 qm_0 rfl rfl (List.mem_of_getElem? (i := 2) rfl) hw_79 rfl rfl qp_0) (
  kc (ok_aastore dX1_init_59) (
  kc (ok_iinc dX1_init_60 (by decide)) (
  kc (ok_goto dX1_init_63 (by decide)) (
  kc (ok_retV dX1_init_66 rfl) (
  kn)))))))))))))))))))))))))))))))))))))
def cd_X1_seekFewest : List (Nat × qOp) := [
  (0, oLdA 0 1),
  (1, oGet 1 0 4),
  (4, oI (0) 5),
  (5, oAALd 6),
  (6, oLdA 1 7),
  (7, oCallV 1 0 1 0 0 0 0 10),
  (10, oLdA 1 11),
  (11, oCallV 16 0 0 0 0 0 0 14),
  (14, oStI 2 15),
  (15, oI (0) 16),
  (16, oStI 3 17),
  (17, oLdI 3 18),
  (18, oI (3) 19),
  (19, oCmGt 45 22),
  (22, oLdA 0 23),
  (23, oI (0) 24),
  (24, oLdI 3 25),
  (25, oLdI 2 26),
  (26, oCallS 23 4 0 0 0 0 29),
  (29, oIfEq 39 32),
  (32, oLdA 0 33),
  (33, oLdI 3 34),
  (34, oCallV 30 1 1 0 0 0 0 37),
  (37, oLdI 3 38),
  (38, oRetI),
  (39, oInc 3 (1) 42),
  (42, oGoto 17),
  (45, oI (-4) 47),
  (47, oRetI)]
set_option maxRecDepth 100000 in
theorem ck_X1_seekFewest {ini : Bool} : ∀ x ∈ cd_X1_seekFewest, OpOK qMT cX1_seekFewest RX1 4 (some .int) ini 0 0 none x.1 x.2 :=
  kc (ok_aload_n dX1_seekFewest_0 rfl) (
  kc (ok_get (T := TX1) (k := 0) dX1_seekFewest_1 rfl hin_X1 (by decide) hw_151) (
  kc (ok_iconst dX1_seekFewest_4 (by decide)) (
  kc (ok_aaload dX1_seekFewest_5) (
  kc (ok_aload_n dX1_seekFewest_6 rfl) (
  kc (ok_callV (T := TX0) dX1_seekFewest_7 qm_1 rfl rfl rfl hw_528 hw_467 hw_468 qp_1) (
  kc (ok_aload_n dX1_seekFewest_10 rfl) (
  kc (ok_callV (T := TX0) dX1_seekFewest_11 qm_16 rfl rfl rfl hw_529 hw_517 hw_518 qp_16) (
  kc (ok_istore_n dX1_seekFewest_14 rfl) (
  kc (ok_iconst dX1_seekFewest_15 (by decide)) (
  kc (ok_istore_n dX1_seekFewest_16 rfl) (
  kc (ok_iload_n dX1_seekFewest_17 rfl) (
  kc (ok_iconst dX1_seekFewest_18 (by decide)) (
  kc (ok_cm_gt dX1_seekFewest_19 (by decide)) (
  kc (ok_aload_n dX1_seekFewest_22 rfl) (
  kc (ok_iconst dX1_seekFewest_23 (by decide)) (
  kc (ok_iload_n dX1_seekFewest_24 rfl) (
  kc (ok_iload_n dX1_seekFewest_25 rfl) (
  kc (ok_callS dX1_seekFewest_26 qm_23 rfl rfl hw_530 hw_531 qp_23) (
  kc (ok_if_eq dX1_seekFewest_29 (by decide)) (
  kc (ok_aload_n dX1_seekFewest_32 rfl) (
  kc (ok_iload_n dX1_seekFewest_33 rfl) (
  kc (ok_callV (T := TX1) dX1_seekFewest_34 qm_30 rfl rfl rfl hw_544 hw_546 hw_14 qp_30) (
  kc (ok_iload_n dX1_seekFewest_37 rfl) (
  kc (ok_retI dX1_seekFewest_38 rfl) (
  kc (ok_iinc dX1_seekFewest_39 (by decide)) (
  kc (ok_goto dX1_seekFewest_42 (by decide)) (
  kc (ok_bipush dX1_seekFewest_45 (by decide)) (
  kc (ok_retI dX1_seekFewest_47 rfl) (
  kn)))))))))))))))))))))))))))))
def cd_X1_endsAll : List (Nat × qOp) := [
  (0, oLdI 2 1),
  (1, oIfNe 37 4),
  (4, oLdA 0 5),
  (5, oGet 1 0 8),
  (8, oLdI 1 9),
  (9, oAALd 10),
  (10, oGet 0 6 13),
  (13, oLdI 3 14),
  (14, oBin (fun x y => x ||| y) 15),
  (15, oI (1) 16),
  (16, oLdA 0 17),
  (17, oGet 1 0 20),
  (20, oLdI 1 21),
  (21, oAALd 22),
  (22, oGet 0 5 25),
  (25, oBin (fun x y => x <<< (y &&& 31)) 26),
  (26, oI (1) 27),
  (27, oBin (fun x y => x - y) 28),
  (28, oCmNe 35 31),
  (31, oI (1) 32),
  (32, oGoto 36),
  (35, oI (0) 36),
  (36, oRetZ),
  (37, oLdA 0 38),
  (38, oLdI 1 39),
  (39, oLdI 2 40),
  (40, oLdI 3 41),
  (41, oCallV 24 1 3 0 0 0 0 44),
  (44, oStI 4 46),
  (46, oI (0) 47),
  (47, oStI 5 49),
  (49, oLdI 5 51),
  (51, oI (8) 53),
  (53, oCmGe 117 56),
  (56, oI (0) 57),
  (57, oStI 6 59),
  (59, oLdI 6 61),
  (61, oI (6) 63),
  (63, oCmGe 111 66),
  (66, oLdI 4 68),
  (68, oLdI 5 70),
  (70, oBin (fun x y => x >>> (y &&& 31)) 71),
  (71, oI (1) 72),
  (72, oBin (fun x y => x &&& y) 73),
  (73, oI (1) 74),
  (74, oCmNe 111 77),
  (77, oLdA 0 78),
  (78, oLdI 1 79),
  (79, oLdI 5 81),
  (81, oLdI 6 83),
  (83, oCallV 25 1 3 0 0 0 0 86),
  (86, oIfEq 105 89),
  (89, oLdA 0 90),
  (90, oLdI 1 91),
  (91, oI (1) 92),
  (92, oBin (fun x y => x + y) 93),
  (93, oLdI 2 94),
  (94, oI (1) 95),
  (95, oBin (fun x y => x - y) 96),
  (96, oLdI 3 97),
  (97, oCallS 23 4 0 0 0 0 100),
  (100, oIfEq 105 103),
  (103, oI (1) 104),
  (104, oRetZ),
  (105, oInc 6 (1) 108),
  (108, oGoto 59),
  (111, oInc 5 (1) 114),
  (114, oGoto 49),
  (117, oI (0) 118),
  (118, oRetZ)]
set_option maxRecDepth 100000 in
theorem ck_X1_endsAll {ini : Bool} : ∀ x ∈ cd_X1_endsAll, OpOK qMT cX1_endsAll RX1 7 (some .boolean) ini 0 0 none x.1 x.2 :=
  kc (ok_iload_n dX1_endsAll_0 rfl) (
  kc (ok_if_ne dX1_endsAll_1 (by decide)) (
  kc (ok_aload_n dX1_endsAll_4 rfl) (
  kc (ok_get (T := TX1) (k := 0) dX1_endsAll_5 rfl hin_X1 (by decide) hw_151) (
  kc (ok_iload_n dX1_endsAll_8 rfl) (
  kc (ok_aaload dX1_endsAll_9) (
  kc (ok_get (T := TX0) (k := 6) dX1_endsAll_10 rfl hin_X0 (by decide) hw_100) (
  kc (ok_iload_n dX1_endsAll_13 rfl) (
  kc (ok_ior dX1_endsAll_14) (
  kc (ok_iconst dX1_endsAll_15 (by decide)) (
  kc (ok_aload_n dX1_endsAll_16 rfl) (
  kc (ok_get (T := TX1) (k := 0) dX1_endsAll_17 rfl hin_X1 (by decide) hw_151) (
  kc (ok_iload_n dX1_endsAll_20 rfl) (
  kc (ok_aaload dX1_endsAll_21) (
  kc (ok_get (T := TX0) (k := 5) dX1_endsAll_22 rfl hin_X0 (by decide) hw_96) (
  kc (ok_ishl dX1_endsAll_25) (
  kc (ok_iconst dX1_endsAll_26 (by decide)) (
  kc (ok_isub dX1_endsAll_27) (
  kc (ok_cm_ne dX1_endsAll_28 (by decide)) (
  kc (ok_iconst dX1_endsAll_31 (by decide)) (
  kc (ok_goto dX1_endsAll_32 (by decide)) (
  kc (ok_iconst dX1_endsAll_35 (by decide)) (
  kc (ok_retZ dX1_endsAll_36 rfl) (
  kc (ok_aload_n dX1_endsAll_37 rfl) (
  kc (ok_iload_n dX1_endsAll_38 rfl) (
  kc (ok_iload_n dX1_endsAll_39 rfl) (
  kc (ok_iload_n dX1_endsAll_40 rfl) (
  kc (ok_callV (T := TX1) dX1_endsAll_41 qm_24 rfl rfl rfl hw_533 hw_535 hw_12 qp_24) (
  kc (ok_istore dX1_endsAll_44) (
  kc (ok_iconst dX1_endsAll_46 (by decide)) (
  kc (ok_istore dX1_endsAll_47) (
  kc (ok_iload dX1_endsAll_49) (
  kc (ok_bipush dX1_endsAll_51 (by decide)) (
  kc (ok_cm_ge dX1_endsAll_53 (by decide)) (
  kc (ok_iconst dX1_endsAll_56 (by decide)) (
  kc (ok_istore dX1_endsAll_57) (
  kc (ok_iload dX1_endsAll_59) (
  kc (ok_bipush dX1_endsAll_61 (by decide)) (
  kc (ok_cm_ge dX1_endsAll_63 (by decide)) (
  kc (ok_iload dX1_endsAll_66) (
  kc (ok_iload dX1_endsAll_68) (
  kc (ok_ishr dX1_endsAll_70) (
  kc (ok_iconst dX1_endsAll_71 (by decide)) (
  kc (ok_iand dX1_endsAll_72) (
  kc (ok_iconst dX1_endsAll_73 (by decide)) (
  kc (ok_cm_ne dX1_endsAll_74 (by decide)) (
  kc (ok_aload_n dX1_endsAll_77 rfl) (
  kc (ok_iload_n dX1_endsAll_78 rfl) (
  kc (ok_iload dX1_endsAll_79) (
  kc (ok_iload dX1_endsAll_81) (
  kc (ok_callV (T := TX1) dX1_endsAll_83 qm_25 rfl rfl rfl hw_539 hw_541 hw_13 qp_25) (
  kc (ok_if_eq dX1_endsAll_86 (by decide)) (
  kc (ok_aload_n dX1_endsAll_89 rfl) (
  kc (ok_iload_n dX1_endsAll_90 rfl) (
  kc (ok_iconst dX1_endsAll_91 (by decide)) (
  kc (ok_iadd dX1_endsAll_92) (
  kc (ok_iload_n dX1_endsAll_93 rfl) (
  kc (ok_iconst dX1_endsAll_94 (by decide)) (
  kc (ok_isub dX1_endsAll_95) (
  kc (ok_iload_n dX1_endsAll_96 rfl) (
  kc (ok_callS dX1_endsAll_97 qm_23 rfl rfl hw_530 hw_531 qp_23) (
  kc (ok_if_eq dX1_endsAll_100 (by decide)) (
  kc (ok_iconst dX1_endsAll_103 (by decide)) (
  kc (ok_retZ dX1_endsAll_104 rfl) (
  kc (ok_iinc dX1_endsAll_105 (by decide)) (
  kc (ok_goto dX1_endsAll_108 (by decide)) (
  kc (ok_iinc dX1_endsAll_111 (by decide)) (
  kc (ok_goto dX1_endsAll_114 (by decide)) (
  kc (ok_iconst dX1_endsAll_117 (by decide)) (
  kc (ok_retZ dX1_endsAll_118 rfl) (
  kn))))))))))))))))))))))))))))))))))))))))))))))))))))))))))))))))))))))
def cd_X1_usefulThings : List (Nat × qOp) := [
  (0, oLdA 0 1),
  (1, oGet 1 0 4),
  (4, oLdI 1 5),
  (5, oAALd 6),
  (6, oStA 4 8),
  (8, oI (0) 9),
  (9, oStI 5 11),
  (11, oI (-1) 12),
  (12, oStI 6 14),
  (14, oI (0) 15),
  (15, oStI 7 17),
  (17, oLdI 7 19),
  (19, oLdA 4 21),
  (21, oGet 0 5 24),
  (24, oCmGe 86 27),
  (27, oLdA 4 29),
  (29, oLdI 7 31),
  (31, oCallV 2 0 1 0 0 0 0 34),
  (34, oIfNe 80 37),
  (37, oLdI 3 38),
  (38, oLdI 7 40),
  (40, oBin (fun x y => x >>> (y &&& 31)) 41),
  (41, oI (1) 42),
  (42, oBin (fun x y => x &&& y) 43),
  (43, oIfNe 80 46),
  (46, oLdA 4 48),
  (48, oLdI 7 50),
  (50, oCallV 17 0 1 0 0 0 0 53),
  (53, oI (255) 56),
  (56, oBin (fun x y => x &&& y) 57),
  (57, oStI 8 59),
  (59, oLdI 8 61),
  (61, oIfNe 66 64),
  (64, oI (0) 65),
  (65, oRetI),
  (66, oLdI 5 68),
  (68, oLdI 8 70),
  (70, oBin (fun x y => x ||| y) 71),
  (71, oStI 5 73),
  (73, oLdI 6 75),
  (75, oLdI 8 77),
  (77, oBin (fun x y => x &&& y) 78),
  (78, oStI 6 80),
  (80, oInc 7 (1) 83),
  (83, oGoto 17),
  (86, oLdI 2 87),
  (87, oI (1) 88),
  (88, oCmNe 99 91),
  (91, oLdI 5 93),
  (93, oLdI 6 95),
  (95, oBin (fun x y => x &&& y) 96),
  (96, oGoto 101),
  (99, oLdI 5 101),
  (101, oRetI)]
set_option maxRecDepth 100000 in
theorem ck_X1_usefulThings {ini : Bool} : ∀ x ∈ cd_X1_usefulThings, OpOK qMT cX1_usefulThings RX1 9 (some .int) ini 0 0 none x.1 x.2 :=
  kc (ok_aload_n dX1_usefulThings_0 rfl) (
  kc (ok_get (T := TX1) (k := 0) dX1_usefulThings_1 rfl hin_X1 (by decide) hw_151) (
  kc (ok_iload_n dX1_usefulThings_4 rfl) (
  kc (ok_aaload dX1_usefulThings_5) (
  kc (ok_astore dX1_usefulThings_6) (
  kc (ok_iconst dX1_usefulThings_8 (by decide)) (
  kc (ok_istore dX1_usefulThings_9) (
  kc (ok_iconst dX1_usefulThings_11 (by decide)) (
  kc (ok_istore dX1_usefulThings_12) (
  kc (ok_iconst dX1_usefulThings_14 (by decide)) (
  kc (ok_istore dX1_usefulThings_15) (
  kc (ok_iload dX1_usefulThings_17) (
  kc (ok_aload dX1_usefulThings_19) (
  kc (ok_get (T := TX0) (k := 5) dX1_usefulThings_21 rfl hin_X0 (by decide) hw_96) (
  kc (ok_cm_ge dX1_usefulThings_24 (by decide)) (
  kc (ok_aload dX1_usefulThings_27) (
  kc (ok_iload dX1_usefulThings_29) (
  kc (ok_callV (T := TX0) dX1_usefulThings_31 qm_2 rfl rfl rfl hw_537 hw_263 hw_264 qp_2) (
  kc (ok_if_ne dX1_usefulThings_34 (by decide)) (
  kc (ok_iload_n dX1_usefulThings_37 rfl) (
  kc (ok_iload dX1_usefulThings_38) (
  kc (ok_ishr dX1_usefulThings_40) (
  kc (ok_iconst dX1_usefulThings_41 (by decide)) (
  kc (ok_iand dX1_usefulThings_42) (
  kc (ok_if_ne dX1_usefulThings_43 (by decide)) (
  kc (ok_aload dX1_usefulThings_46) (
  kc (ok_iload dX1_usefulThings_48) (
  kc (ok_callV (T := TX0) dX1_usefulThings_50 qm_17 rfl rfl rfl hw_538 hw_500 hw_501 qp_17) (
  kc (ok_sipush dX1_usefulThings_53 (by decide)) (
  kc (ok_iand dX1_usefulThings_56) (
  kc (ok_istore dX1_usefulThings_57) (
  kc (ok_iload dX1_usefulThings_59) (
  kc (ok_if_ne dX1_usefulThings_61 (by decide)) (
  kc (ok_iconst dX1_usefulThings_64 (by decide)) (
  kc (ok_retI dX1_usefulThings_65 rfl) (
  kc (ok_iload dX1_usefulThings_66) (
  kc (ok_iload dX1_usefulThings_68) (
  kc (ok_ior dX1_usefulThings_70) (
  kc (ok_istore dX1_usefulThings_71) (
  kc (ok_iload dX1_usefulThings_73) (
  kc (ok_iload dX1_usefulThings_75) (
  kc (ok_iand dX1_usefulThings_77) (
  kc (ok_istore dX1_usefulThings_78) (
  kc (ok_iinc dX1_usefulThings_80 (by decide)) (
  kc (ok_goto dX1_usefulThings_83 (by decide)) (
  kc (ok_iload_n dX1_usefulThings_86 rfl) (
  kc (ok_iconst dX1_usefulThings_87 (by decide)) (
  kc (ok_cm_ne dX1_usefulThings_88 (by decide)) (
  kc (ok_iload dX1_usefulThings_91) (
  kc (ok_iload dX1_usefulThings_93) (
  kc (ok_iand dX1_usefulThings_95) (
  kc (ok_goto dX1_usefulThings_96 (by decide)) (
  kc (ok_iload dX1_usefulThings_99) (
  kc (ok_retI dX1_usefulThings_101 rfl) (
  kn))))))))))))))))))))))))))))))))))))))))))))))))))))))
def cd_X1_step : List (Nat × qOp) := [
  (0, oLdA 0 1),
  (1, oGet 1 0 4),
  (4, oLdI 1 5),
  (5, oAALd 6),
  (6, oStA 4 8),
  (8, oLdA 4 10),
  (10, oGet 0 1 13),
  (13, oLdI 2 14),
  (14, oALd 15),
  (15, oLdI 3 16),
  (16, oCmNe 21 19),
  (19, oI (0) 20),
  (20, oRetZ),
  (21, oLdA 0 22),
  (22, oGet 1 0 25),
  (25, oLdI 1 26),
  (26, oI (1) 27),
  (27, oBin (fun x y => x + y) 28),
  (28, oAALd 29),
  (29, oLdA 4 31),
  (31, oCallV 1 0 1 0 0 0 0 34),
  (34, oLdA 0 35),
  (35, oGet 1 0 38),
  (38, oLdI 1 39),
  (39, oI (1) 40),
  (40, oBin (fun x y => x + y) 41),
  (41, oAALd 42),
  (42, oLdI 2 43),
  (43, oLdI 3 44),
  (44, oCallV 6 0 2 0 0 0 0 47),
  (47, oPop 48),
  (48, oLdA 0 49),
  (49, oGet 1 1 52),
  (52, oLdI 1 53),
  (53, oI (10) 55),
  (55, oLdI 2 56),
  (56, oBin (fun x y => x * y) 57),
  (57, oLdI 3 58),
  (58, oBin (fun x y => x + y) 59),
  (59, oASt 60),
  (60, oI (1) 61),
  (61, oRetZ)]
set_option maxRecDepth 100000 in
theorem ck_X1_step {ini : Bool} : ∀ x ∈ cd_X1_step, OpOK qMT cX1_step RX1 5 (some .boolean) ini 0 0 none x.1 x.2 :=
  kc (ok_aload_n dX1_step_0 rfl) (
  kc (ok_get (T := TX1) (k := 0) dX1_step_1 rfl hin_X1 (by decide) hw_151) (
  kc (ok_iload_n dX1_step_4 rfl) (
  kc (ok_aaload dX1_step_5) (
  kc (ok_astore dX1_step_6) (
  kc (ok_aload dX1_step_8) (
  kc (ok_get (T := TX0) (k := 1) dX1_step_10 rfl hin_X0 (by decide) hw_86) (
  kc (ok_iload_n dX1_step_13 rfl) (
  kc (ok_iaload dX1_step_14) (
  kc (ok_iload_n dX1_step_15 rfl) (
  kc (ok_cm_ne dX1_step_16 (by decide)) (
  kc (ok_iconst dX1_step_19 (by decide)) (
  kc (ok_retZ dX1_step_20 rfl) (
  kc (ok_aload_n dX1_step_21 rfl) (
  kc (ok_get (T := TX1) (k := 0) dX1_step_22 rfl hin_X1 (by decide) hw_151) (
  kc (ok_iload_n dX1_step_25 rfl) (
  kc (ok_iconst dX1_step_26 (by decide)) (
  kc (ok_iadd dX1_step_27) (
  kc (ok_aaload dX1_step_28) (
  kc (ok_aload dX1_step_29) (
  kc (ok_callV (T := TX0) dX1_step_31 qm_1 rfl rfl rfl hw_528 hw_467 hw_468 qp_1) (
  kc (ok_aload_n dX1_step_34 rfl) (
  kc (ok_get (T := TX1) (k := 0) dX1_step_35 rfl hin_X1 (by decide) hw_151) (
  kc (ok_iload_n dX1_step_38 rfl) (
  kc (ok_iconst dX1_step_39 (by decide)) (
  kc (ok_iadd dX1_step_40) (
  kc (ok_aaload dX1_step_41) (
  kc (ok_iload_n dX1_step_42 rfl) (
  kc (ok_iload_n dX1_step_43 rfl) (
  kc (ok_callV (T := TX0) dX1_step_44 qm_6 rfl rfl rfl hw_543 hw_411 hw_412 qp_6) (
  kc (ok_pop dX1_step_47) (
  kc (ok_aload_n dX1_step_48 rfl) (
  kc (ok_get (T := TX1) (k := 1) dX1_step_49 rfl hin_X1 (by decide) hw_152) (
  kc (ok_iload_n dX1_step_52 rfl) (
  kc (ok_bipush dX1_step_53 (by decide)) (
  kc (ok_iload_n dX1_step_55 rfl) (
  kc (ok_imul dX1_step_56) (
  kc (ok_iload_n dX1_step_57 rfl) (
  kc (ok_iadd dX1_step_58) (
  kc (ok_iastore dX1_step_59) (
  kc (ok_iconst dX1_step_60 (by decide)) (
  kc (ok_retZ dX1_step_61 rfl) (
  kn))))))))))))))))))))))))))))))))))))))))))
def cd_X1_seekBest : List (Nat × qOp) := [
  (0, oLdA 0 1),
  (1, oGet 1 0 4),
  (4, oI (0) 5),
  (5, oAALd 6),
  (6, oLdA 1 7),
  (7, oCallV 1 0 1 0 0 0 0 10),
  (10, oLdA 0 11),
  (11, oLdA 1 12),
  (12, oLdA 2 13),
  (13, oCallV 14 0 1 0 0 0 0 16),
  (16, oLdI 3 17),
  (17, oBin (fun x y => x * y) 18),
  (18, oPutI 1 4 21),
  (21, oLdA 0 22),
  (22, oI (0) 23),
  (23, oPutI 1 3 26),
  (26, oLdA 0 27),
  (27, oI (0) 28),
  (28, oLdA 2 29),
  (29, oLdI 3 30),
  (30, oCallS 27 4 0 0 0 0 33),
  (33, oRetV)]
set_option maxRecDepth 100000 in
theorem ck_X1_seekBest {ini : Bool} : ∀ x ∈ cd_X1_seekBest, OpOK qMT cX1_seekBest RX1 4 none ini 0 0 none x.1 x.2 :=
  kc (ok_aload_n dX1_seekBest_0 rfl) (
  kc (ok_get (T := TX1) (k := 0) dX1_seekBest_1 rfl hin_X1 (by decide) hw_151) (
  kc (ok_iconst dX1_seekBest_4 (by decide)) (
  kc (ok_aaload dX1_seekBest_5) (
  kc (ok_aload_n dX1_seekBest_6 rfl) (
  kc (ok_callV (T := TX0) dX1_seekBest_7 qm_1 rfl rfl rfl hw_528 hw_467 hw_468 qp_1) (
  kc (ok_aload_n dX1_seekBest_10 rfl) (
  kc (ok_aload_n dX1_seekBest_11 rfl) (
  kc (ok_aload_n dX1_seekBest_12 rfl) (
  kc (ok_callV (T := TX0) dX1_seekBest_13 qm_14 rfl rfl rfl hw_557 hw_393 hw_394 qp_14) (
  kc (ok_iload_n dX1_seekBest_16 rfl) (
  kc (ok_imul dX1_seekBest_17) (
  kc (ok_putI (T := TX1) (k := 4) dX1_seekBest_18 rfl hin_X1 tyX1_ok nmX1 (by decide) hw_157 rfl (tyX1_ok 4 (by decide))) (
  kc (ok_aload_n dX1_seekBest_21 rfl) (
  kc (ok_iconst dX1_seekBest_22 (by decide)) (
  kc (ok_putI (T := TX1) (k := 3) dX1_seekBest_23 rfl hin_X1 tyX1_ok nmX1 (by decide) hw_155 rfl (tyX1_ok 3 (by decide))) (
  kc (ok_aload_n dX1_seekBest_26 rfl) (
  kc (ok_iconst dX1_seekBest_27 (by decide)) (
  kc (ok_aload_n dX1_seekBest_28 rfl) (
  kc (ok_iload_n dX1_seekBest_29 rfl) (
  kc (ok_callS dX1_seekBest_30 qm_27 rfl rfl hw_558 hw_559 qp_27) (
  kc (ok_retV dX1_seekBest_33 rfl) (
  kn))))))))))))))))))))))
def cd_X1_weighRows : List (Nat × qOp) := [
  (0, oLdI 1 1),
  (1, oI (2) 2),
  (2, oCmLt 6 5),
  (5, oRetV),
  (6, oI (0) 7),
  (7, oStI 4 9),
  (9, oLdI 4 11),
  (11, oI (8) 13),
  (13, oCmGe 78 16),
  (16, oI (0) 17),
  (17, oStI 5 19),
  (19, oLdI 5 21),
  (21, oI (6) 23),
  (23, oCmGe 72 26),
  (26, oLdA 0 27),
  (27, oLdI 1 28),
  (28, oLdI 4 30),
  (30, oCallV 28 1 2 0 0 0 0 33),
  (33, oIfEq 72 36),
  (36, oLdA 0 37),
  (37, oLdI 1 38),
  (38, oLdI 4 40),
  (40, oLdI 5 42),
  (42, oCallV 25 1 3 0 0 0 0 45),
  (45, oIfEq 66 48),
  (48, oLdA 0 49),
  (49, oLdI 1 50),
  (50, oI (1) 51),
  (51, oBin (fun x y => x + y) 52),
  (52, oLdA 2 53),
  (53, oLdI 3 54),
  (54, oCallV 29 1 3 0 0 0 0 57),
  (57, oLdA 0 58),
  (58, oLdI 1 59),
  (59, oI (1) 60),
  (60, oBin (fun x y => x + y) 61),
  (61, oLdA 2 62),
  (62, oLdI 3 63),
  (63, oCallS 27 4 0 0 0 0 66),
  (66, oInc 5 (1) 69),
  (69, oGoto 19),
  (72, oInc 4 (1) 75),
  (75, oGoto 9),
  (78, oRetV)]
set_option maxRecDepth 100000 in
theorem ck_X1_weighRows {ini : Bool} : ∀ x ∈ cd_X1_weighRows, OpOK qMT cX1_weighRows RX1 6 none ini 0 0 none x.1 x.2 :=
  kc (ok_iload_n dX1_weighRows_0 rfl) (
  kc (ok_iconst dX1_weighRows_1 (by decide)) (
  kc (ok_cm_lt dX1_weighRows_2 (by decide)) (
  kc (ok_retV dX1_weighRows_5 rfl) (
  kc (ok_iconst dX1_weighRows_6 (by decide)) (
  kc (ok_istore dX1_weighRows_7) (
  kc (ok_iload dX1_weighRows_9) (
  kc (ok_bipush dX1_weighRows_11 (by decide)) (
  kc (ok_cm_ge dX1_weighRows_13 (by decide)) (
  kc (ok_iconst dX1_weighRows_16 (by decide)) (
  kc (ok_istore dX1_weighRows_17) (
  kc (ok_iload dX1_weighRows_19) (
  kc (ok_bipush dX1_weighRows_21 (by decide)) (
  kc (ok_cm_ge dX1_weighRows_23 (by decide)) (
  kc (ok_aload_n dX1_weighRows_26 rfl) (
  kc (ok_iload_n dX1_weighRows_27 rfl) (
  kc (ok_iload dX1_weighRows_28) (
  kc (ok_callV (T := TX1) dX1_weighRows_30 qm_28 rfl rfl rfl hw_561 hw_563 hw_15 qp_28) (
  kc (ok_if_eq dX1_weighRows_33 (by decide)) (
  kc (ok_aload_n dX1_weighRows_36 rfl) (
  kc (ok_iload_n dX1_weighRows_37 rfl) (
  kc (ok_iload dX1_weighRows_38) (
  kc (ok_iload dX1_weighRows_40) (
  kc (ok_callV (T := TX1) dX1_weighRows_42 qm_25 rfl rfl rfl hw_539 hw_541 hw_13 qp_25) (
  kc (ok_if_eq dX1_weighRows_45 (by decide)) (
  kc (ok_aload_n dX1_weighRows_48 rfl) (
  kc (ok_iload_n dX1_weighRows_49 rfl) (
  kc (ok_iconst dX1_weighRows_50 (by decide)) (
  kc (ok_iadd dX1_weighRows_51) (
  kc (ok_aload_n dX1_weighRows_52 rfl) (
  kc (ok_iload_n dX1_weighRows_53 rfl) (
  kc (ok_callV (T := TX1) dX1_weighRows_54 qm_29 rfl rfl rfl hw_565 hw_567 hw_16 qp_29) (
  kc (ok_aload_n dX1_weighRows_57 rfl) (
  kc (ok_iload_n dX1_weighRows_58 rfl) (
  kc (ok_iconst dX1_weighRows_59 (by decide)) (
  kc (ok_iadd dX1_weighRows_60) (
  kc (ok_aload_n dX1_weighRows_61 rfl) (
  kc (ok_iload_n dX1_weighRows_62 rfl) (
  kc (ok_callS dX1_weighRows_63 qm_27 rfl rfl hw_558 hw_559 qp_27) (
  kc (ok_iinc dX1_weighRows_66 (by decide)) (
  kc (ok_goto dX1_weighRows_69 (by decide)) (
  kc (ok_iinc dX1_weighRows_72 (by decide)) (
  kc (ok_goto dX1_weighRows_75 (by decide)) (
  kc (ok_retV dX1_weighRows_78 rfl) (
  kn))))))))))))))))))))))))))))))))))))))))))))
def cd_X1_isSide : List (Nat × qOp) := [
  (0, oLdA 0 1),
  (1, oGet 1 0 4),
  (4, oLdI 1 5),
  (5, oAALd 6),
  (6, oStA 3 7),
  (7, oI (0) 8),
  (8, oStI 4 10),
  (10, oLdI 4 12),
  (12, oLdA 3 13),
  (13, oGet 0 5 16),
  (16, oCmGe 50 19),
  (19, oLdA 3 20),
  (20, oLdI 4 22),
  (22, oCallV 2 0 1 0 0 0 0 25),
  (25, oIfNe 44 28),
  (28, oLdA 3 29),
  (29, oLdI 4 31),
  (31, oCallV 17 0 1 0 0 0 0 34),
  (34, oLdI 2 35),
  (35, oBin (fun x y => x >>> (y &&& 31)) 36),
  (36, oI (1) 37),
  (37, oBin (fun x y => x &&& y) 38),
  (38, oI (1) 39),
  (39, oCmNe 44 42),
  (42, oI (1) 43),
  (43, oRetZ),
  (44, oInc 4 (1) 47),
  (47, oGoto 10),
  (50, oI (0) 51),
  (51, oRetZ)]
set_option maxRecDepth 100000 in
theorem ck_X1_isSide {ini : Bool} : ∀ x ∈ cd_X1_isSide, OpOK qMT cX1_isSide RX1 5 (some .boolean) ini 0 0 none x.1 x.2 :=
  kc (ok_aload_n dX1_isSide_0 rfl) (
  kc (ok_get (T := TX1) (k := 0) dX1_isSide_1 rfl hin_X1 (by decide) hw_151) (
  kc (ok_iload_n dX1_isSide_4 rfl) (
  kc (ok_aaload dX1_isSide_5) (
  kc (ok_astore_n dX1_isSide_6 rfl) (
  kc (ok_iconst dX1_isSide_7 (by decide)) (
  kc (ok_istore dX1_isSide_8) (
  kc (ok_iload dX1_isSide_10) (
  kc (ok_aload_n dX1_isSide_12 rfl) (
  kc (ok_get (T := TX0) (k := 5) dX1_isSide_13 rfl hin_X0 (by decide) hw_96) (
  kc (ok_cm_ge dX1_isSide_16 (by decide)) (
  kc (ok_aload_n dX1_isSide_19 rfl) (
  kc (ok_iload dX1_isSide_20) (
  kc (ok_callV (T := TX0) dX1_isSide_22 qm_2 rfl rfl rfl hw_537 hw_263 hw_264 qp_2) (
  kc (ok_if_ne dX1_isSide_25 (by decide)) (
  kc (ok_aload_n dX1_isSide_28 rfl) (
  kc (ok_iload dX1_isSide_29) (
  kc (ok_callV (T := TX0) dX1_isSide_31 qm_17 rfl rfl rfl hw_538 hw_500 hw_501 qp_17) (
  kc (ok_iload_n dX1_isSide_34 rfl) (
  kc (ok_ishr dX1_isSide_35) (
  kc (ok_iconst dX1_isSide_36 (by decide)) (
  kc (ok_iand dX1_isSide_37) (
  kc (ok_iconst dX1_isSide_38 (by decide)) (
  kc (ok_cm_ne dX1_isSide_39 (by decide)) (
  kc (ok_iconst dX1_isSide_42 (by decide)) (
  kc (ok_retZ dX1_isSide_43 rfl) (
  kc (ok_iinc dX1_isSide_44 (by decide)) (
  kc (ok_goto dX1_isSide_47 (by decide)) (
  kc (ok_iconst dX1_isSide_50 (by decide)) (
  kc (ok_retZ dX1_isSide_51 rfl) (
  kn))))))))))))))))))))))))))))))
def cd_X1_weigh : List (Nat × qOp) := [
  (0, oLdA 0 1),
  (1, oGet 1 0 4),
  (4, oLdI 1 5),
  (5, oAALd 6),
  (6, oLdA 2 7),
  (7, oCallV 14 0 1 0 0 0 0 10),
  (10, oLdI 3 11),
  (11, oBin (fun x y => x * y) 12),
  (12, oLdI 1 13),
  (13, oBin (fun x y => x + y) 14),
  (14, oStI 4 16),
  (16, oLdI 4 18),
  (18, oLdA 0 19),
  (19, oGet 1 4 22),
  (22, oCmLt 42 25),
  (25, oLdI 4 27),
  (27, oLdA 0 28),
  (28, oGet 1 4 31),
  (31, oCmNe 53 34),
  (34, oLdI 1 35),
  (35, oLdA 0 36),
  (36, oGet 1 3 39),
  (39, oCmGe 53 42),
  (42, oLdA 0 43),
  (43, oLdI 4 45),
  (45, oPutI 1 4 48),
  (48, oLdA 0 49),
  (49, oLdI 1 50),
  (50, oCallV 30 1 1 0 0 0 0 53),
  (53, oRetV)]
set_option maxRecDepth 100000 in
theorem ck_X1_weigh {ini : Bool} : ∀ x ∈ cd_X1_weigh, OpOK qMT cX1_weigh RX1 5 none ini 0 0 none x.1 x.2 :=
  kc (ok_aload_n dX1_weigh_0 rfl) (
  kc (ok_get (T := TX1) (k := 0) dX1_weigh_1 rfl hin_X1 (by decide) hw_151) (
  kc (ok_iload_n dX1_weigh_4 rfl) (
  kc (ok_aaload dX1_weigh_5) (
  kc (ok_aload_n dX1_weigh_6 rfl) (
  kc (ok_callV (T := TX0) dX1_weigh_7 qm_14 rfl rfl rfl hw_557 hw_393 hw_394 qp_14) (
  kc (ok_iload_n dX1_weigh_10 rfl) (
  kc (ok_imul dX1_weigh_11) (
  kc (ok_iload_n dX1_weigh_12 rfl) (
  kc (ok_iadd dX1_weigh_13) (
  kc (ok_istore dX1_weigh_14) (
  kc (ok_iload dX1_weigh_16) (
  kc (ok_aload_n dX1_weigh_18 rfl) (
  kc (ok_get (T := TX1) (k := 4) dX1_weigh_19 rfl hin_X1 (by decide) hw_157) (
  kc (ok_cm_lt dX1_weigh_22 (by decide)) (
  kc (ok_iload dX1_weigh_25) (
  kc (ok_aload_n dX1_weigh_27 rfl) (
  kc (ok_get (T := TX1) (k := 4) dX1_weigh_28 rfl hin_X1 (by decide) hw_157) (
  kc (ok_cm_ne dX1_weigh_31 (by decide)) (
  kc (ok_iload_n dX1_weigh_34 rfl) (
  kc (ok_aload_n dX1_weigh_35 rfl) (
  kc (ok_get (T := TX1) (k := 3) dX1_weigh_36 rfl hin_X1 (by decide) hw_155) (
  kc (ok_cm_ge dX1_weigh_39 (by decide)) (
  kc (ok_aload_n dX1_weigh_42 rfl) (
  kc (ok_iload dX1_weigh_43) (
  kc (ok_putI (T := TX1) (k := 4) dX1_weigh_45 rfl hin_X1 tyX1_ok nmX1 (by decide) hw_157 rfl (tyX1_ok 4 (by decide))) (
  kc (ok_aload_n dX1_weigh_48 rfl) (
  kc (ok_iload_n dX1_weigh_49 rfl) (
  kc (ok_callV (T := TX1) dX1_weigh_50 qm_30 rfl rfl rfl hw_544 hw_546 hw_14 qp_30) (
  kc (ok_retV dX1_weigh_53 rfl) (
  kn))))))))))))))))))))))))))))))
def cd_X1_choose : List (Nat × qOp) := [
  (0, oLdA 0 1),
  (1, oLdI 1 2),
  (2, oPutI 1 3 5),
  (5, oLdA 0 6),
  (6, oGet 1 1 9),
  (9, oI (0) 10),
  (10, oLdA 0 11),
  (11, oGet 1 2 14),
  (14, oI (0) 15),
  (15, oLdI 1 16),
  (16, oCopy 19),
  (19, oRetV)]
set_option maxRecDepth 100000 in
theorem ck_X1_choose {ini : Bool} : ∀ x ∈ cd_X1_choose, OpOK qMT cX1_choose RX1 2 none ini 0 0 none x.1 x.2 :=
  kc (ok_aload_n dX1_choose_0 rfl) (
  kc (ok_iload_n dX1_choose_1 rfl) (
  kc (ok_putI (T := TX1) (k := 3) dX1_choose_2 rfl hin_X1 tyX1_ok nmX1 (by decide) hw_155 rfl (tyX1_ok 3 (by decide))) (
  kc (ok_aload_n dX1_choose_5 rfl) (
  kc (ok_get (T := TX1) (k := 1) dX1_choose_6 rfl hin_X1 (by decide) hw_152) (
  kc (ok_iconst dX1_choose_9 (by decide)) (
  kc (ok_aload_n dX1_choose_10 rfl) (
  kc (ok_get (T := TX1) (k := 2) dX1_choose_11 rfl hin_X1 (by decide) hw_153) (
  kc (ok_iconst dX1_choose_14 (by decide)) (
  kc (ok_iload_n dX1_choose_15 rfl) (
  kc (ok_copy dX1_choose_16 hw_548 hw_366 hw_365 hw_59) (
  kc (ok_retV dX1_choose_19 rfl) (
  kn))))))))))))
def cd_X2_init : List (Nat × qOp) := [
  (0, oLdA 0 1),
  (1, oObj 4),
  (4, oLdA 0 5),
  (5, oI (24) 7),
  (7, oNewI 1 24 9),
  (9, oPutF 2 0 12),
  (12, oLdA 0 13),
  (13, oI (1) 14),
  (14, oPutZ 2 1 17),
  (17, oLdA 0 18),
  (18, oI (0) 19),
  (19, oPutI 2 2 22),
  (22, oLdA 0 23),
  (23, oI (0) 24),
  (24, oPutI 2 3 27),
  (27, oRetV)]
set_option maxRecDepth 100000 in
theorem ck_X2_init {ini : Bool} (hi : ini = true) : ∀ x ∈ cd_X2_init, OpOK qMT cX2_init RX2 1 none ini 1 24 none x.1 x.2 :=
  kc (ok_aload_n dX2_init_0 rfl) (
  kc (ok_objInit dX2_init_1 hw_197 hw_68 hw_69) (
  kc (ok_aload_n dX2_init_4 rfl) (
  kc (ok_bipush dX2_init_5 (by decide)) (
  kc (ok_newI dX2_init_7 hw_118) (
  kc (ok_putF (T := TX2) (k := 0) dX2_init_9 rfl hin_X2 tyX2_ok nmX2 (by decide) hw_198 rfl rfl hi (tyX2_ok 0 (by decide)) (fun _ => ⟨rfl, rfl⟩)) (
  kc (ok_aload_n dX2_init_12 rfl) (
  kc (ok_iconst dX2_init_13 (by decide)) (
  kc (ok_putZ (T := TX2) (k := 1) dX2_init_14 rfl hin_X2 tyX2_ok nmX2 (by decide) hw_200 rfl (tyX2_ok 1 (by decide))) (
  kc (ok_aload_n dX2_init_17 rfl) (
  kc (ok_iconst dX2_init_18 (by decide)) (
  kc (ok_putI (T := TX2) (k := 2) dX2_init_19 rfl hin_X2 tyX2_ok nmX2 (by decide) hw_202 rfl (tyX2_ok 2 (by decide))) (
  kc (ok_aload_n dX2_init_22 rfl) (
  kc (ok_iconst dX2_init_23 (by decide)) (
  kc (ok_putI (T := TX2) (k := 3) dX2_init_24 rfl hin_X2 tyX2_ok nmX2 (by decide) hw_204 rfl (tyX2_ok 3 (by decide))) (
  kc (ok_retV dX2_init_27 rfl) (
  kn))))))))))))))))
def cd_X2_begin : List (Nat × qOp) := [
  (0, oLdA 0 1),
  (1, oI (0) 2),
  (2, oPutZ 2 1 5),
  (5, oLdA 0 6),
  (6, oLdI 1 7),
  (7, oPutI 2 2 10),
  (10, oLdA 0 11),
  (11, oLdI 2 12),
  (12, oPutI 2 3 15),
  (15, oI (0) 16),
  (16, oStI 3 17),
  (17, oLdI 3 18),
  (18, oLdA 0 19),
  (19, oGet 2 0 22),
  (22, oLen 23),
  (23, oCmGe 39 26),
  (26, oLdA 0 27),
  (27, oGet 2 0 30),
  (30, oLdI 3 31),
  (31, oI (0) 32),
  (32, oASt 33),
  (33, oInc 3 (1) 36),
  (36, oGoto 17),
  (39, oRetV)]
set_option maxRecDepth 100000 in
theorem ck_X2_begin {ini : Bool} : ∀ x ∈ cd_X2_begin, OpOK qMT cX2_begin RX2 4 none ini 0 0 none x.1 x.2 :=
  kc (ok_aload_n dX2_begin_0 rfl) (
  kc (ok_iconst dX2_begin_1 (by decide)) (
  kc (ok_putZ (T := TX2) (k := 1) dX2_begin_2 rfl hin_X2 tyX2_ok nmX2 (by decide) hw_200 rfl (tyX2_ok 1 (by decide))) (
  kc (ok_aload_n dX2_begin_5 rfl) (
  kc (ok_iload_n dX2_begin_6 rfl) (
  kc (ok_putI (T := TX2) (k := 2) dX2_begin_7 rfl hin_X2 tyX2_ok nmX2 (by decide) hw_202 rfl (tyX2_ok 2 (by decide))) (
  kc (ok_aload_n dX2_begin_10 rfl) (
  kc (ok_iload_n dX2_begin_11 rfl) (
  kc (ok_putI (T := TX2) (k := 3) dX2_begin_12 rfl hin_X2 tyX2_ok nmX2 (by decide) hw_204 rfl (tyX2_ok 3 (by decide))) (
  kc (ok_iconst dX2_begin_15 (by decide)) (
  kc (ok_istore_n dX2_begin_16 rfl) (
  kc (ok_iload_n dX2_begin_17 rfl) (
  kc (ok_aload_n dX2_begin_18 rfl) (
  kc (ok_get (T := TX2) (k := 0) dX2_begin_19 rfl hin_X2 (by decide) hw_198) (
  kc (ok_alen dX2_begin_22) (
  kc (ok_cm_ge dX2_begin_23 (by decide)) (
  kc (ok_aload_n dX2_begin_26 rfl) (
  kc (ok_get (T := TX2) (k := 0) dX2_begin_27 rfl hin_X2 (by decide) hw_198) (
  kc (ok_iload_n dX2_begin_30 rfl) (
  kc (ok_iconst dX2_begin_31 (by decide)) (
  kc (ok_iastore dX2_begin_32) (
  kc (ok_iinc dX2_begin_33 (by decide)) (
  kc (ok_goto dX2_begin_36 (by decide)) (
  kc (ok_retV dX2_begin_39 rfl) (
  kn))))))))))))))))))))))))
def cd_X2_refuses : List (Nat × qOp) := [
  (0, oLdA 0 1),
  (1, oGet 2 1 4),
  (4, oIfEq 10 7),
  (7, oI (-11) 9),
  (9, oRetI),
  (10, oLdA 0 11),
  (11, oGet 2 2 14),
  (14, oLdI 1 15),
  (15, oCmNe 22 18),
  (18, oI (0) 19),
  (19, oGoto 24),
  (22, oI (-12) 24),
  (24, oRetI)]
set_option maxRecDepth 100000 in
theorem ck_X2_refuses {ini : Bool} : ∀ x ∈ cd_X2_refuses, OpOK qMT cX2_refuses RX2 2 (some .int) ini 0 0 none x.1 x.2 :=
  kc (ok_aload_n dX2_refuses_0 rfl) (
  kc (ok_get (T := TX2) (k := 1) dX2_refuses_1 rfl hin_X2 (by decide) hw_200) (
  kc (ok_if_eq dX2_refuses_4 (by decide)) (
  kc (ok_bipush dX2_refuses_7 (by decide)) (
  kc (ok_retI dX2_refuses_9 rfl) (
  kc (ok_aload_n dX2_refuses_10 rfl) (
  kc (ok_get (T := TX2) (k := 2) dX2_refuses_11 rfl hin_X2 (by decide) hw_202) (
  kc (ok_iload_n dX2_refuses_14 rfl) (
  kc (ok_cm_ne dX2_refuses_15 (by decide)) (
  kc (ok_iconst dX2_refuses_18 (by decide)) (
  kc (ok_goto dX2_refuses_19 (by decide)) (
  kc (ok_bipush dX2_refuses_22 (by decide)) (
  kc (ok_retI dX2_refuses_24 rfl) (
  kn)))))))))))))
def cd_X2_holds : List (Nat × qOp) := [
  (0, oLdI 1 1),
  (1, oIfLt 22 4),
  (4, oLdI 2 5),
  (5, oIfLt 22 8),
  (8, oLdI 1 9),
  (9, oLdA 0 10),
  (10, oGet 2 3 13),
  (13, oLdI 2 14),
  (14, oBin (fun x y => x - y) 15),
  (15, oCmGt 22 18),
  (18, oI (1) 19),
  (19, oGoto 23),
  (22, oI (0) 23),
  (23, oRetZ)]
set_option maxRecDepth 100000 in
theorem ck_X2_holds {ini : Bool} : ∀ x ∈ cd_X2_holds, OpOK qMT cX2_holds RX2 3 (some .boolean) ini 0 0 none x.1 x.2 :=
  kc (ok_iload_n dX2_holds_0 rfl) (
  kc (ok_if_lt dX2_holds_1 (by decide)) (
  kc (ok_iload_n dX2_holds_4 rfl) (
  kc (ok_if_lt dX2_holds_5 (by decide)) (
  kc (ok_iload_n dX2_holds_8 rfl) (
  kc (ok_aload_n dX2_holds_9 rfl) (
  kc (ok_get (T := TX2) (k := 3) dX2_holds_10 rfl hin_X2 (by decide) hw_204) (
  kc (ok_iload_n dX2_holds_13 rfl) (
  kc (ok_isub dX2_holds_14) (
  kc (ok_cm_gt dX2_holds_15 (by decide)) (
  kc (ok_iconst dX2_holds_18 (by decide)) (
  kc (ok_goto dX2_holds_19 (by decide)) (
  kc (ok_iconst dX2_holds_22 (by decide)) (
  kc (ok_retZ dX2_holds_23 rfl) (
  kn))))))))))))))
def cd_X2_lowestBits : List (Nat × qOp) := [
  (0, oLdI 0 1),
  (1, oIfNe 7 4),
  (4, oLdI 1 5),
  (5, oUn (fun x => x.toInt8.toInt32) 6),
  (6, oRetI),
  (7, oLdI 0 8),
  (8, oI (1) 9),
  (9, oCmNe 17 12),
  (12, oLdI 1 13),
  (13, oUn (fun x => x.toInt16.toInt32) 14),
  (14, oGoto 18),
  (17, oLdI 1 18),
  (18, oRetI)]
set_option maxRecDepth 100000 in
theorem ck_X2_lowestBits {ini : Bool} : ∀ x ∈ cd_X2_lowestBits, OpOK qMT cX2_lowestBits RX2 2 (some .int) ini 0 0 none x.1 x.2 :=
  kc (ok_iload_n dX2_lowestBits_0 rfl) (
  kc (ok_if_ne dX2_lowestBits_1 (by decide)) (
  kc (ok_iload_n dX2_lowestBits_4 rfl) (
  kc (ok_i2b dX2_lowestBits_5) (
  kc (ok_retI dX2_lowestBits_6 rfl) (
  kc (ok_iload_n dX2_lowestBits_7 rfl) (
  kc (ok_iconst dX2_lowestBits_8 (by decide)) (
  kc (ok_cm_ne dX2_lowestBits_9 (by decide)) (
  kc (ok_iload_n dX2_lowestBits_12 rfl) (
  kc (ok_i2s dX2_lowestBits_13) (
  kc (ok_goto dX2_lowestBits_14 (by decide)) (
  kc (ok_iload_n dX2_lowestBits_17 rfl) (
  kc (ok_retI dX2_lowestBits_18 rfl) (
  kn)))))))))))))
def cd_X3_init : List (Nat × qOp) := [
  (0, oLdA 0 1),
  (1, oObj 4),
  (4, oLdA 0 5),
  (5, oI (80) 7),
  (7, oNewI 2 136 9),
  (9, oPutF 3 0 12),
  (12, oLdA 0 13),
  (13, oI (0) 14),
  (14, oPutI 3 1 17),
  (17, oLdA 0 18),
  (18, oI (0) 19),
  (19, oPutI 3 2 22),
  (22, oLdA 0 23),
  (23, oI (56) 25),
  (25, oNewI 2 136 27),
  (27, oPutF 3 3 30),
  (30, oRetV)]
set_option maxRecDepth 100000 in
theorem ck_X3_init {ini : Bool} (hi : ini = true) : ∀ x ∈ cd_X3_init, OpOK qMT cX3_init RX3 1 none ini 2 136 none x.1 x.2 :=
  kc (ok_aload_n dX3_init_0 rfl) (
  kc (ok_objInit dX3_init_1 hw_175 hw_68 hw_69) (
  kc (ok_aload_n dX3_init_4 rfl) (
  kc (ok_bipush dX3_init_5 (by decide)) (
  kc (ok_newI dX3_init_7 hw_118) (
  kc (ok_putF (T := TX3) (k := 0) dX3_init_9 rfl hin_X3 tyX3_ok nmX3 (by decide) hw_176 rfl rfl hi (tyX3_ok 0 (by decide)) (fun _ => ⟨rfl, rfl⟩)) (
  kc (ok_aload_n dX3_init_12 rfl) (
  kc (ok_iconst dX3_init_13 (by decide)) (
  kc (ok_putI (T := TX3) (k := 1) dX3_init_14 rfl hin_X3 tyX3_ok nmX3 (by decide) hw_177 rfl (tyX3_ok 1 (by decide))) (
  kc (ok_aload_n dX3_init_17 rfl) (
  kc (ok_iconst dX3_init_18 (by decide)) (
  kc (ok_putI (T := TX3) (k := 2) dX3_init_19 rfl hin_X3 tyX3_ok nmX3 (by decide) hw_178 rfl (tyX3_ok 2 (by decide))) (
  kc (ok_aload_n dX3_init_22 rfl) (
  kc (ok_bipush dX3_init_23 (by decide)) (
  kc (ok_newI dX3_init_25 hw_118) (
  kc (ok_putF (T := TX3) (k := 3) dX3_init_27 rfl hin_X3 tyX3_ok nmX3 (by decide) hw_180 rfl rfl hi (tyX3_ok 3 (by decide)) (fun _ => ⟨rfl, rfl⟩)) (
  kc (ok_retV dX3_init_30 rfl) (
  kn)))))))))))))))))
def cd_X3_byteOf : List (Nat × qOp) := [
  (0, oLdL 0 1),
  (1, oI (8) 3),
  (3, oLdI 2 4),
  (4, oBin (fun x y => x * y) 5),
  (5, oLSh (fun x y => x >>> (y.toInt64 &&& 63)) 6),
  (6, oL2I 7),
  (7, oI (255) 10),
  (10, oBin (fun x y => x &&& y) 11),
  (11, oRetI)]
set_option maxRecDepth 100000 in
theorem ck_X3_byteOf {ini : Bool} : ∀ x ∈ cd_X3_byteOf, OpOK qMT cX3_byteOf RX3 3 (some .int) ini 0 0 none x.1 x.2 :=
  kc (ok_lload_n dX3_byteOf_0 rfl) (
  kc (ok_bipush dX3_byteOf_1 (by decide)) (
  kc (ok_iload_n dX3_byteOf_3 rfl) (
  kc (ok_imul dX3_byteOf_4) (
  kc (ok_lshr dX3_byteOf_5) (
  kc (ok_l2i dX3_byteOf_6) (
  kc (ok_sipush dX3_byteOf_7 (by decide)) (
  kc (ok_iand dX3_byteOf_10) (
  kc (ok_retI dX3_byteOf_11 rfl) (
  kn)))))))))
def cd_X3_isPlain : List (Nat × qOp) := [
  (0, oI (0) 1),
  (1, oStI 3 2),
  (2, oLdI 3 3),
  (3, oLdI 2 4),
  (4, oCmGe 36 7),
  (7, oLdL 0 8),
  (8, oLdI 3 9),
  (9, oCallS 37 2 0 0 0 0 12),
  (12, oStI 4 14),
  (14, oLdI 4 16),
  (16, oI (32) 18),
  (18, oCmLt 28 21),
  (21, oLdI 4 23),
  (23, oI (126) 25),
  (25, oCmLe 30 28),
  (28, oI (0) 29),
  (29, oRetZ),
  (30, oInc 3 (1) 33),
  (33, oGoto 2),
  (36, oI (1) 37),
  (37, oRetZ)]
set_option maxRecDepth 100000 in
theorem ck_X3_isPlain {ini : Bool} : ∀ x ∈ cd_X3_isPlain, OpOK qMT cX3_isPlain RX3 5 (some .boolean) ini 0 0 none x.1 x.2 :=
  kc (ok_iconst dX3_isPlain_0 (by decide)) (
  kc (ok_istore_n dX3_isPlain_1 rfl) (
  kc (ok_iload_n dX3_isPlain_2 rfl) (
  kc (ok_iload_n dX3_isPlain_3 rfl) (
  kc (ok_cm_ge dX3_isPlain_4 (by decide)) (
  kc (ok_lload_n dX3_isPlain_7 rfl) (
  kc (ok_iload_n dX3_isPlain_8 rfl) (
  kc (ok_callS dX3_isPlain_9 qm_37 rfl rfl hw_333 hw_334 qp_37) (
  kc (ok_istore dX3_isPlain_12) (
  kc (ok_iload dX3_isPlain_14) (
  kc (ok_bipush dX3_isPlain_16 (by decide)) (
  kc (ok_cm_lt dX3_isPlain_18 (by decide)) (
  kc (ok_iload dX3_isPlain_21) (
  kc (ok_bipush dX3_isPlain_23 (by decide)) (
  kc (ok_cm_le dX3_isPlain_25 (by decide)) (
  kc (ok_iconst dX3_isPlain_28 (by decide)) (
  kc (ok_retZ dX3_isPlain_29 rfl) (
  kc (ok_iinc dX3_isPlain_30 (by decide)) (
  kc (ok_goto dX3_isPlain_33 (by decide)) (
  kc (ok_iconst dX3_isPlain_36 (by decide)) (
  kc (ok_retZ dX3_isPlain_37 rfl) (
  kn)))))))))))))))))))))
def cd_X3_add : List (Nat × qOp) := [
  (0, oLdI 3 1),
  (1, oI (1) 2),
  (2, oBin (fun x y => x - y) 3),
  (3, oStI 4 5),
  (5, oLdI 4 7),
  (7, oIfLt 53 10),
  (10, oLdA 0 11),
  (11, oGet 3 2 14),
  (14, oLdA 0 15),
  (15, oGet 3 0 18),
  (18, oLen 19),
  (19, oCmGe 53 22),
  (22, oLdA 0 23),
  (23, oGet 3 0 26),
  (26, oLdA 0 27),
  (27, oGet 3 2 30),
  (30, oLdL 1 31),
  (31, oLdI 4 33),
  (33, oCallS 37 2 0 0 0 0 36),
  (36, oASt 37),
  (37, oLdA 0 38),
  (38, oDup 39),
  (39, oGet 3 2 42),
  (42, oI (1) 43),
  (43, oBin (fun x y => x + y) 44),
  (44, oPutI 3 2 47),
  (47, oInc 4 (-1) 50),
  (50, oGoto 5),
  (53, oRetV)]
set_option maxRecDepth 100000 in
theorem ck_X3_add {ini : Bool} : ∀ x ∈ cd_X3_add, OpOK qMT cX3_add RX3 5 none ini 0 0 none x.1 x.2 :=
  kc (ok_iload_n dX3_add_0 rfl) (
  kc (ok_iconst dX3_add_1 (by decide)) (
  kc (ok_isub dX3_add_2) (
  kc (ok_istore dX3_add_3) (
  kc (ok_iload dX3_add_5) (
  kc (ok_if_lt dX3_add_7 (by decide)) (
  kc (ok_aload_n dX3_add_10 rfl) (
  kc (ok_get (T := TX3) (k := 2) dX3_add_11 rfl hin_X3 (by decide) hw_178) (
  kc (ok_aload_n dX3_add_14 rfl) (
  kc (ok_get (T := TX3) (k := 0) dX3_add_15 rfl hin_X3 (by decide) hw_176) (
  kc (ok_alen dX3_add_18) (
  kc (ok_cm_ge dX3_add_19 (by decide)) (
  kc (ok_aload_n dX3_add_22 rfl) (
  kc (ok_get (T := TX3) (k := 0) dX3_add_23 rfl hin_X3 (by decide) hw_176) (
  kc (ok_aload_n dX3_add_26 rfl) (
  kc (ok_get (T := TX3) (k := 2) dX3_add_27 rfl hin_X3 (by decide) hw_178) (
  kc (ok_lload_n dX3_add_30 rfl) (
  kc (ok_iload dX3_add_31) (
  kc (ok_callS dX3_add_33 qm_37 rfl rfl hw_333 hw_334 qp_37) (
  kc (ok_iastore dX3_add_36) (
  kc (ok_aload_n dX3_add_37 rfl) (
  kc (ok_dup dX3_add_38) (
  kc (ok_get (T := TX3) (k := 2) dX3_add_39 rfl hin_X3 (by decide) hw_178) (
  kc (ok_iconst dX3_add_42 (by decide)) (
  kc (ok_iadd dX3_add_43) (
  kc (ok_putI (T := TX3) (k := 2) dX3_add_44 rfl hin_X3 tyX3_ok nmX3 (by decide) hw_178 rfl (tyX3_ok 2 (by decide))) (
  kc (ok_iinc dX3_add_47 (by decide)) (
  kc (ok_goto dX3_add_50 (by decide)) (
  kc (ok_retV dX3_add_53 rfl) (
  kn)))))))))))))))))))))))))))))
def cd_X3_nextSign : List (Nat × qOp) := [
  (0, oLdA 0 1),
  (1, oGet 3 1 4),
  (4, oLdA 0 5),
  (5, oGet 3 2 8),
  (8, oCmGe 38 11),
  (11, oLdA 0 12),
  (12, oGet 3 0 15),
  (15, oLdA 0 16),
  (16, oGet 3 1 19),
  (19, oALd 20),
  (20, oI (32) 22),
  (22, oCmNe 38 25),
  (25, oLdA 0 26),
  (26, oDup 27),
  (27, oGet 3 1 30),
  (30, oI (1) 31),
  (31, oBin (fun x y => x + y) 32),
  (32, oPutI 3 1 35),
  (35, oGoto 0),
  (38, oLdA 0 39),
  (39, oGet 3 1 42),
  (42, oLdA 0 43),
  (43, oGet 3 2 46),
  (46, oCmGe 61 49),
  (49, oLdA 0 50),
  (50, oGet 3 0 53),
  (53, oLdA 0 54),
  (54, oGet 3 1 57),
  (57, oALd 58),
  (58, oGoto 62),
  (61, oI (-1) 62),
  (62, oRetI)]
set_option maxRecDepth 100000 in
theorem ck_X3_nextSign {ini : Bool} : ∀ x ∈ cd_X3_nextSign, OpOK qMT cX3_nextSign RX3 1 (some .int) ini 0 0 none x.1 x.2 :=
  kc (ok_aload_n dX3_nextSign_0 rfl) (
  kc (ok_get (T := TX3) (k := 1) dX3_nextSign_1 rfl hin_X3 (by decide) hw_177) (
  kc (ok_aload_n dX3_nextSign_4 rfl) (
  kc (ok_get (T := TX3) (k := 2) dX3_nextSign_5 rfl hin_X3 (by decide) hw_178) (
  kc (ok_cm_ge dX3_nextSign_8 (by decide)) (
  kc (ok_aload_n dX3_nextSign_11 rfl) (
  kc (ok_get (T := TX3) (k := 0) dX3_nextSign_12 rfl hin_X3 (by decide) hw_176) (
  kc (ok_aload_n dX3_nextSign_15 rfl) (
  kc (ok_get (T := TX3) (k := 1) dX3_nextSign_16 rfl hin_X3 (by decide) hw_177) (
  kc (ok_iaload dX3_nextSign_19) (
  kc (ok_bipush dX3_nextSign_20 (by decide)) (
  kc (ok_cm_ne dX3_nextSign_22 (by decide)) (
  kc (ok_aload_n dX3_nextSign_25 rfl) (
  kc (ok_dup dX3_nextSign_26) (
  kc (ok_get (T := TX3) (k := 1) dX3_nextSign_27 rfl hin_X3 (by decide) hw_177) (
  kc (ok_iconst dX3_nextSign_30 (by decide)) (
  kc (ok_iadd dX3_nextSign_31) (
  kc (ok_putI (T := TX3) (k := 1) dX3_nextSign_32 rfl hin_X3 tyX3_ok nmX3 (by decide) hw_177 rfl (tyX3_ok 1 (by decide))) (
  kc (ok_goto dX3_nextSign_35 (by decide)) (
  kc (ok_aload_n dX3_nextSign_38 rfl) (
  kc (ok_get (T := TX3) (k := 1) dX3_nextSign_39 rfl hin_X3 (by decide) hw_177) (
  kc (ok_aload_n dX3_nextSign_42 rfl) (
  kc (ok_get (T := TX3) (k := 2) dX3_nextSign_43 rfl hin_X3 (by decide) hw_178) (
  kc (ok_cm_ge dX3_nextSign_46 (by decide)) (
  kc (ok_aload_n dX3_nextSign_49 rfl) (
  kc (ok_get (T := TX3) (k := 0) dX3_nextSign_50 rfl hin_X3 (by decide) hw_176) (
  kc (ok_aload_n dX3_nextSign_53 rfl) (
  kc (ok_get (T := TX3) (k := 1) dX3_nextSign_54 rfl hin_X3 (by decide) hw_177) (
  kc (ok_iaload dX3_nextSign_57) (
  kc (ok_goto dX3_nextSign_58 (by decide)) (
  kc (ok_iconst dX3_nextSign_61 (by decide)) (
  kc (ok_retI dX3_nextSign_62 rfl) (
  kn))))))))))))))))))))))))))))))))
def cd_X3_fault : List (Nat × qOp) := [
  (0, oI (-20) 2),
  (2, oLdA 0 3),
  (3, oGet 3 1 6),
  (6, oBin (fun x y => x - y) 7),
  (7, oRetI)]
set_option maxRecDepth 100000 in
theorem ck_X3_fault {ini : Bool} : ∀ x ∈ cd_X3_fault, OpOK qMT cX3_fault RX3 1 (some .int) ini 0 0 none x.1 x.2 :=
  kc (ok_bipush dX3_fault_0 (by decide)) (
  kc (ok_aload_n dX3_fault_2 rfl) (
  kc (ok_get (T := TX3) (k := 1) dX3_fault_3 rfl hin_X3 (by decide) hw_177) (
  kc (ok_isub dX3_fault_6) (
  kc (ok_retI dX3_fault_7 rfl) (
  kn)))))
def cd_X3_readThings : List (Nat × qOp) := [
  (0, oLdA 0 1),
  (1, oI (0) 2),
  (2, oPutI 3 1 5),
  (5, oI (0) 6),
  (6, oStI 1 7),
  (7, oLdI 1 8),
  (8, oI (8) 10),
  (10, oCmGe 69 13),
  (13, oLdA 0 14),
  (14, oLdI 1 15),
  (15, oI (7) 17),
  (17, oBin (fun x y => x * y) 18),
  (18, oCallV 43 3 1 0 0 0 0 21),
  (21, oIfEq 69 24),
  (24, oInc 1 (1) 27),
  (27, oLdA 0 28),
  (28, oCallV 40 3 0 0 0 0 0 31),
  (31, oStI 2 32),
  (32, oLdI 2 33),
  (33, oI (-1) 34),
  (34, oCmNe 39 37),
  (37, oLdI 1 38),
  (38, oRetI),
  (39, oLdI 2 40),
  (40, oI (59) 42),
  (42, oCmNe 51 45),
  (45, oLdI 1 46),
  (46, oI (8) 48),
  (48, oCmNe 56 51),
  (51, oLdA 0 52),
  (52, oCallV 41 3 0 0 0 0 0 55),
  (55, oRetI),
  (56, oLdA 0 57),
  (57, oDup 58),
  (58, oGet 3 1 61),
  (61, oI (1) 62),
  (62, oBin (fun x y => x + y) 63),
  (63, oPutI 3 1 66),
  (66, oGoto 7),
  (69, oLdA 0 70),
  (70, oCallV 41 3 0 0 0 0 0 73),
  (73, oRetI)]
set_option maxRecDepth 100000 in
theorem ck_X3_readThings {ini : Bool} : ∀ x ∈ cd_X3_readThings, OpOK qMT cX3_readThings RX3 3 (some .int) ini 0 0 none x.1 x.2 :=
  kc (ok_aload_n dX3_readThings_0 rfl) (
  kc (ok_iconst dX3_readThings_1 (by decide)) (
  kc (ok_putI (T := TX3) (k := 1) dX3_readThings_2 rfl hin_X3 tyX3_ok nmX3 (by decide) hw_177 rfl (tyX3_ok 1 (by decide))) (
  kc (ok_iconst dX3_readThings_5 (by decide)) (
  kc (ok_istore_n dX3_readThings_6 rfl) (
  kc (ok_iload_n dX3_readThings_7 rfl) (
  kc (ok_bipush dX3_readThings_8 (by decide)) (
  kc (ok_cm_ge dX3_readThings_10 (by decide)) (
  kc (ok_aload_n dX3_readThings_13 rfl) (
  kc (ok_iload_n dX3_readThings_14 rfl) (
  kc (ok_bipush dX3_readThings_15 (by decide)) (
  kc (ok_imul dX3_readThings_17) (
  kc (ok_callV (T := TX3) dX3_readThings_18 qm_43 rfl rfl rfl hw_348 hw_350 hw_2 qp_43) (
  kc (ok_if_eq dX3_readThings_21 (by decide)) (
  kc (ok_iinc dX3_readThings_24 (by decide)) (
  kc (ok_aload_n dX3_readThings_27 rfl) (
  kc (ok_callV (T := TX3) dX3_readThings_28 qm_40 rfl rfl rfl hw_352 hw_354 hw_3 qp_40) (
  kc (ok_istore_n dX3_readThings_31 rfl) (
  kc (ok_iload_n dX3_readThings_32 rfl) (
  kc (ok_iconst dX3_readThings_33 (by decide)) (
  kc (ok_cm_ne dX3_readThings_34 (by decide)) (
  kc (ok_iload_n dX3_readThings_37 rfl) (
  kc (ok_retI dX3_readThings_38 rfl) (
  kc (ok_iload_n dX3_readThings_39 rfl) (
  kc (ok_bipush dX3_readThings_40 (by decide)) (
  kc (ok_cm_ne dX3_readThings_42 (by decide)) (
  kc (ok_iload_n dX3_readThings_45 rfl) (
  kc (ok_bipush dX3_readThings_46 (by decide)) (
  kc (ok_cm_ne dX3_readThings_48 (by decide)) (
  kc (ok_aload_n dX3_readThings_51 rfl) (
  kc (ok_callV (T := TX3) dX3_readThings_52 qm_41 rfl rfl rfl hw_356 hw_358 hw_4 qp_41) (
  kc (ok_retI dX3_readThings_55 rfl) (
  kc (ok_aload_n dX3_readThings_56 rfl) (
  kc (ok_dup dX3_readThings_57) (
  kc (ok_get (T := TX3) (k := 1) dX3_readThings_58 rfl hin_X3 (by decide) hw_177) (
  kc (ok_iconst dX3_readThings_61 (by decide)) (
  kc (ok_iadd dX3_readThings_62) (
  kc (ok_putI (T := TX3) (k := 1) dX3_readThings_63 rfl hin_X3 tyX3_ok nmX3 (by decide) hw_177 rfl (tyX3_ok 1 (by decide))) (
  kc (ok_goto dX3_readThings_66 (by decide)) (
  kc (ok_aload_n dX3_readThings_69 rfl) (
  kc (ok_callV (T := TX3) dX3_readThings_70 qm_41 rfl rfl rfl hw_356 hw_358 hw_4 qp_41) (
  kc (ok_retI dX3_readThings_73 rfl) (
  kn))))))))))))))))))))))))))))))))))))))))))
def cd_X3_readThing : List (Nat × qOp) := [
  (0, oLdA 0 1),
  (1, oCallV 40 3 0 0 0 0 0 4),
  (4, oStI 2 5),
  (5, oLdI 2 6),
  (6, oI (45) 8),
  (8, oCmNe 22 11),
  (11, oLdA 0 12),
  (12, oGet 3 3 15),
  (15, oLdI 1 16),
  (16, oI (6) 18),
  (18, oASt 19),
  (19, oGoto 49),
  (22, oLdI 2 23),
  (23, oI (48) 25),
  (25, oCmLt 47 28),
  (28, oLdI 2 29),
  (29, oI (54) 31),
  (31, oCmGe 47 34),
  (34, oLdA 0 35),
  (35, oGet 3 3 38),
  (38, oLdI 1 39),
  (39, oLdI 2 40),
  (40, oI (48) 42),
  (42, oBin (fun x y => x - y) 43),
  (43, oASt 44),
  (44, oGoto 49),
  (47, oI (0) 48),
  (48, oRetZ),
  (49, oLdA 0 50),
  (50, oDup 51),
  (51, oGet 3 1 54),
  (54, oI (1) 55),
  (55, oBin (fun x y => x + y) 56),
  (56, oPutI 3 1 59),
  (59, oI (1) 60),
  (60, oStI 3 61),
  (61, oLdI 3 62),
  (62, oI (7) 64),
  (64, oCmGe 114 67),
  (67, oLdA 0 68),
  (68, oCallV 40 3 0 0 0 0 0 71),
  (71, oStI 2 72),
  (72, oLdI 2 73),
  (73, oI (48) 75),
  (75, oCmLt 84 78),
  (78, oLdI 2 79),
  (79, oI (57) 81),
  (81, oCmLe 86 84),
  (84, oI (0) 85),
  (85, oRetZ),
  (86, oLdA 0 87),
  (87, oGet 3 3 90),
  (90, oLdI 1 91),
  (91, oLdI 3 92),
  (92, oBin (fun x y => x + y) 93),
  (93, oLdI 2 94),
  (94, oI (48) 96),
  (96, oBin (fun x y => x - y) 97),
  (97, oASt 98),
  (98, oLdA 0 99),
  (99, oDup 100),
  (100, oGet 3 1 103),
  (103, oI (1) 104),
  (104, oBin (fun x y => x + y) 105),
  (105, oPutI 3 1 108),
  (108, oInc 3 (1) 111),
  (111, oGoto 61),
  (114, oI (1) 115),
  (115, oRetZ)]
set_option maxRecDepth 100000 in
theorem ck_X3_readThing {ini : Bool} : ∀ x ∈ cd_X3_readThing, OpOK qMT cX3_readThing RX3 4 (some .boolean) ini 0 0 none x.1 x.2 :=
  kc (ok_aload_n dX3_readThing_0 rfl) (
  kc (ok_callV (T := TX3) dX3_readThing_1 qm_40 rfl rfl rfl hw_352 hw_354 hw_3 qp_40) (
  kc (ok_istore_n dX3_readThing_4 rfl) (
  kc (ok_iload_n dX3_readThing_5 rfl) (
  kc (ok_bipush dX3_readThing_6 (by decide)) (
  kc (ok_cm_ne dX3_readThing_8 (by decide)) (
  kc (ok_aload_n dX3_readThing_11 rfl) (
  kc (ok_get (T := TX3) (k := 3) dX3_readThing_12 rfl hin_X3 (by decide) hw_180) (
  kc (ok_iload_n dX3_readThing_15 rfl) (
  kc (ok_bipush dX3_readThing_16 (by decide)) (
  kc (ok_iastore dX3_readThing_18) (
  kc (ok_goto dX3_readThing_19 (by decide)) (
  kc (ok_iload_n dX3_readThing_22 rfl) (
  kc (ok_bipush dX3_readThing_23 (by decide)) (
  kc (ok_cm_lt dX3_readThing_25 (by decide)) (
  kc (ok_iload_n dX3_readThing_28 rfl) (
  kc (ok_bipush dX3_readThing_29 (by decide)) (
  kc (ok_cm_ge dX3_readThing_31 (by decide)) (
  kc (ok_aload_n dX3_readThing_34 rfl) (
  kc (ok_get (T := TX3) (k := 3) dX3_readThing_35 rfl hin_X3 (by decide) hw_180) (
  kc (ok_iload_n dX3_readThing_38 rfl) (
  kc (ok_iload_n dX3_readThing_39 rfl) (
  kc (ok_bipush dX3_readThing_40 (by decide)) (
  kc (ok_isub dX3_readThing_42) (
  kc (ok_iastore dX3_readThing_43) (
  kc (ok_goto dX3_readThing_44 (by decide)) (
  kc (ok_iconst dX3_readThing_47 (by decide)) (
  kc (ok_retZ dX3_readThing_48 rfl) (
  kc (ok_aload_n dX3_readThing_49 rfl) (
  kc (ok_dup dX3_readThing_50) (
  kc (ok_get (T := TX3) (k := 1) dX3_readThing_51 rfl hin_X3 (by decide) hw_177) (
  kc (ok_iconst dX3_readThing_54 (by decide)) (
  kc (ok_iadd dX3_readThing_55) (
  kc (ok_putI (T := TX3) (k := 1) dX3_readThing_56 rfl hin_X3 tyX3_ok nmX3 (by decide) hw_177 rfl (tyX3_ok 1 (by decide))) (
  kc (ok_iconst dX3_readThing_59 (by decide)) (
  kc (ok_istore_n dX3_readThing_60 rfl) (
  kc (ok_iload_n dX3_readThing_61 rfl) (
  kc (ok_bipush dX3_readThing_62 (by decide)) (
  kc (ok_cm_ge dX3_readThing_64 (by decide)) (
  kc (ok_aload_n dX3_readThing_67 rfl) (
  kc (ok_callV (T := TX3) dX3_readThing_68 qm_40 rfl rfl rfl hw_352 hw_354 hw_3 qp_40) (
  kc (ok_istore_n dX3_readThing_71 rfl) (
  kc (ok_iload_n dX3_readThing_72 rfl) (
  kc (ok_bipush dX3_readThing_73 (by decide)) (
  kc (ok_cm_lt dX3_readThing_75 (by decide)) (
  kc (ok_iload_n dX3_readThing_78 rfl) (
  kc (ok_bipush dX3_readThing_79 (by decide)) (
  kc (ok_cm_le dX3_readThing_81 (by decide)) (
  kc (ok_iconst dX3_readThing_84 (by decide)) (
  kc (ok_retZ dX3_readThing_85 rfl) (
  kc (ok_aload_n dX3_readThing_86 rfl) (
  kc (ok_get (T := TX3) (k := 3) dX3_readThing_87 rfl hin_X3 (by decide) hw_180) (
  kc (ok_iload_n dX3_readThing_90 rfl) (
  kc (ok_iload_n dX3_readThing_91 rfl) (
  kc (ok_iadd dX3_readThing_92) (
  kc (ok_iload_n dX3_readThing_93 rfl) (
  kc (ok_bipush dX3_readThing_94 (by decide)) (
  kc (ok_isub dX3_readThing_96) (
  kc (ok_iastore dX3_readThing_97) (
  kc (ok_aload_n dX3_readThing_98 rfl) (
  kc (ok_dup dX3_readThing_99) (
  kc (ok_get (T := TX3) (k := 1) dX3_readThing_100 rfl hin_X3 (by decide) hw_177) (
  kc (ok_iconst dX3_readThing_103 (by decide)) (
  kc (ok_iadd dX3_readThing_104) (
  kc (ok_putI (T := TX3) (k := 1) dX3_readThing_105 rfl hin_X3 tyX3_ok nmX3 (by decide) hw_177 rfl (tyX3_ok 1 (by decide))) (
  kc (ok_iinc dX3_readThing_108 (by decide)) (
  kc (ok_goto dX3_readThing_111 (by decide)) (
  kc (ok_iconst dX3_readThing_114 (by decide)) (
  kc (ok_retZ dX3_readThing_115 rfl) (
  kn)))))))))))))))))))))))))))))))))))))))))))))))))))))))))))))))))))))
def cd_X3_readSuits : List (Nat × qOp) := [
  (0, oLdA 0 1),
  (1, oI (0) 2),
  (2, oPutI 3 1 5),
  (5, oI (0) 6),
  (6, oStI 2 7),
  (7, oLdI 2 8),
  (8, oI (12) 10),
  (10, oCmGe 69 13),
  (13, oLdA 0 14),
  (14, oI (2) 15),
  (15, oLdI 2 16),
  (16, oBin (fun x y => x * y) 17),
  (17, oLdI 1 18),
  (18, oCallV 45 3 2 0 0 0 0 21),
  (21, oIfEq 69 24),
  (24, oInc 2 (1) 27),
  (27, oLdA 0 28),
  (28, oCallV 40 3 0 0 0 0 0 31),
  (31, oStI 3 32),
  (32, oLdI 3 33),
  (33, oI (-1) 34),
  (34, oCmNe 39 37),
  (37, oLdI 2 38),
  (38, oRetI),
  (39, oLdI 3 40),
  (40, oI (44) 42),
  (42, oCmNe 51 45),
  (45, oLdI 2 46),
  (46, oI (12) 48),
  (48, oCmNe 56 51),
  (51, oLdA 0 52),
  (52, oCallV 41 3 0 0 0 0 0 55),
  (55, oRetI),
  (56, oLdA 0 57),
  (57, oDup 58),
  (58, oGet 3 1 61),
  (61, oI (1) 62),
  (62, oBin (fun x y => x + y) 63),
  (63, oPutI 3 1 66),
  (66, oGoto 7),
  (69, oLdA 0 70),
  (70, oCallV 41 3 0 0 0 0 0 73),
  (73, oRetI)]
set_option maxRecDepth 100000 in
theorem ck_X3_readSuits {ini : Bool} : ∀ x ∈ cd_X3_readSuits, OpOK qMT cX3_readSuits RX3 4 (some .int) ini 0 0 none x.1 x.2 :=
  kc (ok_aload_n dX3_readSuits_0 rfl) (
  kc (ok_iconst dX3_readSuits_1 (by decide)) (
  kc (ok_putI (T := TX3) (k := 1) dX3_readSuits_2 rfl hin_X3 tyX3_ok nmX3 (by decide) hw_177 rfl (tyX3_ok 1 (by decide))) (
  kc (ok_iconst dX3_readSuits_5 (by decide)) (
  kc (ok_istore_n dX3_readSuits_6 rfl) (
  kc (ok_iload_n dX3_readSuits_7 rfl) (
  kc (ok_bipush dX3_readSuits_8 (by decide)) (
  kc (ok_cm_ge dX3_readSuits_10 (by decide)) (
  kc (ok_aload_n dX3_readSuits_13 rfl) (
  kc (ok_iconst dX3_readSuits_14 (by decide)) (
  kc (ok_iload_n dX3_readSuits_15 rfl) (
  kc (ok_imul dX3_readSuits_16) (
  kc (ok_iload_n dX3_readSuits_17 rfl) (
  kc (ok_callV (T := TX3) dX3_readSuits_18 qm_45 rfl rfl rfl hw_375 hw_377 hw_5 qp_45) (
  kc (ok_if_eq dX3_readSuits_21 (by decide)) (
  kc (ok_iinc dX3_readSuits_24 (by decide)) (
  kc (ok_aload_n dX3_readSuits_27 rfl) (
  kc (ok_callV (T := TX3) dX3_readSuits_28 qm_40 rfl rfl rfl hw_352 hw_354 hw_3 qp_40) (
  kc (ok_istore_n dX3_readSuits_31 rfl) (
  kc (ok_iload_n dX3_readSuits_32 rfl) (
  kc (ok_iconst dX3_readSuits_33 (by decide)) (
  kc (ok_cm_ne dX3_readSuits_34 (by decide)) (
  kc (ok_iload_n dX3_readSuits_37 rfl) (
  kc (ok_retI dX3_readSuits_38 rfl) (
  kc (ok_iload_n dX3_readSuits_39 rfl) (
  kc (ok_bipush dX3_readSuits_40 (by decide)) (
  kc (ok_cm_ne dX3_readSuits_42 (by decide)) (
  kc (ok_iload_n dX3_readSuits_45 rfl) (
  kc (ok_bipush dX3_readSuits_46 (by decide)) (
  kc (ok_cm_ne dX3_readSuits_48 (by decide)) (
  kc (ok_aload_n dX3_readSuits_51 rfl) (
  kc (ok_callV (T := TX3) dX3_readSuits_52 qm_41 rfl rfl rfl hw_356 hw_358 hw_4 qp_41) (
  kc (ok_retI dX3_readSuits_55 rfl) (
  kc (ok_aload_n dX3_readSuits_56 rfl) (
  kc (ok_dup dX3_readSuits_57) (
  kc (ok_get (T := TX3) (k := 1) dX3_readSuits_58 rfl hin_X3 (by decide) hw_177) (
  kc (ok_iconst dX3_readSuits_61 (by decide)) (
  kc (ok_iadd dX3_readSuits_62) (
  kc (ok_putI (T := TX3) (k := 1) dX3_readSuits_63 rfl hin_X3 tyX3_ok nmX3 (by decide) hw_177 rfl (tyX3_ok 1 (by decide))) (
  kc (ok_goto dX3_readSuits_66 (by decide)) (
  kc (ok_aload_n dX3_readSuits_69 rfl) (
  kc (ok_callV (T := TX3) dX3_readSuits_70 qm_41 rfl rfl rfl hw_356 hw_358 hw_4 qp_41) (
  kc (ok_retI dX3_readSuits_73 rfl) (
  kn)))))))))))))))))))))))))))))))))))))))))))
def cd_X3_readSuit : List (Nat × qOp) := [
  (0, oLdA 0 1),
  (1, oCallV 40 3 0 0 0 0 0 4),
  (4, oLdI 2 5),
  (5, oCallS 46 2 0 0 0 0 8),
  (8, oStI 3 9),
  (9, oLdI 3 10),
  (10, oIfGe 15 13),
  (13, oI (0) 14),
  (14, oRetZ),
  (15, oLdA 0 16),
  (16, oDup 17),
  (17, oGet 3 1 20),
  (20, oI (1) 21),
  (21, oBin (fun x y => x + y) 22),
  (22, oPutI 3 1 25),
  (25, oLdA 0 26),
  (26, oCallV 40 3 0 0 0 0 0 29),
  (29, oLdI 2 30),
  (30, oCallS 46 2 0 0 0 0 33),
  (33, oStI 4 35),
  (35, oLdI 4 37),
  (37, oIfLt 46 40),
  (40, oLdI 4 42),
  (42, oLdI 3 43),
  (43, oCmNe 48 46),
  (46, oI (0) 47),
  (47, oRetZ),
  (48, oLdA 0 49),
  (49, oDup 50),
  (50, oGet 3 1 53),
  (53, oI (1) 54),
  (54, oBin (fun x y => x + y) 55),
  (55, oPutI 3 1 58),
  (58, oLdA 0 59),
  (59, oGet 3 3 62),
  (62, oLdI 1 63),
  (63, oLdI 3 64),
  (64, oASt 65),
  (65, oLdA 0 66),
  (66, oGet 3 3 69),
  (69, oLdI 1 70),
  (70, oI (1) 71),
  (71, oBin (fun x y => x + y) 72),
  (72, oLdI 4 74),
  (74, oASt 75),
  (75, oI (1) 76),
  (76, oRetZ)]
set_option maxRecDepth 100000 in
theorem ck_X3_readSuit {ini : Bool} : ∀ x ∈ cd_X3_readSuit, OpOK qMT cX3_readSuit RX3 5 (some .boolean) ini 0 0 none x.1 x.2 :=
  kc (ok_aload_n dX3_readSuit_0 rfl) (
  kc (ok_callV (T := TX3) dX3_readSuit_1 qm_40 rfl rfl rfl hw_352 hw_354 hw_3 qp_40) (
  kc (ok_iload_n dX3_readSuit_4 rfl) (
  kc (ok_callS dX3_readSuit_5 qm_46 rfl rfl hw_379 hw_380 qp_46) (
  kc (ok_istore_n dX3_readSuit_8 rfl) (
  kc (ok_iload_n dX3_readSuit_9 rfl) (
  kc (ok_if_ge dX3_readSuit_10 (by decide)) (
  kc (ok_iconst dX3_readSuit_13 (by decide)) (
  kc (ok_retZ dX3_readSuit_14 rfl) (
  kc (ok_aload_n dX3_readSuit_15 rfl) (
  kc (ok_dup dX3_readSuit_16) (
  kc (ok_get (T := TX3) (k := 1) dX3_readSuit_17 rfl hin_X3 (by decide) hw_177) (
  kc (ok_iconst dX3_readSuit_20 (by decide)) (
  kc (ok_iadd dX3_readSuit_21) (
  kc (ok_putI (T := TX3) (k := 1) dX3_readSuit_22 rfl hin_X3 tyX3_ok nmX3 (by decide) hw_177 rfl (tyX3_ok 1 (by decide))) (
  kc (ok_aload_n dX3_readSuit_25 rfl) (
  kc (ok_callV (T := TX3) dX3_readSuit_26 qm_40 rfl rfl rfl hw_352 hw_354 hw_3 qp_40) (
  kc (ok_iload_n dX3_readSuit_29 rfl) (
  kc (ok_callS dX3_readSuit_30 qm_46 rfl rfl hw_379 hw_380 qp_46) (
  kc (ok_istore dX3_readSuit_33) (
  kc (ok_iload dX3_readSuit_35) (
  kc (ok_if_lt dX3_readSuit_37 (by decide)) (
  kc (ok_iload dX3_readSuit_40) (
  kc (ok_iload_n dX3_readSuit_42 rfl) (
  kc (ok_cm_ne dX3_readSuit_43 (by decide)) (
  kc (ok_iconst dX3_readSuit_46 (by decide)) (
  kc (ok_retZ dX3_readSuit_47 rfl) (
  kc (ok_aload_n dX3_readSuit_48 rfl) (
  kc (ok_dup dX3_readSuit_49) (
  kc (ok_get (T := TX3) (k := 1) dX3_readSuit_50 rfl hin_X3 (by decide) hw_177) (
  kc (ok_iconst dX3_readSuit_53 (by decide)) (
  kc (ok_iadd dX3_readSuit_54) (
  kc (ok_putI (T := TX3) (k := 1) dX3_readSuit_55 rfl hin_X3 tyX3_ok nmX3 (by decide) hw_177 rfl (tyX3_ok 1 (by decide))) (
  kc (ok_aload_n dX3_readSuit_58 rfl) (
  kc (ok_get (T := TX3) (k := 3) dX3_readSuit_59 rfl hin_X3 (by decide) hw_180) (
  kc (ok_iload_n dX3_readSuit_62 rfl) (
  kc (ok_iload_n dX3_readSuit_63 rfl) (
  kc (ok_iastore dX3_readSuit_64) (
  kc (ok_aload_n dX3_readSuit_65 rfl) (
  kc (ok_get (T := TX3) (k := 3) dX3_readSuit_66 rfl hin_X3 (by decide) hw_180) (
  kc (ok_iload_n dX3_readSuit_69 rfl) (
  kc (ok_iconst dX3_readSuit_70 (by decide)) (
  kc (ok_iadd dX3_readSuit_71) (
  kc (ok_iload dX3_readSuit_72) (
  kc (ok_iastore dX3_readSuit_74) (
  kc (ok_iconst dX3_readSuit_75 (by decide)) (
  kc (ok_retZ dX3_readSuit_76 rfl) (
  kn)))))))))))))))))))))))))))))))))))))))))))))))
def cd_X3_sideOf : List (Nat × qOp) := [
  (0, oLdI 0 1),
  (1, oI (97) 3),
  (3, oCmLt 19 6),
  (6, oLdI 0 7),
  (7, oI (97) 9),
  (9, oLdI 1 10),
  (10, oBin (fun x y => x + y) 11),
  (11, oCmGe 19 14),
  (14, oLdI 0 15),
  (15, oI (97) 17),
  (17, oBin (fun x y => x - y) 18),
  (18, oRetI),
  (19, oLdI 0 20),
  (20, oI (48) 22),
  (22, oCmLt 39 25),
  (25, oLdI 0 26),
  (26, oI (54) 28),
  (28, oCmGe 39 31),
  (31, oI (10) 33),
  (33, oLdI 0 34),
  (34, oBin (fun x y => x + y) 35),
  (35, oI (48) 37),
  (37, oBin (fun x y => x - y) 38),
  (38, oRetI),
  (39, oI (-1) 40),
  (40, oRetI)]
set_option maxRecDepth 100000 in
theorem ck_X3_sideOf {ini : Bool} : ∀ x ∈ cd_X3_sideOf, OpOK qMT cX3_sideOf RX3 2 (some .int) ini 0 0 none x.1 x.2 :=
  kc (ok_iload_n dX3_sideOf_0 rfl) (
  kc (ok_bipush dX3_sideOf_1 (by decide)) (
  kc (ok_cm_lt dX3_sideOf_3 (by decide)) (
  kc (ok_iload_n dX3_sideOf_6 rfl) (
  kc (ok_bipush dX3_sideOf_7 (by decide)) (
  kc (ok_iload_n dX3_sideOf_9 rfl) (
  kc (ok_iadd dX3_sideOf_10) (
  kc (ok_cm_ge dX3_sideOf_11 (by decide)) (
  kc (ok_iload_n dX3_sideOf_14 rfl) (
  kc (ok_bipush dX3_sideOf_15 (by decide)) (
  kc (ok_isub dX3_sideOf_17) (
  kc (ok_retI dX3_sideOf_18 rfl) (
  kc (ok_iload_n dX3_sideOf_19 rfl) (
  kc (ok_bipush dX3_sideOf_20 (by decide)) (
  kc (ok_cm_lt dX3_sideOf_22 (by decide)) (
  kc (ok_iload_n dX3_sideOf_25 rfl) (
  kc (ok_bipush dX3_sideOf_26 (by decide)) (
  kc (ok_cm_ge dX3_sideOf_28 (by decide)) (
  kc (ok_bipush dX3_sideOf_31 (by decide)) (
  kc (ok_iload_n dX3_sideOf_33 rfl) (
  kc (ok_iadd dX3_sideOf_34) (
  kc (ok_bipush dX3_sideOf_35 (by decide)) (
  kc (ok_isub dX3_sideOf_37) (
  kc (ok_retI dX3_sideOf_38 rfl) (
  kc (ok_iconst dX3_sideOf_39 (by decide)) (
  kc (ok_retI dX3_sideOf_40 rfl) (
  kn))))))))))))))))))))))))))
def cd_X4_init : List (Nat × qOp) := [
  (0, oLdA 0 1),
  (1, oObj 4),
  (4, oLdA 0 5),
  (5, oNew 0 7 [some none, some none, some none, some none, none, none, none] 8 101 8),
  (8, oDup 9),
  (9, oCallI 0 0 4 34 8 101 12),
  (12, oPutF 4 0 15),
  (15, oLdA 0 16),
  (16, oI (6) 18),
  (18, oNewI 8 101 20),
  (20, oPutF 4 1 23),
  (23, oLdA 0 24),
  (24, oI (6) 26),
  (26, oNewI 8 101 28),
  (28, oPutF 4 2 31),
  (31, oLdA 0 32),
  (32, oI (48) 34),
  (34, oNewI 8 101 36),
  (36, oPutF 4 3 39),
  (39, oLdA 0 40),
  (40, oI (0) 41),
  (41, oPutI 4 4 44),
  (44, oI (0) 45),
  (45, oStI 1 46),
  (46, oLdI 1 47),
  (47, oI (6) 49),
  (49, oCmGe 73 52),
  (52, oLdA 0 53),
  (53, oGet 4 1 56),
  (56, oLdI 1 57),
  (57, oI (50) 59),
  (59, oASt 60),
  (60, oLdA 0 61),
  (61, oGet 4 2 64),
  (64, oLdI 1 65),
  (65, oI (3) 66),
  (66, oASt 67),
  (67, oInc 1 (1) 70),
  (70, oGoto 46),
  (73, oRetV)]
set_option maxRecDepth 100000 in
theorem ck_X4_init {ini : Bool} (hi : ini = true) : ∀ x ∈ cd_X4_init, OpOK qMT cX4_init RX4 2 none ini 8 101 none x.1 x.2 :=
  kc (ok_aload_n dX4_init_0 rfl) (
  kc (ok_objInit dX4_init_1 hw_75 hw_68 hw_69) (
  kc (ok_aload_n dX4_init_4 rfl) (
  kc (ok_new (T := TX0) dX4_init_5 rfl hin_X0 tyX0_ok hw_76 hw_77 hw_54 rfl (by decide +kernel) (by decide)) (
  kc (ok_dup dX4_init_8) (
  kc (ok_callIN dX4_init_9 qm_0 rfl rfl (List.mem_of_getElem? (i := 0) rfl) hw_79 rfl rfl qp_0) (
  kc (ok_putF (T := TX4) (k := 0) dX4_init_12 rfl hin_X4 tyX4_ok nmX4 (by decide) hw_119 rfl rfl hi (tyX4_ok 0 (by decide)) (fun _ => ⟨rfl, rfl⟩)) (
  kc (ok_aload_n dX4_init_15 rfl) (
  kc (ok_bipush dX4_init_16 (by decide)) (
  kc (ok_newI dX4_init_18 hw_118) (
  kc (ok_putF (T := TX4) (k := 1) dX4_init_20 rfl hin_X4 tyX4_ok nmX4 (by decide) hw_121 rfl rfl hi (tyX4_ok 1 (by decide)) (fun _ => ⟨rfl, rfl⟩)) (
  kc (ok_aload_n dX4_init_23 rfl) (
  kc (ok_bipush dX4_init_24 (by decide)) (
  kc (ok_newI dX4_init_26 hw_118) (
  kc (ok_putF (T := TX4) (k := 2) dX4_init_28 rfl hin_X4 tyX4_ok nmX4 (by decide) hw_123 rfl rfl hi (tyX4_ok 2 (by decide)) (fun _ => ⟨rfl, rfl⟩)) (
  kc (ok_aload_n dX4_init_31 rfl) (
  kc (ok_bipush dX4_init_32 (by decide)) (
  kc (ok_newI dX4_init_34 hw_118) (
  kc (ok_putF (T := TX4) (k := 3) dX4_init_36 rfl hin_X4 tyX4_ok nmX4 (by decide) hw_125 rfl rfl hi (tyX4_ok 3 (by decide)) (fun _ => ⟨rfl, rfl⟩)) (
  kc (ok_aload_n dX4_init_39 rfl) (
  kc (ok_iconst dX4_init_40 (by decide)) (
  kc (ok_putI (T := TX4) (k := 4) dX4_init_41 rfl hin_X4 tyX4_ok nmX4 (by decide) hw_127 rfl (tyX4_ok 4 (by decide))) (
  kc (ok_iconst dX4_init_44 (by decide)) (
  kc (ok_istore_n dX4_init_45 rfl) (
  kc (ok_iload_n dX4_init_46 rfl) (
  kc (ok_bipush dX4_init_47 (by decide)) (
  kc (ok_cm_ge dX4_init_49 (by decide)) (
  kc (ok_aload_n dX4_init_52 rfl) (
  kc (ok_get (T := TX4) (k := 1) dX4_init_53 rfl hin_X4 (by decide) hw_121) (
  kc (ok_iload_n dX4_init_56 rfl) (
  kc (ok_bipush dX4_init_57 (by decide)) (
  kc (ok_iastore dX4_init_59) (
  kc (ok_aload_n dX4_init_60 rfl) (
  kc (ok_get (T := TX4) (k := 2) dX4_init_61 rfl hin_X4 (by decide) hw_123) (
  kc (ok_iload_n dX4_init_64 rfl) (
  kc (ok_iconst dX4_init_65 (by decide)) (
  kc (ok_iastore dX4_init_66) (
  kc (ok_iinc dX4_init_67 (by decide)) (
  kc (ok_goto dX4_init_70 (by decide)) (
  kc (ok_retV dX4_init_73 rfl) (
  kn))))))))))))))))))))))))))))))))))))))))
def cd_X4_become : List (Nat × qOp) := [
  (0, oLdA 0 1),
  (1, oGet 4 0 4),
  (4, oLdA 1 5),
  (5, oGet 4 0 8),
  (8, oCallV 1 0 1 0 0 0 0 11),
  (11, oLdA 1 12),
  (12, oGet 4 1 15),
  (15, oI (0) 16),
  (16, oLdA 0 17),
  (17, oGet 4 1 20),
  (20, oI (0) 21),
  (21, oLdA 0 22),
  (22, oGet 4 1 25),
  (25, oLen 26),
  (26, oCopy 29),
  (29, oLdA 1 30),
  (30, oGet 4 2 33),
  (33, oI (0) 34),
  (34, oLdA 0 35),
  (35, oGet 4 2 38),
  (38, oI (0) 39),
  (39, oLdA 0 40),
  (40, oGet 4 2 43),
  (43, oLen 44),
  (44, oCopy 47),
  (47, oLdA 1 48),
  (48, oGet 4 3 51),
  (51, oI (0) 52),
  (52, oLdA 0 53),
  (53, oGet 4 3 56),
  (56, oI (0) 57),
  (57, oLdA 0 58),
  (58, oGet 4 3 61),
  (61, oLen 62),
  (62, oCopy 65),
  (65, oLdA 0 66),
  (66, oLdA 1 67),
  (67, oGet 4 4 70),
  (70, oPutI 4 4 73),
  (73, oRetV)]
set_option maxRecDepth 100000 in
theorem ck_X4_become {ini : Bool} : ∀ x ∈ cd_X4_become, OpOK qMT cX4_become RX4 2 none ini 0 0 none x.1 x.2 :=
  kc (ok_aload_n dX4_become_0 rfl) (
  kc (ok_get (T := TX4) (k := 0) dX4_become_1 rfl hin_X4 (by decide) hw_119) (
  kc (ok_aload_n dX4_become_4 rfl) (
  kc (ok_get (T := TX4) (k := 0) dX4_become_5 rfl hin_X4 (by decide) hw_119) (
  kc (ok_callV (T := TX0) dX4_become_8 qm_1 rfl rfl rfl hw_595 hw_467 hw_468 qp_1) (
  kc (ok_aload_n dX4_become_11 rfl) (
  kc (ok_get (T := TX4) (k := 1) dX4_become_12 rfl hin_X4 (by decide) hw_121) (
  kc (ok_iconst dX4_become_15 (by decide)) (
  kc (ok_aload_n dX4_become_16 rfl) (
  kc (ok_get (T := TX4) (k := 1) dX4_become_17 rfl hin_X4 (by decide) hw_121) (
  kc (ok_iconst dX4_become_20 (by decide)) (
  kc (ok_aload_n dX4_become_21 rfl) (
  kc (ok_get (T := TX4) (k := 1) dX4_become_22 rfl hin_X4 (by decide) hw_121) (
  kc (ok_alen dX4_become_25) (
  kc (ok_copy dX4_become_26 hw_364 hw_366 hw_365 hw_59) (
  kc (ok_aload_n dX4_become_29 rfl) (
  kc (ok_get (T := TX4) (k := 2) dX4_become_30 rfl hin_X4 (by decide) hw_123) (
  kc (ok_iconst dX4_become_33 (by decide)) (
  kc (ok_aload_n dX4_become_34 rfl) (
  kc (ok_get (T := TX4) (k := 2) dX4_become_35 rfl hin_X4 (by decide) hw_123) (
  kc (ok_iconst dX4_become_38 (by decide)) (
  kc (ok_aload_n dX4_become_39 rfl) (
  kc (ok_get (T := TX4) (k := 2) dX4_become_40 rfl hin_X4 (by decide) hw_123) (
  kc (ok_alen dX4_become_43) (
  kc (ok_copy dX4_become_44 hw_364 hw_366 hw_365 hw_59) (
  kc (ok_aload_n dX4_become_47 rfl) (
  kc (ok_get (T := TX4) (k := 3) dX4_become_48 rfl hin_X4 (by decide) hw_125) (
  kc (ok_iconst dX4_become_51 (by decide)) (
  kc (ok_aload_n dX4_become_52 rfl) (
  kc (ok_get (T := TX4) (k := 3) dX4_become_53 rfl hin_X4 (by decide) hw_125) (
  kc (ok_iconst dX4_become_56 (by decide)) (
  kc (ok_aload_n dX4_become_57 rfl) (
  kc (ok_get (T := TX4) (k := 3) dX4_become_58 rfl hin_X4 (by decide) hw_125) (
  kc (ok_alen dX4_become_61) (
  kc (ok_copy dX4_become_62 hw_364 hw_366 hw_365 hw_59) (
  kc (ok_aload_n dX4_become_65 rfl) (
  kc (ok_aload_n dX4_become_66 rfl) (
  kc (ok_get (T := TX4) (k := 4) dX4_become_67 rfl hin_X4 (by decide) hw_127) (
  kc (ok_putI (T := TX4) (k := 4) dX4_become_70 rfl hin_X4 tyX4_ok nmX4 (by decide) hw_127 rfl (tyX4_ok 4 (by decide))) (
  kc (ok_retV dX4_become_73 rfl) (
  kn))))))))))))))))))))))))))))))))))))))))
def cd_X4_addThing : List (Nat × qOp) := [
  (0, oLdA 0 1),
  (1, oGet 4 0 4),
  (4, oLdI 1 5),
  (5, oCallV 11 0 1 0 0 0 0 8),
  (8, oStI 2 9),
  (9, oI (0) 10),
  (10, oStI 3 11),
  (11, oLdI 3 12),
  (12, oI (6) 14),
  (14, oCmGe 35 17),
  (17, oLdA 0 18),
  (18, oGet 4 3 21),
  (21, oLdI 2 22),
  (22, oI (6) 24),
  (24, oBin (fun x y => x * y) 25),
  (25, oLdI 3 26),
  (26, oBin (fun x y => x + y) 27),
  (27, oI (5) 28),
  (28, oASt 29),
  (29, oInc 3 (1) 32),
  (32, oGoto 11),
  (35, oLdI 2 36),
  (36, oRetI)]
set_option maxRecDepth 100000 in
theorem ck_X4_addThing {ini : Bool} : ∀ x ∈ cd_X4_addThing, OpOK qMT cX4_addThing RX4 4 (some .int) ini 0 0 none x.1 x.2 :=
  kc (ok_aload_n dX4_addThing_0 rfl) (
  kc (ok_get (T := TX4) (k := 0) dX4_addThing_1 rfl hin_X4 (by decide) hw_119) (
  kc (ok_iload_n dX4_addThing_4 rfl) (
  kc (ok_callV (T := TX0) dX4_addThing_5 qm_11 rfl rfl rfl hw_274 hw_275 hw_276 qp_11) (
  kc (ok_istore_n dX4_addThing_8 rfl) (
  kc (ok_iconst dX4_addThing_9 (by decide)) (
  kc (ok_istore_n dX4_addThing_10 rfl) (
  kc (ok_iload_n dX4_addThing_11 rfl) (
  kc (ok_bipush dX4_addThing_12 (by decide)) (
  kc (ok_cm_ge dX4_addThing_14 (by decide)) (
  kc (ok_aload_n dX4_addThing_17 rfl) (
  kc (ok_get (T := TX4) (k := 3) dX4_addThing_18 rfl hin_X4 (by decide) hw_125) (
  kc (ok_iload_n dX4_addThing_21 rfl) (
  kc (ok_bipush dX4_addThing_22 (by decide)) (
  kc (ok_imul dX4_addThing_24) (
  kc (ok_iload_n dX4_addThing_25 rfl) (
  kc (ok_iadd dX4_addThing_26) (
  kc (ok_iconst dX4_addThing_27 (by decide)) (
  kc (ok_iastore dX4_addThing_28) (
  kc (ok_iinc dX4_addThing_29 (by decide)) (
  kc (ok_goto dX4_addThing_32 (by decide)) (
  kc (ok_iload_n dX4_addThing_35 rfl) (
  kc (ok_retI dX4_addThing_36 rfl) (
  kn)))))))))))))))))))))))
def cd_X4_takeThings : List (Nat × qOp) := [
  (0, oLdA 0 1),
  (1, oGet 4 0 4),
  (4, oI (0) 5),
  (5, oPutI 0 4 8),
  (8, oLdA 0 9),
  (9, oGet 4 0 12),
  (12, oI (0) 13),
  (13, oPutI 0 5 16),
  (16, oLdA 0 17),
  (17, oGet 4 0 20),
  (20, oI (0) 21),
  (21, oPutI 0 6 24),
  (24, oI (0) 25),
  (25, oStI 3 26),
  (26, oLdI 3 27),
  (27, oLdI 2 28),
  (28, oCmGe 71 31),
  (31, oLdA 0 32),
  (32, oGet 4 0 35),
  (35, oLdA 1 36),
  (36, oLdI 3 37),
  (37, oI (7) 39),
  (39, oBin (fun x y => x * y) 40),
  (40, oALd 41),
  (41, oCallV 11 0 1 0 0 0 0 44),
  (44, oPop 45),
  (45, oLdA 1 46),
  (46, oLdI 3 47),
  (47, oI (7) 49),
  (49, oBin (fun x y => x * y) 50),
  (50, oI (1) 51),
  (51, oBin (fun x y => x + y) 52),
  (52, oLdA 0 53),
  (53, oGet 4 3 56),
  (56, oLdI 3 57),
  (57, oI (6) 59),
  (59, oBin (fun x y => x * y) 60),
  (60, oI (6) 62),
  (62, oCopy 65),
  (65, oInc 3 (1) 68),
  (68, oGoto 26),
  (71, oRetV)]
set_option maxRecDepth 100000 in
theorem ck_X4_takeThings {ini : Bool} : ∀ x ∈ cd_X4_takeThings, OpOK qMT cX4_takeThings RX4 4 none ini 0 0 none x.1 x.2 :=
  kc (ok_aload_n dX4_takeThings_0 rfl) (
  kc (ok_get (T := TX4) (k := 0) dX4_takeThings_1 rfl hin_X4 (by decide) hw_119) (
  kc (ok_iconst dX4_takeThings_4 (by decide)) (
  kc (ok_putI (T := TX0) (k := 4) dX4_takeThings_5 rfl hin_X0 tyX0_ok nmX0 (by decide) hw_93 rfl (tyX0_ok 4 (by decide))) (
  kc (ok_aload_n dX4_takeThings_8 rfl) (
  kc (ok_get (T := TX4) (k := 0) dX4_takeThings_9 rfl hin_X4 (by decide) hw_119) (
  kc (ok_iconst dX4_takeThings_12 (by decide)) (
  kc (ok_putI (T := TX0) (k := 5) dX4_takeThings_13 rfl hin_X0 tyX0_ok nmX0 (by decide) hw_97 rfl (tyX0_ok 5 (by decide))) (
  kc (ok_aload_n dX4_takeThings_16 rfl) (
  kc (ok_get (T := TX4) (k := 0) dX4_takeThings_17 rfl hin_X4 (by decide) hw_119) (
  kc (ok_iconst dX4_takeThings_20 (by decide)) (
  kc (ok_putI (T := TX0) (k := 6) dX4_takeThings_21 rfl hin_X0 tyX0_ok nmX0 (by decide) hw_101 rfl (tyX0_ok 6 (by decide))) (
  kc (ok_iconst dX4_takeThings_24 (by decide)) (
  kc (ok_istore_n dX4_takeThings_25 rfl) (
  kc (ok_iload_n dX4_takeThings_26 rfl) (
  kc (ok_iload_n dX4_takeThings_27 rfl) (
  kc (ok_cm_ge dX4_takeThings_28 (by decide)) (
  kc (ok_aload_n dX4_takeThings_31 rfl) (
  kc (ok_get (T := TX4) (k := 0) dX4_takeThings_32 rfl hin_X4 (by decide) hw_119) (
  kc (ok_aload_n dX4_takeThings_35 rfl) (
  kc (ok_iload_n dX4_takeThings_36 rfl) (
  kc (ok_bipush dX4_takeThings_37 (by decide)) (
  kc (ok_imul dX4_takeThings_39) (
  kc (ok_iaload dX4_takeThings_40) (
  kc (ok_callV (T := TX0) dX4_takeThings_41 qm_11 rfl rfl rfl hw_274 hw_275 hw_276 qp_11) (
  kc (ok_pop dX4_takeThings_44) (
  kc (ok_aload_n dX4_takeThings_45 rfl) (
  kc (ok_iload_n dX4_takeThings_46 rfl) (
  kc (ok_bipush dX4_takeThings_47 (by decide)) (
  kc (ok_imul dX4_takeThings_49) (
  kc (ok_iconst dX4_takeThings_50 (by decide)) (
  kc (ok_iadd dX4_takeThings_51) (
  kc (ok_aload_n dX4_takeThings_52 rfl) (
  kc (ok_get (T := TX4) (k := 3) dX4_takeThings_53 rfl hin_X4 (by decide) hw_125) (
  kc (ok_iload_n dX4_takeThings_56 rfl) (
  kc (ok_bipush dX4_takeThings_57 (by decide)) (
  kc (ok_imul dX4_takeThings_59) (
  kc (ok_bipush dX4_takeThings_60 (by decide)) (
  kc (ok_copy dX4_takeThings_62 hw_364 hw_366 hw_365 hw_59) (
  kc (ok_iinc dX4_takeThings_65 (by decide)) (
  kc (ok_goto dX4_takeThings_68 (by decide)) (
  kc (ok_retV dX4_takeThings_71 rfl) (
  kn))))))))))))))))))))))))))))))))))))))))))
