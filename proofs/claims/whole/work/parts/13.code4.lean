def cd_X6_keeps : List (Nat × qOp) := [
  (0, oI (0) 1),
  (1, oStI 1 2),
  (2, oLdI 1 3),
  (3, oI (8) 5),
  (5, oCmGe 26 8),
  (8, oLdA 0 9),
  (9, oGet 6 16 12),
  (12, oLdI 1 13),
  (13, oLdA 0 14),
  (14, oGet 6 4 17),
  (17, oLdI 1 18),
  (18, oALd 19),
  (19, oASt 20),
  (20, oInc 1 (1) 23),
  (23, oGoto 2),
  (26, oI (0) 27),
  (27, oStI 1 28),
  (28, oLdI 1 29),
  (29, oI (12) 31),
  (31, oCmGe 64 34),
  (34, oLdA 0 35),
  (35, oGet 6 17 38),
  (38, oLdI 1 39),
  (39, oLdA 0 40),
  (40, oGet 6 7 43),
  (43, oLdI 1 44),
  (44, oALd 45),
  (45, oASt 46),
  (46, oLdA 0 47),
  (47, oGet 6 18 50),
  (50, oLdI 1 51),
  (51, oLdA 0 52),
  (52, oGet 6 8 55),
  (55, oLdI 1 56),
  (56, oALd 57),
  (57, oASt 58),
  (58, oInc 1 (1) 61),
  (61, oGoto 28),
  (64, oLdA 0 65),
  (65, oLdA 0 66),
  (66, oGet 6 9 69),
  (69, oPutI 6 19 72),
  (72, oRetV)]
set_option maxRecDepth 100000 in
theorem ck_X6_keeps {ini : Bool} : ∀ x ∈ cd_X6_keeps, OpOK qMT cX6_keeps RX6 2 none ini 0 0 none x.1 x.2 :=
  kc (ok_iconst dX6_keeps_0 (by decide)) (
  kc (ok_istore_n dX6_keeps_1 rfl) (
  kc (ok_iload_n dX6_keeps_2 rfl) (
  kc (ok_bipush dX6_keeps_3 (by decide)) (
  kc (ok_cm_ge dX6_keeps_5 (by decide)) (
  kc (ok_aload_n dX6_keeps_8 rfl) (
  kc (ok_get (T := TX6) (k := 16) dX6_keeps_9 rfl hin_X6 (by decide) hw_669) (
  kc (ok_iload_n dX6_keeps_12 rfl) (
  kc (ok_aload_n dX6_keeps_13 rfl) (
  kc (ok_get (T := TX6) (k := 4) dX6_keeps_14 rfl hin_X6 (by decide) hw_657) (
  kc (ok_iload_n dX6_keeps_17 rfl) (
  kc (ok_iaload dX6_keeps_18) (
  kc (ok_iastore dX6_keeps_19) (
  kc (ok_iinc dX6_keeps_20 (by decide)) (
  kc (ok_goto dX6_keeps_23 (by decide)) (
  kc (ok_iconst dX6_keeps_26 (by decide)) (
  kc (ok_istore_n dX6_keeps_27 rfl) (
  kc (ok_iload_n dX6_keeps_28 rfl) (
  kc (ok_bipush dX6_keeps_29 (by decide)) (
  kc (ok_cm_ge dX6_keeps_31 (by decide)) (
  kc (ok_aload_n dX6_keeps_34 rfl) (
  kc (ok_get (T := TX6) (k := 17) dX6_keeps_35 rfl hin_X6 (by decide) hw_670) (
  kc (ok_iload_n dX6_keeps_38 rfl) (
  kc (ok_aload_n dX6_keeps_39 rfl) (
  kc (ok_get (T := TX6) (k := 7) dX6_keeps_40 rfl hin_X6 (by decide) hw_660) (
  kc (ok_iload_n dX6_keeps_43 rfl) (
  kc (ok_iaload dX6_keeps_44) (
  kc (ok_iastore dX6_keeps_45) (
  kc (ok_aload_n dX6_keeps_46 rfl) (
  kc (ok_get (T := TX6) (k := 18) dX6_keeps_47 rfl hin_X6 (by decide) hw_671) (
  kc (ok_iload_n dX6_keeps_50 rfl) (
  kc (ok_aload_n dX6_keeps_51 rfl) (
  kc (ok_get (T := TX6) (k := 8) dX6_keeps_52 rfl hin_X6 (by decide) hw_661) (
  kc (ok_iload_n dX6_keeps_55 rfl) (
  kc (ok_iaload dX6_keeps_56) (
  kc (ok_iastore dX6_keeps_57) (
  kc (ok_iinc dX6_keeps_58 (by decide)) (
  kc (ok_goto dX6_keeps_61 (by decide)) (
  kc (ok_aload_n dX6_keeps_64 rfl) (
  kc (ok_aload_n dX6_keeps_65 rfl) (
  kc (ok_get (T := TX6) (k := 9) dX6_keeps_66 rfl hin_X6 (by decide) hw_662) (
  kc (ok_putI (T := TX6) (k := 19) dX6_keeps_69 rfl hin_X6 tyX6_ok nmX6 (by decide) hw_672 rfl (tyX6_ok 19 (by decide))) (
  kc (ok_retV dX6_keeps_72 rfl) (
  kn)))))))))))))))))))))))))))))))))))))))))))
def cd_X6_back : List (Nat × qOp) := [
  (0, oI (0) 1),
  (1, oStI 1 2),
  (2, oLdI 1 3),
  (3, oI (8) 5),
  (5, oCmGe 26 8),
  (8, oLdA 0 9),
  (9, oGet 6 4 12),
  (12, oLdI 1 13),
  (13, oLdA 0 14),
  (14, oGet 6 16 17),
  (17, oLdI 1 18),
  (18, oALd 19),
  (19, oASt 20),
  (20, oInc 1 (1) 23),
  (23, oGoto 2),
  (26, oI (0) 27),
  (27, oStI 1 28),
  (28, oLdI 1 29),
  (29, oI (12) 31),
  (31, oCmGe 64 34),
  (34, oLdA 0 35),
  (35, oGet 6 7 38),
  (38, oLdI 1 39),
  (39, oLdA 0 40),
  (40, oGet 6 17 43),
  (43, oLdI 1 44),
  (44, oALd 45),
  (45, oASt 46),
  (46, oLdA 0 47),
  (47, oGet 6 8 50),
  (50, oLdI 1 51),
  (51, oLdA 0 52),
  (52, oGet 6 18 55),
  (55, oLdI 1 56),
  (56, oALd 57),
  (57, oASt 58),
  (58, oInc 1 (1) 61),
  (61, oGoto 28),
  (64, oLdA 0 65),
  (65, oLdA 0 66),
  (66, oGet 6 19 69),
  (69, oPutI 6 9 72),
  (72, oRetV)]
set_option maxRecDepth 100000 in
theorem ck_X6_back {ini : Bool} : ∀ x ∈ cd_X6_back, OpOK qMT cX6_back RX6 2 none ini 0 0 none x.1 x.2 :=
  kc (ok_iconst dX6_back_0 (by decide)) (
  kc (ok_istore_n dX6_back_1 rfl) (
  kc (ok_iload_n dX6_back_2 rfl) (
  kc (ok_bipush dX6_back_3 (by decide)) (
  kc (ok_cm_ge dX6_back_5 (by decide)) (
  kc (ok_aload_n dX6_back_8 rfl) (
  kc (ok_get (T := TX6) (k := 4) dX6_back_9 rfl hin_X6 (by decide) hw_657) (
  kc (ok_iload_n dX6_back_12 rfl) (
  kc (ok_aload_n dX6_back_13 rfl) (
  kc (ok_get (T := TX6) (k := 16) dX6_back_14 rfl hin_X6 (by decide) hw_669) (
  kc (ok_iload_n dX6_back_17 rfl) (
  kc (ok_iaload dX6_back_18) (
  kc (ok_iastore dX6_back_19) (
  kc (ok_iinc dX6_back_20 (by decide)) (
  kc (ok_goto dX6_back_23 (by decide)) (
  kc (ok_iconst dX6_back_26 (by decide)) (
  kc (ok_istore_n dX6_back_27 rfl) (
  kc (ok_iload_n dX6_back_28 rfl) (
  kc (ok_bipush dX6_back_29 (by decide)) (
  kc (ok_cm_ge dX6_back_31 (by decide)) (
  kc (ok_aload_n dX6_back_34 rfl) (
  kc (ok_get (T := TX6) (k := 7) dX6_back_35 rfl hin_X6 (by decide) hw_660) (
  kc (ok_iload_n dX6_back_38 rfl) (
  kc (ok_aload_n dX6_back_39 rfl) (
  kc (ok_get (T := TX6) (k := 17) dX6_back_40 rfl hin_X6 (by decide) hw_670) (
  kc (ok_iload_n dX6_back_43 rfl) (
  kc (ok_iaload dX6_back_44) (
  kc (ok_iastore dX6_back_45) (
  kc (ok_aload_n dX6_back_46 rfl) (
  kc (ok_get (T := TX6) (k := 8) dX6_back_47 rfl hin_X6 (by decide) hw_661) (
  kc (ok_iload_n dX6_back_50 rfl) (
  kc (ok_aload_n dX6_back_51 rfl) (
  kc (ok_get (T := TX6) (k := 18) dX6_back_52 rfl hin_X6 (by decide) hw_671) (
  kc (ok_iload_n dX6_back_55 rfl) (
  kc (ok_iaload dX6_back_56) (
  kc (ok_iastore dX6_back_57) (
  kc (ok_iinc dX6_back_58 (by decide)) (
  kc (ok_goto dX6_back_61 (by decide)) (
  kc (ok_aload_n dX6_back_64 rfl) (
  kc (ok_aload_n dX6_back_65 rfl) (
  kc (ok_get (T := TX6) (k := 19) dX6_back_66 rfl hin_X6 (by decide) hw_672) (
  kc (ok_putI (T := TX6) (k := 9) dX6_back_69 rfl hin_X6 tyX6_ok nmX6 (by decide) hw_662 rfl (tyX6_ok 9 (by decide))) (
  kc (ok_retV dX6_back_72 rfl) (
  kn)))))))))))))))))))))))))))))))))))))))))))
def cd_X6_gainOf : List (Nat × qOp) := [
  (0, oLdI 3 1),
  (1, oI (6) 3),
  (3, oCmNe 8 6),
  (6, oI (0) 7),
  (7, oRetI),
  (8, oLdA 0 9),
  (9, oLdI 3 10),
  (10, oCallV 120 6 1 0 0 0 0 13),
  (13, oStI 4 15),
  (15, oLdA 0 16),
  (16, oCallV 143 6 0 0 0 0 0 19),
  (19, oLdA 0 20),
  (20, oLdI 1 21),
  (21, oLdI 2 22),
  (22, oCallV 135 6 2 0 0 0 0 25),
  (25, oPop 26),
  (26, oLdA 0 27),
  (27, oLdI 3 28),
  (28, oCallV 120 6 1 0 0 0 0 31),
  (31, oStI 5 33),
  (33, oLdA 0 34),
  (34, oCallV 144 6 0 0 0 0 0 37),
  (37, oLdI 5 39),
  (39, oLdI 4 41),
  (41, oBin (fun x y => x - y) 42),
  (42, oRetI)]
set_option maxRecDepth 100000 in
theorem ck_X6_gainOf {ini : Bool} : ∀ x ∈ cd_X6_gainOf, OpOK qMT cX6_gainOf RX6 6 (some .int) ini 0 0 none x.1 x.2 :=
  kc (ok_iload_n dX6_gainOf_0 rfl) (
  kc (ok_bipush dX6_gainOf_1 (by decide)) (
  kc (ok_cm_ne dX6_gainOf_3 (by decide)) (
  kc (ok_iconst dX6_gainOf_6 (by decide)) (
  kc (ok_retI dX6_gainOf_7 rfl) (
  kc (ok_aload_n dX6_gainOf_8 rfl) (
  kc (ok_iload_n dX6_gainOf_9 rfl) (
  kc (ok_callV (T := TX6) dX6_gainOf_10 qm_120 rfl rfl rfl hw_814 hw_816 hw_24 qp_120) (
  kc (ok_istore dX6_gainOf_13) (
  kc (ok_aload_n dX6_gainOf_15 rfl) (
  kc (ok_callV (T := TX6) dX6_gainOf_16 qm_143 rfl rfl rfl hw_923 hw_925 hw_38 qp_143) (
  kc (ok_aload_n dX6_gainOf_19 rfl) (
  kc (ok_iload_n dX6_gainOf_20 rfl) (
  kc (ok_iload_n dX6_gainOf_21 rfl) (
  kc (ok_callV (T := TX6) dX6_gainOf_22 qm_135 rfl rfl rfl hw_886 hw_888 hw_34 qp_135) (
  kc (ok_pop dX6_gainOf_25) (
  kc (ok_aload_n dX6_gainOf_26 rfl) (
  kc (ok_iload_n dX6_gainOf_27 rfl) (
  kc (ok_callV (T := TX6) dX6_gainOf_28 qm_120 rfl rfl rfl hw_814 hw_816 hw_24 qp_120) (
  kc (ok_istore dX6_gainOf_31) (
  kc (ok_aload_n dX6_gainOf_33 rfl) (
  kc (ok_callV (T := TX6) dX6_gainOf_34 qm_144 rfl rfl rfl hw_927 hw_929 hw_39 qp_144) (
  kc (ok_iload dX6_gainOf_37) (
  kc (ok_iload dX6_gainOf_39) (
  kc (ok_isub dX6_gainOf_41) (
  kc (ok_retI dX6_gainOf_42 rfl) (
  kn))))))))))))))))))))))))))
def cd_X6_gain : List (Nat × qOp) := [
  (0, oLdA 0 1),
  (1, oLdI 1 2),
  (2, oCallV 105 6 1 0 0 0 0 5),
  (5, oIfEq 25 8),
  (8, oLdI 2 9),
  (9, oCallS 104 1 0 0 0 0 12),
  (12, oIfEq 25 15),
  (15, oLdI 3 16),
  (16, oI2L 17),
  (17, oL (0) 18),
  (18, oL (1) 19),
  (19, oCallS 102 3 0 0 0 0 22),
  (22, oIfNe 28 25),
  (25, oI (-100001) 27),
  (27, oRetI),
  (28, oLdA 0 29),
  (29, oGet 6 4 32),
  (32, oLdI 1 33),
  (33, oALd 34),
  (34, oLdI 2 35),
  (35, oCmNe 43 38),
  (38, oI (-100002) 40),
  (40, oGoto 63),
  (43, oLdA 0 44),
  (44, oLdI 1 45),
  (45, oLdI 2 46),
  (46, oLdI 3 47),
  (47, oIfNe 59 50),
  (50, oLdA 0 51),
  (51, oGet 6 4 54),
  (54, oLdI 1 55),
  (55, oALd 56),
  (56, oGoto 60),
  (59, oLdI 2 60),
  (60, oCallV 145 6 3 0 0 0 0 63),
  (63, oRetI)]
set_option maxRecDepth 100000 in
theorem ck_X6_gain {ini : Bool} : ∀ x ∈ cd_X6_gain, OpOK qMT cX6_gain RX6 4 (some .int) ini 0 0 none x.1 x.2 :=
  kc (ok_aload_n dX6_gain_0 rfl) (
  kc (ok_iload_n dX6_gain_1 rfl) (
  kc (ok_callV (T := TX6) dX6_gain_2 qm_105 rfl rfl rfl hw_779 hw_781 hw_21 qp_105) (
  kc (ok_if_eq dX6_gain_5 (by decide)) (
  kc (ok_iload_n dX6_gain_8 rfl) (
  kc (ok_callS dX6_gain_9 qm_104 rfl rfl hw_745 hw_746 qp_104) (
  kc (ok_if_eq dX6_gain_12 (by decide)) (
  kc (ok_iload_n dX6_gain_15 rfl) (
  kc (ok_i2l dX6_gain_16) (
  kc (ok_lconst dX6_gain_17 (by decide)) (
  kc (ok_lconst dX6_gain_18 (by decide)) (
  kc (ok_callS dX6_gain_19 qm_102 rfl rfl hw_749 hw_750 qp_102) (
  kc (ok_if_ne dX6_gain_22 (by decide)) (
  kc (ok_ldc dX6_gain_25 hw_822) (
  kc (ok_retI dX6_gain_27 rfl) (
  kc (ok_aload_n dX6_gain_28 rfl) (
  kc (ok_get (T := TX6) (k := 4) dX6_gain_29 rfl hin_X6 (by decide) hw_657) (
  kc (ok_iload_n dX6_gain_32 rfl) (
  kc (ok_iaload dX6_gain_33) (
  kc (ok_iload_n dX6_gain_34 rfl) (
  kc (ok_cm_ne dX6_gain_35 (by decide)) (
  kc (ok_ldc dX6_gain_38 hw_918) (
  kc (ok_goto dX6_gain_40 (by decide)) (
  kc (ok_aload_n dX6_gain_43 rfl) (
  kc (ok_iload_n dX6_gain_44 rfl) (
  kc (ok_iload_n dX6_gain_45 rfl) (
  kc (ok_iload_n dX6_gain_46 rfl) (
  kc (ok_if_ne dX6_gain_47 (by decide)) (
  kc (ok_aload_n dX6_gain_50 rfl) (
  kc (ok_get (T := TX6) (k := 4) dX6_gain_51 rfl hin_X6 (by decide) hw_657) (
  kc (ok_iload_n dX6_gain_54 rfl) (
  kc (ok_iaload dX6_gain_55) (
  kc (ok_goto dX6_gain_56 (by decide)) (
  kc (ok_iload_n dX6_gain_59 rfl) (
  kc (ok_callV (T := TX6) dX6_gain_60 qm_145 rfl rfl rfl hw_919 hw_921 hw_37 qp_145) (
  kc (ok_retI dX6_gain_63 rfl) (
  kn))))))))))))))))))))))))))))))))))))
def cd_X6_priceOf : List (Nat × qOp) := [
  (0, oI (1) 1),
  (1, oLdA 0 2),
  (2, oLdI 1 3),
  (3, oLdI 2 4),
  (4, oLdA 0 5),
  (5, oGet 6 4 8),
  (8, oLdI 1 9),
  (9, oALd 10),
  (10, oCallV 145 6 3 0 0 0 0 13),
  (13, oBin (fun x y => x - y) 14),
  (14, oStI 3 15),
  (15, oLdI 3 16),
  (16, oIfGe 23 19),
  (19, oI (0) 20),
  (20, oGoto 24),
  (23, oLdI 3 24),
  (24, oStI 4 26),
  (26, oLdA 0 27),
  (27, oLdI 1 28),
  (28, oLdI 2 29),
  (29, oLdI 2 30),
  (30, oCallV 145 6 3 0 0 0 0 33),
  (33, oLdI 4 35),
  (35, oBin (fun x y => x - y) 36),
  (36, oIfLe 55 39),
  (39, oLdA 0 40),
  (40, oGet 6 0 43),
  (43, oLdI 2 44),
  (44, oALd 45),
  (45, oLdI 4 47),
  (47, oCmLt 55 50),
  (50, oLdI 4 52),
  (52, oGoto 57),
  (55, oI (-4) 57),
  (57, oRetI)]
set_option maxRecDepth 100000 in
theorem ck_X6_priceOf {ini : Bool} : ∀ x ∈ cd_X6_priceOf, OpOK qMT cX6_priceOf RX6 5 (some .int) ini 0 0 none x.1 x.2 :=
  kc (ok_iconst dX6_priceOf_0 (by decide)) (
  kc (ok_aload_n dX6_priceOf_1 rfl) (
  kc (ok_iload_n dX6_priceOf_2 rfl) (
  kc (ok_iload_n dX6_priceOf_3 rfl) (
  kc (ok_aload_n dX6_priceOf_4 rfl) (
  kc (ok_get (T := TX6) (k := 4) dX6_priceOf_5 rfl hin_X6 (by decide) hw_657) (
  kc (ok_iload_n dX6_priceOf_8 rfl) (
  kc (ok_iaload dX6_priceOf_9) (
  kc (ok_callV (T := TX6) dX6_priceOf_10 qm_145 rfl rfl rfl hw_919 hw_921 hw_37 qp_145) (
  kc (ok_isub dX6_priceOf_13) (
  kc (ok_istore_n dX6_priceOf_14 rfl) (
  kc (ok_iload_n dX6_priceOf_15 rfl) (
  kc (ok_if_ge dX6_priceOf_16 (by decide)) (
  kc (ok_iconst dX6_priceOf_19 (by decide)) (
  kc (ok_goto dX6_priceOf_20 (by decide)) (
  kc (ok_iload_n dX6_priceOf_23 rfl) (
  kc (ok_istore dX6_priceOf_24) (
  kc (ok_aload_n dX6_priceOf_26 rfl) (
  kc (ok_iload_n dX6_priceOf_27 rfl) (
  kc (ok_iload_n dX6_priceOf_28 rfl) (
  kc (ok_iload_n dX6_priceOf_29 rfl) (
  kc (ok_callV (T := TX6) dX6_priceOf_30 qm_145 rfl rfl rfl hw_919 hw_921 hw_37 qp_145) (
  kc (ok_iload dX6_priceOf_33) (
  kc (ok_isub dX6_priceOf_35) (
  kc (ok_if_le dX6_priceOf_36 (by decide)) (
  kc (ok_aload_n dX6_priceOf_39 rfl) (
  kc (ok_get (T := TX6) (k := 0) dX6_priceOf_40 rfl hin_X6 (by decide) hw_653) (
  kc (ok_iload_n dX6_priceOf_43 rfl) (
  kc (ok_iaload dX6_priceOf_44) (
  kc (ok_iload dX6_priceOf_45) (
  kc (ok_cm_lt dX6_priceOf_47 (by decide)) (
  kc (ok_iload dX6_priceOf_50) (
  kc (ok_goto dX6_priceOf_52 (by decide)) (
  kc (ok_bipush dX6_priceOf_55 (by decide)) (
  kc (ok_retI dX6_priceOf_57 rfl) (
  kn)))))))))))))))))))))))))))))))))))
def cd_X6_agreed : List (Nat × qOp) := [
  (0, oLdA 0 1),
  (1, oLdI 1 2),
  (2, oCallV 105 6 1 0 0 0 0 5),
  (5, oIfEq 15 8),
  (8, oLdI 2 9),
  (9, oCallS 104 1 0 0 0 0 12),
  (12, oIfNe 17 15),
  (15, oI (-1) 16),
  (16, oRetI),
  (17, oLdA 0 18),
  (18, oGet 6 4 21),
  (21, oLdI 1 22),
  (22, oALd 23),
  (23, oI (6) 25),
  (25, oCmEq 38 28),
  (28, oLdA 0 29),
  (29, oGet 6 4 32),
  (32, oLdI 1 33),
  (33, oALd 34),
  (34, oLdI 2 35),
  (35, oCmNe 43 38),
  (38, oI (-2) 40),
  (40, oGoto 49),
  (43, oLdA 0 44),
  (44, oLdI 1 45),
  (45, oLdI 2 46),
  (46, oCallV 147 6 2 0 0 0 0 49),
  (49, oRetI)]
set_option maxRecDepth 100000 in
theorem ck_X6_agreed {ini : Bool} : ∀ x ∈ cd_X6_agreed, OpOK qMT cX6_agreed RX6 3 (some .int) ini 0 0 none x.1 x.2 :=
  kc (ok_aload_n dX6_agreed_0 rfl) (
  kc (ok_iload_n dX6_agreed_1 rfl) (
  kc (ok_callV (T := TX6) dX6_agreed_2 qm_105 rfl rfl rfl hw_779 hw_781 hw_21 qp_105) (
  kc (ok_if_eq dX6_agreed_5 (by decide)) (
  kc (ok_iload_n dX6_agreed_8 rfl) (
  kc (ok_callS dX6_agreed_9 qm_104 rfl rfl hw_745 hw_746 qp_104) (
  kc (ok_if_ne dX6_agreed_12 (by decide)) (
  kc (ok_iconst dX6_agreed_15 (by decide)) (
  kc (ok_retI dX6_agreed_16 rfl) (
  kc (ok_aload_n dX6_agreed_17 rfl) (
  kc (ok_get (T := TX6) (k := 4) dX6_agreed_18 rfl hin_X6 (by decide) hw_657) (
  kc (ok_iload_n dX6_agreed_21 rfl) (
  kc (ok_iaload dX6_agreed_22) (
  kc (ok_bipush dX6_agreed_23 (by decide)) (
  kc (ok_cm_eq dX6_agreed_25 (by decide)) (
  kc (ok_aload_n dX6_agreed_28 rfl) (
  kc (ok_get (T := TX6) (k := 4) dX6_agreed_29 rfl hin_X6 (by decide) hw_657) (
  kc (ok_iload_n dX6_agreed_32 rfl) (
  kc (ok_iaload dX6_agreed_33) (
  kc (ok_iload_n dX6_agreed_34 rfl) (
  kc (ok_cm_ne dX6_agreed_35 (by decide)) (
  kc (ok_bipush dX6_agreed_38 (by decide)) (
  kc (ok_goto dX6_agreed_40 (by decide)) (
  kc (ok_aload_n dX6_agreed_43 rfl) (
  kc (ok_iload_n dX6_agreed_44 rfl) (
  kc (ok_iload_n dX6_agreed_45 rfl) (
  kc (ok_callV (T := TX6) dX6_agreed_46 qm_147 rfl rfl rfl hw_935 hw_937 hw_40 qp_147) (
  kc (ok_retI dX6_agreed_49 rfl) (
  kn))))))))))))))))))))))))))))
def cd_X6_deals : List (Nat × qOp) := [
  (0, oI (0) 1),
  (1, oStI 1 2),
  (2, oLdI 1 3),
  (3, oI (6) 5),
  (5, oLdA 0 6),
  (6, oGet 6 3 9),
  (9, oBin (fun x y => x * y) 10),
  (10, oCmGe 82 13),
  (13, oLdA 0 14),
  (14, oGet 6 4 17),
  (17, oLdI 1 18),
  (18, oI (6) 20),
  (20, oDiv (fun x y => x / y) 21),
  (21, oALd 22),
  (22, oI (6) 24),
  (24, oCmEq 76 27),
  (27, oLdA 0 28),
  (28, oGet 6 4 31),
  (31, oLdI 1 32),
  (32, oI (6) 34),
  (34, oDiv (fun x y => x / y) 35),
  (35, oALd 36),
  (36, oLdI 1 37),
  (37, oI (6) 39),
  (39, oDiv (fun x y => x - x / y * y) 40),
  (40, oCmEq 76 43),
  (43, oLdA 0 44),
  (44, oLdI 1 45),
  (45, oI (6) 47),
  (47, oDiv (fun x y => x / y) 48),
  (48, oLdI 1 49),
  (49, oI (6) 51),
  (51, oDiv (fun x y => x - x / y * y) 52),
  (52, oCallV 147 6 2 0 0 0 0 55),
  (55, oStI 2 56),
  (56, oLdI 2 57),
  (57, oIfLt 76 60),
  (60, oLdA 0 61),
  (61, oLdI 1 62),
  (62, oI (6) 64),
  (64, oDiv (fun x y => x / y) 65),
  (65, oLdI 1 66),
  (66, oI (6) 68),
  (68, oDiv (fun x y => x - x / y * y) 69),
  (69, oLdI 2 70),
  (70, oCallV 137 6 3 0 0 0 0 73),
  (73, oPop 74),
  (74, oI (1) 75),
  (75, oRetZ),
  (76, oInc 1 (1) 79),
  (79, oGoto 2),
  (82, oI (0) 83),
  (83, oRetZ)]
set_option maxRecDepth 100000 in
theorem ck_X6_deals {ini : Bool} : ∀ x ∈ cd_X6_deals, OpOK qMT cX6_deals RX6 3 (some .boolean) ini 0 0 none x.1 x.2 :=
  kc (ok_iconst dX6_deals_0 (by decide)) (
  kc (ok_istore_n dX6_deals_1 rfl) (
  kc (ok_iload_n dX6_deals_2 rfl) (
  kc (ok_bipush dX6_deals_3 (by decide)) (
  kc (ok_aload_n dX6_deals_5 rfl) (
  kc (ok_get (T := TX6) (k := 3) dX6_deals_6 rfl hin_X6 (by decide) hw_656) (
  kc (ok_imul dX6_deals_9) (
  kc (ok_cm_ge dX6_deals_10 (by decide)) (
  kc (ok_aload_n dX6_deals_13 rfl) (
  kc (ok_get (T := TX6) (k := 4) dX6_deals_14 rfl hin_X6 (by decide) hw_657) (
  kc (ok_iload_n dX6_deals_17 rfl) (
  kc (ok_bipush dX6_deals_18 (by decide)) (
  kc (ok_idiv dX6_deals_20) (
  kc (ok_iaload dX6_deals_21) (
  kc (ok_bipush dX6_deals_22 (by decide)) (
  kc (ok_cm_eq dX6_deals_24 (by decide)) (
  kc (ok_aload_n dX6_deals_27 rfl) (
  kc (ok_get (T := TX6) (k := 4) dX6_deals_28 rfl hin_X6 (by decide) hw_657) (
  kc (ok_iload_n dX6_deals_31 rfl) (
  kc (ok_bipush dX6_deals_32 (by decide)) (
  kc (ok_idiv dX6_deals_34) (
  kc (ok_iaload dX6_deals_35) (
  kc (ok_iload_n dX6_deals_36 rfl) (
  kc (ok_bipush dX6_deals_37 (by decide)) (
  kc (ok_irem dX6_deals_39) (
  kc (ok_cm_eq dX6_deals_40 (by decide)) (
  kc (ok_aload_n dX6_deals_43 rfl) (
  kc (ok_iload_n dX6_deals_44 rfl) (
  kc (ok_bipush dX6_deals_45 (by decide)) (
  kc (ok_idiv dX6_deals_47) (
  kc (ok_iload_n dX6_deals_48 rfl) (
  kc (ok_bipush dX6_deals_49 (by decide)) (
  kc (ok_irem dX6_deals_51) (
  kc (ok_callV (T := TX6) dX6_deals_52 qm_147 rfl rfl rfl hw_935 hw_937 hw_40 qp_147) (
  kc (ok_istore_n dX6_deals_55 rfl) (
  kc (ok_iload_n dX6_deals_56 rfl) (
  kc (ok_if_lt dX6_deals_57 (by decide)) (
  kc (ok_aload_n dX6_deals_60 rfl) (
  kc (ok_iload_n dX6_deals_61 rfl) (
  kc (ok_bipush dX6_deals_62 (by decide)) (
  kc (ok_idiv dX6_deals_64) (
  kc (ok_iload_n dX6_deals_65 rfl) (
  kc (ok_bipush dX6_deals_66 (by decide)) (
  kc (ok_irem dX6_deals_68) (
  kc (ok_iload_n dX6_deals_69 rfl) (
  kc (ok_callV (T := TX6) dX6_deals_70 qm_137 rfl rfl rfl hw_948 hw_879 hw_880 qp_137) (
  kc (ok_pop dX6_deals_73) (
  kc (ok_iconst dX6_deals_74 (by decide)) (
  kc (ok_retZ dX6_deals_75 rfl) (
  kc (ok_iinc dX6_deals_76 (by decide)) (
  kc (ok_goto dX6_deals_79 (by decide)) (
  kc (ok_iconst dX6_deals_82 (by decide)) (
  kc (ok_retZ dX6_deals_83 rfl) (
  kn)))))))))))))))))))))))))))))))))))))))))))))))))))))
def cd_X6_rest : List (Nat × qOp) := [
  (0, oLdI 1 1),
  (1, oI2L 2),
  (2, oL (1) 3),
  (3, oL (60) 6),
  (6, oCallS 102 3 0 0 0 0 9),
  (9, oIfNe 14 12),
  (12, oI (-1) 13),
  (13, oRetI),
  (14, oI (0) 15),
  (15, oStI 2 16),
  (16, oLdI 2 17),
  (17, oLdI 1 18),
  (18, oCmGe 34 21),
  (21, oLdA 0 22),
  (22, oCallV 149 6 0 0 0 0 0 25),
  (25, oIfEq 34 28),
  (28, oInc 2 (1) 31),
  (31, oGoto 16),
  (34, oLdI 2 35),
  (35, oRetI)]
set_option maxRecDepth 100000 in
theorem ck_X6_rest {ini : Bool} : ∀ x ∈ cd_X6_rest, OpOK qMT cX6_rest RX6 3 (some .int) ini 0 0 none x.1 x.2 :=
  kc (ok_iload_n dX6_rest_0 rfl) (
  kc (ok_i2l dX6_rest_1) (
  kc (ok_lconst dX6_rest_2 (by decide)) (
  kc (ok_ldc2 dX6_rest_3 hw_943) (
  kc (ok_callS dX6_rest_6 qm_102 rfl rfl hw_749 hw_750 qp_102) (
  kc (ok_if_ne dX6_rest_9 (by decide)) (
  kc (ok_iconst dX6_rest_12 (by decide)) (
  kc (ok_retI dX6_rest_13 rfl) (
  kc (ok_iconst dX6_rest_14 (by decide)) (
  kc (ok_istore_n dX6_rest_15 rfl) (
  kc (ok_iload_n dX6_rest_16 rfl) (
  kc (ok_iload_n dX6_rest_17 rfl) (
  kc (ok_cm_ge dX6_rest_18 (by decide)) (
  kc (ok_aload_n dX6_rest_21 rfl) (
  kc (ok_callV (T := TX6) dX6_rest_22 qm_149 rfl rfl rfl hw_944 hw_946 hw_41 qp_149) (
  kc (ok_if_eq dX6_rest_25 (by decide)) (
  kc (ok_iinc dX6_rest_28 (by decide)) (
  kc (ok_goto dX6_rest_31 (by decide)) (
  kc (ok_iload_n dX6_rest_34 rfl) (
  kc (ok_retI dX6_rest_35 rfl) (
  kn))))))))))))))))))))
def cd_X6_groupOf : List (Nat × qOp) := [
  (0, oI (1) 1),
  (1, oLdI 1 2),
  (2, oBin (fun x y => x <<< (y &&& 31)) 3),
  (3, oStI 2 4),
  (4, oI (0) 5),
  (5, oStI 3 6),
  (6, oLdI 2 7),
  (7, oLdI 3 8),
  (8, oCmEq 80 11),
  (11, oLdI 2 12),
  (12, oStI 3 13),
  (13, oI (0) 14),
  (14, oStI 4 16),
  (16, oLdI 4 18),
  (18, oLdA 0 19),
  (19, oGet 6 6 22),
  (22, oCmGe 77 25),
  (25, oI (1) 26),
  (26, oLdA 0 27),
  (27, oGet 6 7 30),
  (30, oLdI 4 32),
  (32, oALd 33),
  (33, oBin (fun x y => x <<< (y &&& 31)) 34),
  (34, oI (1) 35),
  (35, oLdA 0 36),
  (36, oGet 6 8 39),
  (39, oLdI 4 41),
  (41, oALd 42),
  (42, oBin (fun x y => x <<< (y &&& 31)) 43),
  (43, oBin (fun x y => x ||| y) 44),
  (44, oStI 5 46),
  (46, oLdI 2 47),
  (47, oLdA 0 48),
  (48, oLdI 4 50),
  (50, oCallV 108 6 1 0 0 0 0 53),
  (53, oIfNe 68 56),
  (56, oLdI 2 57),
  (57, oLdI 5 59),
  (59, oBin (fun x y => x &&& y) 60),
  (60, oIfEq 68 63),
  (63, oLdI 5 65),
  (65, oGoto 69),
  (68, oI (0) 69),
  (69, oBin (fun x y => x ||| y) 70),
  (70, oStI 2 71),
  (71, oInc 4 (1) 74),
  (74, oGoto 16),
  (77, oGoto 6),
  (80, oLdI 2 81),
  (81, oRetI)]
set_option maxRecDepth 100000 in
theorem ck_X6_groupOf {ini : Bool} : ∀ x ∈ cd_X6_groupOf, OpOK qMT cX6_groupOf RX6 6 (some .int) ini 0 0 none x.1 x.2 :=
  kc (ok_iconst dX6_groupOf_0 (by decide)) (
  kc (ok_iload_n dX6_groupOf_1 rfl) (
  kc (ok_ishl dX6_groupOf_2) (
  kc (ok_istore_n dX6_groupOf_3 rfl) (
  kc (ok_iconst dX6_groupOf_4 (by decide)) (
  kc (ok_istore_n dX6_groupOf_5 rfl) (
  kc (ok_iload_n dX6_groupOf_6 rfl) (
  kc (ok_iload_n dX6_groupOf_7 rfl) (
  kc (ok_cm_eq dX6_groupOf_8 (by decide)) (
  kc (ok_iload_n dX6_groupOf_11 rfl) (
  kc (ok_istore_n dX6_groupOf_12 rfl) (
  kc (ok_iconst dX6_groupOf_13 (by decide)) (
  kc (ok_istore dX6_groupOf_14) (
  kc (ok_iload dX6_groupOf_16) (
  kc (ok_aload_n dX6_groupOf_18 rfl) (
  kc (ok_get (T := TX6) (k := 6) dX6_groupOf_19 rfl hin_X6 (by decide) hw_659) (
  kc (ok_cm_ge dX6_groupOf_22 (by decide)) (
  kc (ok_iconst dX6_groupOf_25 (by decide)) (
  kc (ok_aload_n dX6_groupOf_26 rfl) (
  kc (ok_get (T := TX6) (k := 7) dX6_groupOf_27 rfl hin_X6 (by decide) hw_660) (
  kc (ok_iload dX6_groupOf_30) (
  kc (ok_iaload dX6_groupOf_32) (
  kc (ok_ishl dX6_groupOf_33) (
  kc (ok_iconst dX6_groupOf_34 (by decide)) (
  kc (ok_aload_n dX6_groupOf_35 rfl) (
  kc (ok_get (T := TX6) (k := 8) dX6_groupOf_36 rfl hin_X6 (by decide) hw_661) (
  kc (ok_iload dX6_groupOf_39) (
  kc (ok_iaload dX6_groupOf_41) (
  kc (ok_ishl dX6_groupOf_42) (
  kc (ok_ior dX6_groupOf_43) (
  kc (ok_istore dX6_groupOf_44) (
  kc (ok_iload_n dX6_groupOf_46 rfl) (
  kc (ok_aload_n dX6_groupOf_47 rfl) (
  kc (ok_iload dX6_groupOf_48) (
  kc (ok_callV (T := TX6) dX6_groupOf_50 qm_108 rfl rfl rfl hw_766 hw_768 hw_20 qp_108) (
  kc (ok_if_ne dX6_groupOf_53 (by decide)) (
  kc (ok_iload_n dX6_groupOf_56 rfl) (
  kc (ok_iload dX6_groupOf_57) (
  kc (ok_iand dX6_groupOf_59) (
  kc (ok_if_eq dX6_groupOf_60 (by decide)) (
  kc (ok_iload dX6_groupOf_63) (
  kc (ok_goto dX6_groupOf_65 (by decide)) (
  kc (ok_iconst dX6_groupOf_68 (by decide)) (
  kc (ok_ior dX6_groupOf_69) (
  kc (ok_istore_n dX6_groupOf_70 rfl) (
  kc (ok_iinc dX6_groupOf_71 (by decide)) (
  kc (ok_goto dX6_groupOf_74 (by decide)) (
  kc (ok_goto dX6_groupOf_77 (by decide)) (
  kc (ok_iload_n dX6_groupOf_80 rfl) (
  kc (ok_retI dX6_groupOf_81 rfl) (
  kn))))))))))))))))))))))))))))))))))))))))))))))))))
def cd_X6_group : List (Nat × qOp) := [
  (0, oLdI 1 1),
  (1, oI (-1) 2),
  (2, oCmEq 15 5),
  (5, oLdA 0 6),
  (6, oLdI 1 7),
  (7, oCallV 105 6 1 0 0 0 0 10),
  (10, oIfNe 15 13),
  (13, oI (-1) 14),
  (14, oRetI),
  (15, oLdI 1 16),
  (16, oIfLt 25 19),
  (19, oLdA 0 20),
  (20, oLdI 1 21),
  (21, oCallV 151 6 1 0 0 0 0 24),
  (24, oRetI),
  (25, oI (0) 26),
  (26, oStI 2 27),
  (27, oI (0) 28),
  (28, oStI 3 29),
  (29, oI (0) 30),
  (30, oStI 4 32),
  (32, oLdI 4 34),
  (34, oI (16) 36),
  (36, oCmGe 93 39),
  (39, oLdA 0 40),
  (40, oLdI 4 42),
  (42, oCallV 106 6 1 0 0 0 0 45),
  (45, oIfEq 87 48),
  (48, oLdI 2 49),
  (49, oLdI 4 51),
  (51, oBin (fun x y => x >>> (y &&& 31)) 52),
  (52, oI (1) 53),
  (53, oBin (fun x y => x &&& y) 54),
  (54, oIfNe 87 57),
  (57, oLdA 0 58),
  (58, oLdI 4 60),
  (60, oCallV 151 6 1 0 0 0 0 63),
  (63, oStI 5 65),
  (65, oLdI 2 66),
  (66, oLdI 5 68),
  (68, oBin (fun x y => x ||| y) 69),
  (69, oStI 2 70),
  (70, oLdI 3 71),
  (71, oLdI 5 73),
  (73, oCallS 122 1 0 0 0 0 76),
  (76, oI (1) 77),
  (77, oCmLe 84 80),
  (80, oI (1) 81),
  (81, oGoto 85),
  (84, oI (0) 85),
  (85, oBin (fun x y => x + y) 86),
  (86, oStI 3 87),
  (87, oInc 4 (1) 90),
  (90, oGoto 32),
  (93, oLdI 3 94),
  (94, oRetI)]
set_option maxRecDepth 100000 in
theorem ck_X6_group {ini : Bool} : ∀ x ∈ cd_X6_group, OpOK qMT cX6_group RX6 6 (some .int) ini 0 0 none x.1 x.2 :=
  kc (ok_iload_n dX6_group_0 rfl) (
  kc (ok_iconst dX6_group_1 (by decide)) (
  kc (ok_cm_eq dX6_group_2 (by decide)) (
  kc (ok_aload_n dX6_group_5 rfl) (
  kc (ok_iload_n dX6_group_6 rfl) (
  kc (ok_callV (T := TX6) dX6_group_7 qm_105 rfl rfl rfl hw_779 hw_781 hw_21 qp_105) (
  kc (ok_if_ne dX6_group_10 (by decide)) (
  kc (ok_iconst dX6_group_13 (by decide)) (
  kc (ok_retI dX6_group_14 rfl) (
  kc (ok_iload_n dX6_group_15 rfl) (
  kc (ok_if_lt dX6_group_16 (by decide)) (
  kc (ok_aload_n dX6_group_19 rfl) (
  kc (ok_iload_n dX6_group_20 rfl) (
  kc (ok_callV (T := TX6) dX6_group_21 qm_151 rfl rfl rfl hw_953 hw_955 hw_42 qp_151) (
  kc (ok_retI dX6_group_24 rfl) (
  kc (ok_iconst dX6_group_25 (by decide)) (
  kc (ok_istore_n dX6_group_26 rfl) (
  kc (ok_iconst dX6_group_27 (by decide)) (
  kc (ok_istore_n dX6_group_28 rfl) (
  kc (ok_iconst dX6_group_29 (by decide)) (
  kc (ok_istore dX6_group_30) (
  kc (ok_iload dX6_group_32) (
  kc (ok_bipush dX6_group_34 (by decide)) (
  kc (ok_cm_ge dX6_group_36 (by decide)) (
  kc (ok_aload_n dX6_group_39 rfl) (
  kc (ok_iload dX6_group_40) (
  kc (ok_callV (T := TX6) dX6_group_42 qm_106 rfl rfl rfl hw_787 hw_789 hw_22 qp_106) (
  kc (ok_if_eq dX6_group_45 (by decide)) (
  kc (ok_iload_n dX6_group_48 rfl) (
  kc (ok_iload dX6_group_49) (
  kc (ok_ishr dX6_group_51) (
  kc (ok_iconst dX6_group_52 (by decide)) (
  kc (ok_iand dX6_group_53) (
  kc (ok_if_ne dX6_group_54 (by decide)) (
  kc (ok_aload_n dX6_group_57 rfl) (
  kc (ok_iload dX6_group_58) (
  kc (ok_callV (T := TX6) dX6_group_60 qm_151 rfl rfl rfl hw_953 hw_955 hw_42 qp_151) (
  kc (ok_istore dX6_group_63) (
  kc (ok_iload_n dX6_group_65 rfl) (
  kc (ok_iload dX6_group_66) (
  kc (ok_ior dX6_group_68) (
  kc (ok_istore_n dX6_group_69 rfl) (
  kc (ok_iload_n dX6_group_70 rfl) (
  kc (ok_iload dX6_group_71) (
  kc (ok_callS dX6_group_73 qm_122 rfl rfl hw_827 hw_828 qp_122) (
  kc (ok_iconst dX6_group_76 (by decide)) (
  kc (ok_cm_le dX6_group_77 (by decide)) (
  kc (ok_iconst dX6_group_80 (by decide)) (
  kc (ok_goto dX6_group_81 (by decide)) (
  kc (ok_iconst dX6_group_84 (by decide)) (
  kc (ok_iadd dX6_group_85) (
  kc (ok_istore_n dX6_group_86 rfl) (
  kc (ok_iinc dX6_group_87 (by decide)) (
  kc (ok_goto dX6_group_90 (by decide)) (
  kc (ok_iload_n dX6_group_93 rfl) (
  kc (ok_retI dX6_group_94 rfl) (
  kn))))))))))))))))))))))))))))))))))))))))))))))))))))))))
def cd_X6_neverOf : List (Nat × qOp) := [
  (0, oI (0) 1),
  (1, oStI 1 2),
  (2, oI (0) 3),
  (3, oStI 2 4),
  (4, oLdI 2 5),
  (5, oLdA 0 6),
  (6, oGet 6 6 9),
  (9, oCmGe 58 12),
  (12, oLdI 1 13),
  (13, oLdA 0 14),
  (14, oLdI 2 15),
  (15, oCallV 108 6 1 0 0 0 0 18),
  (18, oIfNe 49 21),
  (21, oLdA 0 22),
  (22, oGet 6 7 25),
  (25, oLdI 2 26),
  (26, oALd 27),
  (27, oI (9) 29),
  (29, oCmLe 49 32),
  (32, oLdA 0 33),
  (33, oGet 6 8 36),
  (36, oLdI 2 37),
  (37, oALd 38),
  (38, oI (9) 40),
  (40, oCmLe 49 43),
  (43, oI (1) 44),
  (44, oLdI 2 45),
  (45, oBin (fun x y => x <<< (y &&& 31)) 46),
  (46, oGoto 50),
  (49, oI (0) 50),
  (50, oBin (fun x y => x ||| y) 51),
  (51, oStI 1 52),
  (52, oInc 2 (1) 55),
  (55, oGoto 4),
  (58, oLdI 1 59),
  (59, oRetI)]
set_option maxRecDepth 100000 in
theorem ck_X6_neverOf {ini : Bool} : ∀ x ∈ cd_X6_neverOf, OpOK qMT cX6_neverOf RX6 3 (some .int) ini 0 0 none x.1 x.2 :=
  kc (ok_iconst dX6_neverOf_0 (by decide)) (
  kc (ok_istore_n dX6_neverOf_1 rfl) (
  kc (ok_iconst dX6_neverOf_2 (by decide)) (
  kc (ok_istore_n dX6_neverOf_3 rfl) (
  kc (ok_iload_n dX6_neverOf_4 rfl) (
  kc (ok_aload_n dX6_neverOf_5 rfl) (
  kc (ok_get (T := TX6) (k := 6) dX6_neverOf_6 rfl hin_X6 (by decide) hw_659) (
  kc (ok_cm_ge dX6_neverOf_9 (by decide)) (
  kc (ok_iload_n dX6_neverOf_12 rfl) (
  kc (ok_aload_n dX6_neverOf_13 rfl) (
  kc (ok_iload_n dX6_neverOf_14 rfl) (
  kc (ok_callV (T := TX6) dX6_neverOf_15 qm_108 rfl rfl rfl hw_766 hw_768 hw_20 qp_108) (
  kc (ok_if_ne dX6_neverOf_18 (by decide)) (
  kc (ok_aload_n dX6_neverOf_21 rfl) (
  kc (ok_get (T := TX6) (k := 7) dX6_neverOf_22 rfl hin_X6 (by decide) hw_660) (
  kc (ok_iload_n dX6_neverOf_25 rfl) (
  kc (ok_iaload dX6_neverOf_26) (
  kc (ok_bipush dX6_neverOf_27 (by decide)) (
  kc (ok_cm_le dX6_neverOf_29 (by decide)) (
  kc (ok_aload_n dX6_neverOf_32 rfl) (
  kc (ok_get (T := TX6) (k := 8) dX6_neverOf_33 rfl hin_X6 (by decide) hw_661) (
  kc (ok_iload_n dX6_neverOf_36 rfl) (
  kc (ok_iaload dX6_neverOf_37) (
  kc (ok_bipush dX6_neverOf_38 (by decide)) (
  kc (ok_cm_le dX6_neverOf_40 (by decide)) (
  kc (ok_iconst dX6_neverOf_43 (by decide)) (
  kc (ok_iload_n dX6_neverOf_44 rfl) (
  kc (ok_ishl dX6_neverOf_45) (
  kc (ok_goto dX6_neverOf_46 (by decide)) (
  kc (ok_iconst dX6_neverOf_49 (by decide)) (
  kc (ok_ior dX6_neverOf_50) (
  kc (ok_istore_n dX6_neverOf_51 rfl) (
  kc (ok_iinc dX6_neverOf_52 (by decide)) (
  kc (ok_goto dX6_neverOf_55 (by decide)) (
  kc (ok_iload_n dX6_neverOf_58 rfl) (
  kc (ok_retI dX6_neverOf_59 rfl) (
  kn))))))))))))))))))))))))))))))))))))
def cd_X6_never : List (Nat × qOp) := [
  (0, oLdA 0 1),
  (1, oCallV 153 6 0 0 0 0 0 4),
  (4, oRetI)]
set_option maxRecDepth 100000 in
theorem ck_X6_never {ini : Bool} : ∀ x ∈ cd_X6_never, OpOK qMT cX6_never RX6 1 (some .int) ini 0 0 none x.1 x.2 :=
  kc (ok_aload_n dX6_never_0 rfl) (
  kc (ok_callV (T := TX6) dX6_never_1 qm_153 rfl rfl rfl hw_961 hw_963 hw_43 qp_153) (
  kc (ok_retI dX6_never_4 rfl) (
  kn)))
def cd_X6_done : List (Nat × qOp) := [
  (0, oI (6) 2),
  (2, oLdA 0 3),
  (3, oGet 6 3 6),
  (6, oBin (fun x y => x * y) 7),
  (7, oStI 3 8),
  (8, oLdI 1 9),
  (9, oStI 4 11),
  (11, oLdI 2 12),
  (12, oI (1) 13),
  (13, oBin (fun x y => x - y) 14),
  (14, oStI 5 16),
  (16, oLdI 5 18),
  (18, oIfLt 44 21),
  (21, oLdA 0 22),
  (22, oGet 6 20 25),
  (25, oLdI 5 27),
  (27, oLdI 4 29),
  (29, oLdI 3 30),
  (30, oDiv (fun x y => x - x / y * y) 31),
  (31, oASt 32),
  (32, oLdI 4 34),
  (34, oLdI 3 35),
  (35, oDiv (fun x y => x / y) 36),
  (36, oStI 4 38),
  (38, oInc 5 (-1) 41),
  (41, oGoto 16),
  (44, oI (0) 45),
  (45, oStI 5 47),
  (47, oLdI 5 49),
  (49, oLdI 2 50),
  (50, oCmGe 114 53),
  (53, oLdA 0 54),
  (54, oGet 6 4 57),
  (57, oLdA 0 58),
  (58, oGet 6 20 61),
  (61, oLdI 5 63),
  (63, oALd 64),
  (64, oI (6) 66),
  (66, oDiv (fun x y => x / y) 67),
  (67, oALd 68),
  (68, oLdA 0 69),
  (69, oGet 6 20 72),
  (72, oLdI 5 74),
  (74, oALd 75),
  (75, oI (6) 77),
  (77, oDiv (fun x y => x - x / y * y) 78),
  (78, oCmNe 83 81),
  (81, oI (0) 82),
  (82, oRetZ),
  (83, oLdA 0 84),
  (84, oLdA 0 85),
  (85, oGet 6 20 88),
  (88, oLdI 5 90),
  (90, oALd 91),
  (91, oI (6) 93),
  (93, oDiv (fun x y => x / y) 94),
  (94, oLdA 0 95),
  (95, oGet 6 20 98),
  (98, oLdI 5 100),
  (100, oALd 101),
  (101, oI (6) 103),
  (103, oDiv (fun x y => x - x / y * y) 104),
  (104, oCallV 135 6 2 0 0 0 0 107),
  (107, oPop 108),
  (108, oInc 5 (1) 111),
  (111, oGoto 47),
  (114, oI (1) 115),
  (115, oRetZ)]
set_option maxRecDepth 100000 in
theorem ck_X6_done {ini : Bool} : ∀ x ∈ cd_X6_done, OpOK qMT cX6_done RX6 6 (some .boolean) ini 0 0 none x.1 x.2 :=
  kc (ok_bipush dX6_done_0 (by decide)) (
  kc (ok_aload_n dX6_done_2 rfl) (
  kc (ok_get (T := TX6) (k := 3) dX6_done_3 rfl hin_X6 (by decide) hw_656) (
  kc (ok_imul dX6_done_6) (
  kc (ok_istore_n dX6_done_7 rfl) (
  kc (ok_iload_n dX6_done_8 rfl) (
  kc (ok_istore dX6_done_9) (
  kc (ok_iload_n dX6_done_11 rfl) (
  kc (ok_iconst dX6_done_12 (by decide)) (
  kc (ok_isub dX6_done_13) (
  kc (ok_istore dX6_done_14) (
  kc (ok_iload dX6_done_16) (
  kc (ok_if_lt dX6_done_18 (by decide)) (
  kc (ok_aload_n dX6_done_21 rfl) (
  kc (ok_get (T := TX6) (k := 20) dX6_done_22 rfl hin_X6 (by decide) hw_673) (
  kc (ok_iload dX6_done_25) (
  kc (ok_iload dX6_done_27) (
  kc (ok_iload_n dX6_done_29 rfl) (
  kc (ok_irem dX6_done_30) (
  kc (ok_iastore dX6_done_31) (
  kc (ok_iload dX6_done_32) (
  kc (ok_iload_n dX6_done_34 rfl) (
  kc (ok_idiv dX6_done_35) (
  kc (ok_istore dX6_done_36) (
  kc (ok_iinc dX6_done_38 (by decide)) (
  kc (ok_goto dX6_done_41 (by decide)) (
  kc (ok_iconst dX6_done_44 (by decide)) (
  kc (ok_istore dX6_done_45) (
  kc (ok_iload dX6_done_47) (
  kc (ok_iload_n dX6_done_49 rfl) (
  kc (ok_cm_ge dX6_done_50 (by decide)) (
  kc (ok_aload_n dX6_done_53 rfl) (
  kc (ok_get (T := TX6) (k := 4) dX6_done_54 rfl hin_X6 (by decide) hw_657) (
  kc (ok_aload_n dX6_done_57 rfl) (
  kc (ok_get (T := TX6) (k := 20) dX6_done_58 rfl hin_X6 (by decide) hw_673) (
  kc (ok_iload dX6_done_61) (
  kc (ok_iaload dX6_done_63) (
  kc (ok_bipush dX6_done_64 (by decide)) (
  kc (ok_idiv dX6_done_66) (
  kc (ok_iaload dX6_done_67) (
  kc (ok_aload_n dX6_done_68 rfl) (
  kc (ok_get (T := TX6) (k := 20) dX6_done_69 rfl hin_X6 (by decide) hw_673) (
  kc (ok_iload dX6_done_72) (
  kc (ok_iaload dX6_done_74) (
  kc (ok_bipush dX6_done_75 (by decide)) (
  kc (ok_irem dX6_done_77) (
  kc (ok_cm_ne dX6_done_78 (by decide)) (
  kc (ok_iconst dX6_done_81 (by decide)) (
  kc (ok_retZ dX6_done_82 rfl) (
  kc (ok_aload_n dX6_done_83 rfl) (
  kc (ok_aload_n dX6_done_84 rfl) (
  kc (ok_get (T := TX6) (k := 20) dX6_done_85 rfl hin_X6 (by decide) hw_673) (
  kc (ok_iload dX6_done_88) (
  kc (ok_iaload dX6_done_90) (
  kc (ok_bipush dX6_done_91 (by decide)) (
  kc (ok_idiv dX6_done_93) (
  kc (ok_aload_n dX6_done_94 rfl) (
  kc (ok_get (T := TX6) (k := 20) dX6_done_95 rfl hin_X6 (by decide) hw_673) (
  kc (ok_iload dX6_done_98) (
  kc (ok_iaload dX6_done_100) (
  kc (ok_bipush dX6_done_101 (by decide)) (
  kc (ok_irem dX6_done_103) (
  kc (ok_callV (T := TX6) dX6_done_104 qm_135 rfl rfl rfl hw_886 hw_888 hw_34 qp_135) (
  kc (ok_pop dX6_done_107) (
  kc (ok_iinc dX6_done_108 (by decide)) (
  kc (ok_goto dX6_done_111 (by decide)) (
  kc (ok_iconst dX6_done_114 (by decide)) (
  kc (ok_retZ dX6_done_115 rfl) (
  kn))))))))))))))))))))))))))))))))))))))))))))))))))))))))))))))))))))
def cd_X6_notes : List (Nat × qOp) := [
  (0, oI (0) 1),
  (1, oStI 2 2),
  (2, oLdI 2 3),
  (3, oLdI 1 4),
  (4, oCmGe 41 7),
  (7, oLdA 0 8),
  (8, oGet 6 21 11),
  (11, oLdI 2 12),
  (12, oI (10) 14),
  (14, oLdA 0 15),
  (15, oGet 6 20 18),
  (18, oLdI 2 19),
  (19, oALd 20),
  (20, oI (6) 22),
  (22, oDiv (fun x y => x / y) 23),
  (23, oBin (fun x y => x * y) 24),
  (24, oLdA 0 25),
  (25, oGet 6 20 28),
  (28, oLdI 2 29),
  (29, oALd 30),
  (30, oI (6) 32),
  (32, oDiv (fun x y => x - x / y * y) 33),
  (33, oBin (fun x y => x + y) 34),
  (34, oASt 35),
  (35, oInc 2 (1) 38),
  (38, oGoto 2),
  (41, oRetV)]
set_option maxRecDepth 100000 in
theorem ck_X6_notes {ini : Bool} : ∀ x ∈ cd_X6_notes, OpOK qMT cX6_notes RX6 3 none ini 0 0 none x.1 x.2 :=
  kc (ok_iconst dX6_notes_0 (by decide)) (
  kc (ok_istore_n dX6_notes_1 rfl) (
  kc (ok_iload_n dX6_notes_2 rfl) (
  kc (ok_iload_n dX6_notes_3 rfl) (
  kc (ok_cm_ge dX6_notes_4 (by decide)) (
  kc (ok_aload_n dX6_notes_7 rfl) (
  kc (ok_get (T := TX6) (k := 21) dX6_notes_8 rfl hin_X6 (by decide) hw_674) (
  kc (ok_iload_n dX6_notes_11 rfl) (
  kc (ok_bipush dX6_notes_12 (by decide)) (
  kc (ok_aload_n dX6_notes_14 rfl) (
  kc (ok_get (T := TX6) (k := 20) dX6_notes_15 rfl hin_X6 (by decide) hw_673) (
  kc (ok_iload_n dX6_notes_18 rfl) (
  kc (ok_iaload dX6_notes_19) (
  kc (ok_bipush dX6_notes_20 (by decide)) (
  kc (ok_idiv dX6_notes_22) (
  kc (ok_imul dX6_notes_23) (
  kc (ok_aload_n dX6_notes_24 rfl) (
  kc (ok_get (T := TX6) (k := 20) dX6_notes_25 rfl hin_X6 (by decide) hw_673) (
  kc (ok_iload_n dX6_notes_28 rfl) (
  kc (ok_iaload dX6_notes_29) (
  kc (ok_bipush dX6_notes_30 (by decide)) (
  kc (ok_irem dX6_notes_32) (
  kc (ok_iadd dX6_notes_33) (
  kc (ok_iastore dX6_notes_34) (
  kc (ok_iinc dX6_notes_35 (by decide)) (
  kc (ok_goto dX6_notes_38 (by decide)) (
  kc (ok_retV dX6_notes_41 rfl) (
  kn)))))))))))))))))))))))))))
def cd_X6_fewestOf : List (Nat × qOp) := [
  (0, oI (1) 1),
  (1, oLdA 0 2),
  (2, oGet 6 6 5),
  (5, oBin (fun x y => x <<< (y &&& 31)) 6),
  (6, oI (1) 7),
  (7, oBin (fun x y => x - y) 8),
  (8, oLdA 0 9),
  (9, oCallV 153 6 0 0 0 0 0 12),
  (12, oI (-1) 13),
  (13, oBin (fun x y => x ^^^ y) 14),
  (14, oBin (fun x y => x &&& y) 15),
  (15, oStI 1 16),
  (16, oI (1) 17),
  (17, oStI 2 18),
  (18, oLdA 0 19),
  (19, oCallV 143 6 0 0 0 0 0 22),
  (22, oI (0) 23),
  (23, oStI 3 24),
  (24, oLdI 3 25),
  (25, oI (4) 26),
  (26, oCmGe 103 29),
  (29, oI (0) 30),
  (30, oStI 4 32),
  (32, oLdI 4 34),
  (34, oLdI 2 35),
  (35, oCmGe 87 38),
  (38, oLdA 0 39),
  (39, oLdI 4 41),
  (41, oLdI 3 42),
  (42, oCallV 155 6 2 0 0 0 0 45),
  (45, oIfEq 62 48),
  (48, oLdA 0 49),
  (49, oGet 6 9 52),
  (52, oLdI 1 53),
  (53, oBin (fun x y => x &&& y) 54),
  (54, oLdI 1 55),
  (55, oCmNe 62 58),
  (58, oI (1) 59),
  (59, oGoto 63),
  (62, oI (0) 63),
  (63, oStI 5 65),
  (65, oLdA 0 66),
  (66, oCallV 144 6 0 0 0 0 0 69),
  (69, oLdI 5 71),
  (71, oIfEq 81 74),
  (74, oLdA 0 75),
  (75, oLdI 3 76),
  (76, oCallV 156 6 1 0 0 0 0 79),
  (79, oLdI 3 80),
  (80, oRetI),
  (81, oInc 4 (1) 84),
  (84, oGoto 32),
  (87, oLdI 2 88),
  (88, oI (6) 90),
  (90, oLdA 0 91),
  (91, oGet 6 3 94),
  (94, oBin (fun x y => x * y) 95),
  (95, oBin (fun x y => x * y) 96),
  (96, oStI 2 97),
  (97, oInc 3 (1) 100),
  (100, oGoto 24),
  (103, oI (4) 104),
  (104, oRetI)]
set_option maxRecDepth 100000 in
theorem ck_X6_fewestOf {ini : Bool} : ∀ x ∈ cd_X6_fewestOf, OpOK qMT cX6_fewestOf RX6 6 (some .int) ini 0 0 none x.1 x.2 :=
  kc (ok_iconst dX6_fewestOf_0 (by decide)) (
  kc (ok_aload_n dX6_fewestOf_1 rfl) (
  kc (ok_get (T := TX6) (k := 6) dX6_fewestOf_2 rfl hin_X6 (by decide) hw_659) (
  kc (ok_ishl dX6_fewestOf_5) (
  kc (ok_iconst dX6_fewestOf_6 (by decide)) (
  kc (ok_isub dX6_fewestOf_7) (
  kc (ok_aload_n dX6_fewestOf_8 rfl) (
  kc (ok_callV (T := TX6) dX6_fewestOf_9 qm_153 rfl rfl rfl hw_961 hw_963 hw_43 qp_153) (
  kc (ok_iconst dX6_fewestOf_12 (by decide)) (
  kc (ok_ixor dX6_fewestOf_13) (
  kc (ok_iand dX6_fewestOf_14) (
  kc (ok_istore_n dX6_fewestOf_15 rfl) (
  kc (ok_iconst dX6_fewestOf_16 (by decide)) (
  kc (ok_istore_n dX6_fewestOf_17 rfl) (
  kc (ok_aload_n dX6_fewestOf_18 rfl) (
  kc (ok_callV (T := TX6) dX6_fewestOf_19 qm_143 rfl rfl rfl hw_923 hw_925 hw_38 qp_143) (
  kc (ok_iconst dX6_fewestOf_22 (by decide)) (
  kc (ok_istore_n dX6_fewestOf_23 rfl) (
  kc (ok_iload_n dX6_fewestOf_24 rfl) (
  kc (ok_iconst dX6_fewestOf_25 (by decide)) (
  kc (ok_cm_ge dX6_fewestOf_26 (by decide)) (
  kc (ok_iconst dX6_fewestOf_29 (by decide)) (
  kc (ok_istore dX6_fewestOf_30) (
  kc (ok_iload dX6_fewestOf_32) (
  kc (ok_iload_n dX6_fewestOf_34 rfl) (
  kc (ok_cm_ge dX6_fewestOf_35 (by decide)) (
  kc (ok_aload_n dX6_fewestOf_38 rfl) (
  kc (ok_iload dX6_fewestOf_39) (
  kc (ok_iload_n dX6_fewestOf_41 rfl) (
  kc (ok_callV (T := TX6) dX6_fewestOf_42 qm_155 rfl rfl rfl hw_975 hw_977 hw_45 qp_155) (
  kc (ok_if_eq dX6_fewestOf_45 (by decide)) (
  kc (ok_aload_n dX6_fewestOf_48 rfl) (
  kc (ok_get (T := TX6) (k := 9) dX6_fewestOf_49 rfl hin_X6 (by decide) hw_662) (
  kc (ok_iload_n dX6_fewestOf_52 rfl) (
  kc (ok_iand dX6_fewestOf_53) (
  kc (ok_iload_n dX6_fewestOf_54 rfl) (
  kc (ok_cm_ne dX6_fewestOf_55 (by decide)) (
  kc (ok_iconst dX6_fewestOf_58 (by decide)) (
  kc (ok_goto dX6_fewestOf_59 (by decide)) (
  kc (ok_iconst dX6_fewestOf_62 (by decide)) (
  kc (ok_istore dX6_fewestOf_63) (
  kc (ok_aload_n dX6_fewestOf_65 rfl) (
  kc (ok_callV (T := TX6) dX6_fewestOf_66 qm_144 rfl rfl rfl hw_927 hw_929 hw_39 qp_144) (
  kc (ok_iload dX6_fewestOf_69) (
  kc (ok_if_eq dX6_fewestOf_71 (by decide)) (
  kc (ok_aload_n dX6_fewestOf_74 rfl) (
  kc (ok_iload_n dX6_fewestOf_75 rfl) (
  kc (ok_callV (T := TX6) dX6_fewestOf_76 qm_156 rfl rfl rfl hw_979 hw_981 hw_46 qp_156) (
  kc (ok_iload_n dX6_fewestOf_79 rfl) (
  kc (ok_retI dX6_fewestOf_80 rfl) (
  kc (ok_iinc dX6_fewestOf_81 (by decide)) (
  kc (ok_goto dX6_fewestOf_84 (by decide)) (
  kc (ok_iload_n dX6_fewestOf_87 rfl) (
  kc (ok_bipush dX6_fewestOf_88 (by decide)) (
  kc (ok_aload_n dX6_fewestOf_90 rfl) (
  kc (ok_get (T := TX6) (k := 3) dX6_fewestOf_91 rfl hin_X6 (by decide) hw_656) (
  kc (ok_imul dX6_fewestOf_94) (
  kc (ok_imul dX6_fewestOf_95) (
  kc (ok_istore_n dX6_fewestOf_96 rfl) (
  kc (ok_iinc dX6_fewestOf_97 (by decide)) (
  kc (ok_goto dX6_fewestOf_100 (by decide)) (
  kc (ok_iconst dX6_fewestOf_103 (by decide)) (
  kc (ok_retI dX6_fewestOf_104 rfl) (
  kn)))))))))))))))))))))))))))))))))))))))))))))))))))))))))))))))
def cd_X6_fewest : List (Nat × qOp) := [
  (0, oLdI 1 1),
  (1, oI2L 2),
  (2, oL (-1) 5),
  (5, oL (2) 8),
  (8, oCallS 102 3 0 0 0 0 11),
  (11, oIfNe 16 14),
  (14, oI (-1) 15),
  (15, oRetI),
  (16, oLdA 0 17),
  (17, oCallV 157 6 0 0 0 0 0 20),
  (20, oStI 2 21),
  (21, oLdI 2 22),
  (22, oI (4) 23),
  (23, oCmNe 31 26),
  (26, oI (-4) 28),
  (28, oGoto 55),
  (31, oLdI 1 32),
  (32, oIfGe 39 35),
  (35, oLdI 2 36),
  (36, oGoto 55),
  (39, oLdI 1 40),
  (40, oLdI 2 41),
  (41, oCmGe 53 44),
  (44, oLdA 0 45),
  (45, oGet 6 21 48),
  (48, oLdI 1 49),
  (49, oALd 50),
  (50, oGoto 55),
  (53, oI (-4) 55),
  (55, oRetI)]
set_option maxRecDepth 100000 in
theorem ck_X6_fewest {ini : Bool} : ∀ x ∈ cd_X6_fewest, OpOK qMT cX6_fewest RX6 3 (some .int) ini 0 0 none x.1 x.2 :=
  kc (ok_iload_n dX6_fewest_0 rfl) (
  kc (ok_i2l dX6_fewest_1) (
  kc (ok_ldc2 dX6_fewest_2 hw_969) (
  kc (ok_ldc2 dX6_fewest_5 hw_970) (
  kc (ok_callS dX6_fewest_8 qm_102 rfl rfl hw_749 hw_750 qp_102) (
  kc (ok_if_ne dX6_fewest_11 (by decide)) (
  kc (ok_iconst dX6_fewest_14 (by decide)) (
  kc (ok_retI dX6_fewest_15 rfl) (
  kc (ok_aload_n dX6_fewest_16 rfl) (
  kc (ok_callV (T := TX6) dX6_fewest_17 qm_157 rfl rfl rfl hw_971 hw_973 hw_44 qp_157) (
  kc (ok_istore_n dX6_fewest_20 rfl) (
  kc (ok_iload_n dX6_fewest_21 rfl) (
  kc (ok_iconst dX6_fewest_22 (by decide)) (
  kc (ok_cm_ne dX6_fewest_23 (by decide)) (
  kc (ok_bipush dX6_fewest_26 (by decide)) (
  kc (ok_goto dX6_fewest_28 (by decide)) (
  kc (ok_iload_n dX6_fewest_31 rfl) (
  kc (ok_if_ge dX6_fewest_32 (by decide)) (
  kc (ok_iload_n dX6_fewest_35 rfl) (
  kc (ok_goto dX6_fewest_36 (by decide)) (
  kc (ok_iload_n dX6_fewest_39 rfl) (
  kc (ok_iload_n dX6_fewest_40 rfl) (
  kc (ok_cm_ge dX6_fewest_41 (by decide)) (
  kc (ok_aload_n dX6_fewest_44 rfl) (
  kc (ok_get (T := TX6) (k := 21) dX6_fewest_45 rfl hin_X6 (by decide) hw_674) (
  kc (ok_iload_n dX6_fewest_48 rfl) (
  kc (ok_iaload dX6_fewest_49) (
  kc (ok_goto dX6_fewest_50 (by decide)) (
  kc (ok_bipush dX6_fewest_53 (by decide)) (
  kc (ok_retI dX6_fewest_55 rfl) (
  kn))))))))))))))))))))))))))))))
def cd_X6_bestOf : List (Nat × qOp) := [
  (0, oLdA 0 1),
  (1, oCallV 123 6 0 0 0 0 0 4),
  (4, oLdI 1 5),
  (5, oBin (fun x y => x * y) 6),
  (6, oStI 2 7),
  (7, oLdA 0 8),
  (8, oI (0) 9),
  (9, oPutI 6 22 12),
  (12, oI (6) 14),
  (14, oLdA 0 15),
  (15, oGet 6 3 18),
  (18, oBin (fun x y => x * y) 19),
  (19, oStI 3 20),
  (20, oLdA 0 21),
  (21, oCallV 143 6 0 0 0 0 0 24),
  (24, oI (1) 25),
  (25, oStI 4 27),
  (27, oLdI 4 29),
  (29, oI (3) 30),
  (30, oCmGe 126 33),
  (33, oI (0) 34),
  (34, oStI 5 36),
  (36, oLdI 5 38),
  (38, oLdI 3 39),
  (39, oCmGe 110 42),
  (42, oLdA 0 43),
  (43, oLdI 5 45),
  (45, oLdI 4 47),
  (47, oCallV 155 6 2 0 0 0 0 50),
  (50, oIfEq 70 53),
  (53, oLdA 0 54),
  (54, oCallV 123 6 0 0 0 0 0 57),
  (57, oLdI 1 58),
  (58, oBin (fun x y => x * y) 59),
  (59, oLdI 4 61),
  (61, oBin (fun x y => x + y) 62),
  (62, oLdI 2 63),
  (63, oCmGe 70 66),
  (66, oI (1) 67),
  (67, oGoto 71),
  (70, oI (0) 71),
  (71, oStI 6 73),
  (73, oLdI 6 75),
  (75, oIfEq 100 78),
  (78, oLdA 0 79),
  (79, oCallV 123 6 0 0 0 0 0 82),
  (82, oLdI 1 83),
  (83, oBin (fun x y => x * y) 84),
  (84, oLdI 4 86),
  (86, oBin (fun x y => x + y) 87),
  (87, oStI 2 88),
  (88, oLdA 0 89),
  (89, oLdI 4 91),
  (91, oPutI 6 22 94),
  (94, oLdA 0 95),
  (95, oLdI 4 97),
  (97, oCallV 156 6 1 0 0 0 0 100),
  (100, oLdA 0 101),
  (101, oCallV 144 6 0 0 0 0 0 104),
  (104, oInc 5 (1) 107),
  (107, oGoto 36),
  (110, oLdI 3 111),
  (111, oI (6) 113),
  (113, oLdA 0 114),
  (114, oGet 6 3 117),
  (117, oBin (fun x y => x * y) 118),
  (118, oBin (fun x y => x * y) 119),
  (119, oStI 3 120),
  (120, oInc 4 (1) 123),
  (123, oGoto 27),
  (126, oLdI 2 127),
  (127, oRetI)]
set_option maxRecDepth 100000 in
theorem ck_X6_bestOf {ini : Bool} : ∀ x ∈ cd_X6_bestOf, OpOK qMT cX6_bestOf RX6 7 (some .int) ini 0 0 none x.1 x.2 :=
  kc (ok_aload_n dX6_bestOf_0 rfl) (
  kc (ok_callV (T := TX6) dX6_bestOf_1 qm_123 rfl rfl rfl hw_830 hw_832 hw_26 qp_123) (
  kc (ok_iload_n dX6_bestOf_4 rfl) (
  kc (ok_imul dX6_bestOf_5) (
  kc (ok_istore_n dX6_bestOf_6 rfl) (
  kc (ok_aload_n dX6_bestOf_7 rfl) (
  kc (ok_iconst dX6_bestOf_8 (by decide)) (
  kc (ok_putI (T := TX6) (k := 22) dX6_bestOf_9 rfl hin_X6 tyX6_ok nmX6 (by decide) hw_675 rfl (tyX6_ok 22 (by decide))) (
  kc (ok_bipush dX6_bestOf_12 (by decide)) (
  kc (ok_aload_n dX6_bestOf_14 rfl) (
  kc (ok_get (T := TX6) (k := 3) dX6_bestOf_15 rfl hin_X6 (by decide) hw_656) (
  kc (ok_imul dX6_bestOf_18) (
  kc (ok_istore_n dX6_bestOf_19 rfl) (
  kc (ok_aload_n dX6_bestOf_20 rfl) (
  kc (ok_callV (T := TX6) dX6_bestOf_21 qm_143 rfl rfl rfl hw_923 hw_925 hw_38 qp_143) (
  kc (ok_iconst dX6_bestOf_24 (by decide)) (
  kc (ok_istore dX6_bestOf_25) (
  kc (ok_iload dX6_bestOf_27) (
  kc (ok_iconst dX6_bestOf_29 (by decide)) (
  kc (ok_cm_ge dX6_bestOf_30 (by decide)) (
  kc (ok_iconst dX6_bestOf_33 (by decide)) (
  kc (ok_istore dX6_bestOf_34) (
  kc (ok_iload dX6_bestOf_36) (
  kc (ok_iload_n dX6_bestOf_38 rfl) (
  kc (ok_cm_ge dX6_bestOf_39 (by decide)) (
  kc (ok_aload_n dX6_bestOf_42 rfl) (
  kc (ok_iload dX6_bestOf_43) (
  kc (ok_iload dX6_bestOf_45) (
  kc (ok_callV (T := TX6) dX6_bestOf_47 qm_155 rfl rfl rfl hw_975 hw_977 hw_45 qp_155) (
  kc (ok_if_eq dX6_bestOf_50 (by decide)) (
  kc (ok_aload_n dX6_bestOf_53 rfl) (
  kc (ok_callV (T := TX6) dX6_bestOf_54 qm_123 rfl rfl rfl hw_830 hw_832 hw_26 qp_123) (
  kc (ok_iload_n dX6_bestOf_57 rfl) (
  kc (ok_imul dX6_bestOf_58) (
  kc (ok_iload dX6_bestOf_59) (
  kc (ok_iadd dX6_bestOf_61) (
  kc (ok_iload_n dX6_bestOf_62 rfl) (
  kc (ok_cm_ge dX6_bestOf_63 (by decide)) (
  kc (ok_iconst dX6_bestOf_66 (by decide)) (
  kc (ok_goto dX6_bestOf_67 (by decide)) (
  kc (ok_iconst dX6_bestOf_70 (by decide)) (
  kc (ok_istore dX6_bestOf_71) (
  kc (ok_iload dX6_bestOf_73) (
  kc (ok_if_eq dX6_bestOf_75 (by decide)) (
  kc (ok_aload_n dX6_bestOf_78 rfl) (
  kc (ok_callV (T := TX6) dX6_bestOf_79 qm_123 rfl rfl rfl hw_830 hw_832 hw_26 qp_123) (
  kc (ok_iload_n dX6_bestOf_82 rfl) (
  kc (ok_imul dX6_bestOf_83) (
  kc (ok_iload dX6_bestOf_84) (
  kc (ok_iadd dX6_bestOf_86) (
  kc (ok_istore_n dX6_bestOf_87 rfl) (
  kc (ok_aload_n dX6_bestOf_88 rfl) (
  kc (ok_iload dX6_bestOf_89) (
  kc (ok_putI (T := TX6) (k := 22) dX6_bestOf_91 rfl hin_X6 tyX6_ok nmX6 (by decide) hw_675 rfl (tyX6_ok 22 (by decide))) (
  kc (ok_aload_n dX6_bestOf_94 rfl) (
  kc (ok_iload dX6_bestOf_95) (
  kc (ok_callV (T := TX6) dX6_bestOf_97 qm_156 rfl rfl rfl hw_979 hw_981 hw_46 qp_156) (
  kc (ok_aload_n dX6_bestOf_100 rfl) (
  kc (ok_callV (T := TX6) dX6_bestOf_101 qm_144 rfl rfl rfl hw_927 hw_929 hw_39 qp_144) (
  kc (ok_iinc dX6_bestOf_104 (by decide)) (
  kc (ok_goto dX6_bestOf_107 (by decide)) (
  kc (ok_iload_n dX6_bestOf_110 rfl) (
  kc (ok_bipush dX6_bestOf_111 (by decide)) (
  kc (ok_aload_n dX6_bestOf_113 rfl) (
  kc (ok_get (T := TX6) (k := 3) dX6_bestOf_114 rfl hin_X6 (by decide) hw_656) (
  kc (ok_imul dX6_bestOf_117) (
  kc (ok_imul dX6_bestOf_118) (
  kc (ok_istore_n dX6_bestOf_119 rfl) (
  kc (ok_iinc dX6_bestOf_120 (by decide)) (
  kc (ok_goto dX6_bestOf_123 (by decide)) (
  kc (ok_iload_n dX6_bestOf_126 rfl) (
  kc (ok_retI dX6_bestOf_127 rfl) (
  kn))))))))))))))))))))))))))))))))))))))))))))))))))))))))))))))))))))))))
def cd_X6_best : List (Nat × qOp) := [
  (0, oLdI 1 1),
  (1, oI2L 2),
  (2, oL (1) 3),
  (3, oL (9) 6),
  (6, oCallS 102 3 0 0 0 0 9),
  (9, oIfEq 24 12),
  (12, oLdI 2 13),
  (13, oI2L 14),
  (14, oL (-2) 17),
  (17, oL (1) 18),
  (18, oCallS 102 3 0 0 0 0 21),
  (21, oIfNe 26 24),
  (24, oI (-1) 25),
  (25, oRetI),
  (26, oLdA 0 27),
  (27, oLdI 1 28),
  (28, oCallV 159 6 1 0 0 0 0 31),
  (31, oStI 3 32),
  (32, oLdI 2 33),
  (33, oI (-2) 35),
  (35, oCmNe 42 38),
  (38, oLdI 3 39),
  (39, oGoto 73),
  (42, oLdI 2 43),
  (43, oI (-1) 44),
  (44, oCmNe 54 47),
  (47, oLdA 0 48),
  (48, oGet 6 22 51),
  (51, oGoto 73),
  (54, oLdI 2 55),
  (55, oLdA 0 56),
  (56, oGet 6 22 59),
  (59, oCmGe 71 62),
  (62, oLdA 0 63),
  (63, oGet 6 21 66),
  (66, oLdI 2 67),
  (67, oALd 68),
  (68, oGoto 73),
  (71, oI (-4) 73),
  (73, oRetI)]
set_option maxRecDepth 100000 in
theorem ck_X6_best {ini : Bool} : ∀ x ∈ cd_X6_best, OpOK qMT cX6_best RX6 4 (some .int) ini 0 0 none x.1 x.2 :=
  kc (ok_iload_n dX6_best_0 rfl) (
  kc (ok_i2l dX6_best_1) (
  kc (ok_lconst dX6_best_2 (by decide)) (
  kc (ok_ldc2 dX6_best_3 hw_987) (
  kc (ok_callS dX6_best_6 qm_102 rfl rfl hw_749 hw_750 qp_102) (
  kc (ok_if_eq dX6_best_9 (by decide)) (
  kc (ok_iload_n dX6_best_12 rfl) (
  kc (ok_i2l dX6_best_13) (
  kc (ok_ldc2 dX6_best_14 hw_988) (
  kc (ok_lconst dX6_best_17 (by decide)) (
  kc (ok_callS dX6_best_18 qm_102 rfl rfl hw_749 hw_750 qp_102) (
  kc (ok_if_ne dX6_best_21 (by decide)) (
  kc (ok_iconst dX6_best_24 (by decide)) (
  kc (ok_retI dX6_best_25 rfl) (
  kc (ok_aload_n dX6_best_26 rfl) (
  kc (ok_iload_n dX6_best_27 rfl) (
  kc (ok_callV (T := TX6) dX6_best_28 qm_159 rfl rfl rfl hw_989 hw_991 hw_47 qp_159) (
  kc (ok_istore_n dX6_best_31 rfl) (
  kc (ok_iload_n dX6_best_32 rfl) (
  kc (ok_bipush dX6_best_33 (by decide)) (
  kc (ok_cm_ne dX6_best_35 (by decide)) (
  kc (ok_iload_n dX6_best_38 rfl) (
  kc (ok_goto dX6_best_39 (by decide)) (
  kc (ok_iload_n dX6_best_42 rfl) (
  kc (ok_iconst dX6_best_43 (by decide)) (
  kc (ok_cm_ne dX6_best_44 (by decide)) (
  kc (ok_aload_n dX6_best_47 rfl) (
  kc (ok_get (T := TX6) (k := 22) dX6_best_48 rfl hin_X6 (by decide) hw_675) (
  kc (ok_goto dX6_best_51 (by decide)) (
  kc (ok_iload_n dX6_best_54 rfl) (
  kc (ok_aload_n dX6_best_55 rfl) (
  kc (ok_get (T := TX6) (k := 22) dX6_best_56 rfl hin_X6 (by decide) hw_675) (
  kc (ok_cm_ge dX6_best_59 (by decide)) (
  kc (ok_aload_n dX6_best_62 rfl) (
  kc (ok_get (T := TX6) (k := 21) dX6_best_63 rfl hin_X6 (by decide) hw_674) (
  kc (ok_iload_n dX6_best_66 rfl) (
  kc (ok_iaload dX6_best_67) (
  kc (ok_goto dX6_best_68 (by decide)) (
  kc (ok_bipush dX6_best_71 (by decide)) (
  kc (ok_retI dX6_best_73 rfl) (
  kn))))))))))))))))))))))))))))))))))))))))
def cd_X6_savesOf : List (Nat × qOp) := [
  (0, oLdA 0 1),
  (1, oCallV 123 6 0 0 0 0 0 4),
  (4, oStI 3 5),
  (5, oLdA 0 6),
  (6, oCallV 143 6 0 0 0 0 0 9),
  (9, oLdA 0 10),
  (10, oLdI 1 11),
  (11, oLdI 2 12),
  (12, oCallV 140 6 2 0 0 0 0 15),
  (15, oPop 16),
  (16, oLdA 0 17),
  (17, oCallV 123 6 0 0 0 0 0 20),
  (20, oStI 4 22),
  (22, oLdA 0 23),
  (23, oCallV 144 6 0 0 0 0 0 26),
  (26, oLdI 3 27),
  (27, oLdI 4 29),
  (29, oBin (fun x y => x - y) 30),
  (30, oRetI)]
set_option maxRecDepth 100000 in
theorem ck_X6_savesOf {ini : Bool} : ∀ x ∈ cd_X6_savesOf, OpOK qMT cX6_savesOf RX6 5 (some .int) ini 0 0 none x.1 x.2 :=
  kc (ok_aload_n dX6_savesOf_0 rfl) (
  kc (ok_callV (T := TX6) dX6_savesOf_1 qm_123 rfl rfl rfl hw_830 hw_832 hw_26 qp_123) (
  kc (ok_istore_n dX6_savesOf_4 rfl) (
  kc (ok_aload_n dX6_savesOf_5 rfl) (
  kc (ok_callV (T := TX6) dX6_savesOf_6 qm_143 rfl rfl rfl hw_923 hw_925 hw_38 qp_143) (
  kc (ok_aload_n dX6_savesOf_9 rfl) (
  kc (ok_iload_n dX6_savesOf_10 rfl) (
  kc (ok_iload_n dX6_savesOf_11 rfl) (
  kc (ok_callV (T := TX6) dX6_savesOf_12 qm_140 rfl rfl rfl hw_906 hw_908 hw_36 qp_140) (
  kc (ok_pop dX6_savesOf_15) (
  kc (ok_aload_n dX6_savesOf_16 rfl) (
  kc (ok_callV (T := TX6) dX6_savesOf_17 qm_123 rfl rfl rfl hw_830 hw_832 hw_26 qp_123) (
  kc (ok_istore dX6_savesOf_20) (
  kc (ok_aload_n dX6_savesOf_22 rfl) (
  kc (ok_callV (T := TX6) dX6_savesOf_23 qm_144 rfl rfl rfl hw_927 hw_929 hw_39 qp_144) (
  kc (ok_iload_n dX6_savesOf_26 rfl) (
  kc (ok_iload dX6_savesOf_27) (
  kc (ok_isub dX6_savesOf_29) (
  kc (ok_retI dX6_savesOf_30 rfl) (
  kn)))))))))))))))))))
def cd_X6_saves : List (Nat × qOp) := [
  (0, oLdI 1 1),
  (1, oCallS 104 1 0 0 0 0 4),
  (4, oIfEq 28 7),
  (7, oLdI 2 8),
  (8, oCallS 104 1 0 0 0 0 11),
  (11, oIfEq 28 14),
  (14, oLdI 1 15),
  (15, oLdI 2 16),
  (16, oCmEq 28 19),
  (19, oLdA 0 20),
  (20, oLdI 1 21),
  (21, oLdI 2 22),
  (22, oCallV 161 6 2 0 0 0 0 25),
  (25, oGoto 30),
  (28, oI (-100001) 30),
  (30, oRetI)]
set_option maxRecDepth 100000 in
theorem ck_X6_saves {ini : Bool} : ∀ x ∈ cd_X6_saves, OpOK qMT cX6_saves RX6 3 (some .int) ini 0 0 none x.1 x.2 :=
  kc (ok_iload_n dX6_saves_0 rfl) (
  kc (ok_callS dX6_saves_1 qm_104 rfl rfl hw_745 hw_746 qp_104) (
  kc (ok_if_eq dX6_saves_4 (by decide)) (
  kc (ok_iload_n dX6_saves_7 rfl) (
  kc (ok_callS dX6_saves_8 qm_104 rfl rfl hw_745 hw_746 qp_104) (
  kc (ok_if_eq dX6_saves_11 (by decide)) (
  kc (ok_iload_n dX6_saves_14 rfl) (
  kc (ok_iload_n dX6_saves_15 rfl) (
  kc (ok_cm_eq dX6_saves_16 (by decide)) (
  kc (ok_aload_n dX6_saves_19 rfl) (
  kc (ok_iload_n dX6_saves_20 rfl) (
  kc (ok_iload_n dX6_saves_21 rfl) (
  kc (ok_callV (T := TX6) dX6_saves_22 qm_161 rfl rfl rfl hw_997 hw_999 hw_48 qp_161) (
  kc (ok_goto dX6_saves_25 (by decide)) (
  kc (ok_ldc dX6_saves_28 hw_822) (
  kc (ok_retI dX6_saves_30 rfl) (
  kn))))))))))))))))
def cd_X6_match : List (Nat × qOp) := [
  (0, oI (1) 1),
  (1, oStI 1 2),
  (2, oLdA 0 3),
  (3, oI (0) 4),
  (4, oI (1) 5),
  (5, oCallV 161 6 2 0 0 0 0 8),
  (8, oStI 2 9),
  (9, oI (0) 10),
  (10, oStI 3 11),
  (11, oLdI 3 12),
  (12, oI (6) 14),
  (14, oCmGe 81 17),
  (17, oLdI 3 18),
  (18, oI (1) 19),
  (19, oBin (fun x y => x + y) 20),
  (20, oStI 4 22),
  (22, oLdI 4 24),
  (24, oI (6) 26),
  (26, oCmGe 75 29),
  (29, oLdA 0 30),
  (30, oLdI 3 31),
  (31, oLdI 4 33),
  (33, oCallV 161 6 2 0 0 0 0 36),
  (36, oStI 5 38),
  (38, oLdI 5 40),
  (40, oLdI 2 41),
  (41, oCmLe 54 44),
  (44, oI (10) 46),
  (46, oLdI 3 47),
  (47, oBin (fun x y => x * y) 48),
  (48, oLdI 4 50),
  (50, oBin (fun x y => x + y) 51),
  (51, oGoto 55),
  (54, oLdI 1 55),
  (55, oStI 1 56),
  (56, oLdI 5 58),
  (58, oLdI 2 59),
  (59, oCmLe 67 62),
  (62, oLdI 5 64),
  (64, oGoto 68),
  (67, oLdI 2 68),
  (68, oStI 2 69),
  (69, oInc 4 (1) 72),
  (72, oGoto 22),
  (75, oInc 3 (1) 78),
  (78, oGoto 11),
  (81, oLdI 1 82),
  (82, oRetI)]
set_option maxRecDepth 100000 in
theorem ck_X6_match {ini : Bool} : ∀ x ∈ cd_X6_match, OpOK qMT cX6_match RX6 6 (some .int) ini 0 0 none x.1 x.2 :=
  kc (ok_iconst dX6_match_0 (by decide)) (
  kc (ok_istore_n dX6_match_1 rfl) (
  kc (ok_aload_n dX6_match_2 rfl) (
  kc (ok_iconst dX6_match_3 (by decide)) (
  kc (ok_iconst dX6_match_4 (by decide)) (
  kc (ok_callV (T := TX6) dX6_match_5 qm_161 rfl rfl rfl hw_997 hw_999 hw_48 qp_161) (
  kc (ok_istore_n dX6_match_8 rfl) (
  kc (ok_iconst dX6_match_9 (by decide)) (
  kc (ok_istore_n dX6_match_10 rfl) (
  kc (ok_iload_n dX6_match_11 rfl) (
  kc (ok_bipush dX6_match_12 (by decide)) (
  kc (ok_cm_ge dX6_match_14 (by decide)) (
  kc (ok_iload_n dX6_match_17 rfl) (
  kc (ok_iconst dX6_match_18 (by decide)) (
  kc (ok_iadd dX6_match_19) (
  kc (ok_istore dX6_match_20) (
  kc (ok_iload dX6_match_22) (
  kc (ok_bipush dX6_match_24 (by decide)) (
  kc (ok_cm_ge dX6_match_26 (by decide)) (
  kc (ok_aload_n dX6_match_29 rfl) (
  kc (ok_iload_n dX6_match_30 rfl) (
  kc (ok_iload dX6_match_31) (
  kc (ok_callV (T := TX6) dX6_match_33 qm_161 rfl rfl rfl hw_997 hw_999 hw_48 qp_161) (
  kc (ok_istore dX6_match_36) (
  kc (ok_iload dX6_match_38) (
  kc (ok_iload_n dX6_match_40 rfl) (
  kc (ok_cm_le dX6_match_41 (by decide)) (
  kc (ok_bipush dX6_match_44 (by decide)) (
  kc (ok_iload_n dX6_match_46 rfl) (
  kc (ok_imul dX6_match_47) (
  kc (ok_iload dX6_match_48) (
  kc (ok_iadd dX6_match_50) (
  kc (ok_goto dX6_match_51 (by decide)) (
  kc (ok_iload_n dX6_match_54 rfl) (
  kc (ok_istore_n dX6_match_55 rfl) (
  kc (ok_iload dX6_match_56) (
  kc (ok_iload_n dX6_match_58 rfl) (
  kc (ok_cm_le dX6_match_59 (by decide)) (
  kc (ok_iload dX6_match_62) (
  kc (ok_goto dX6_match_64 (by decide)) (
  kc (ok_iload_n dX6_match_67 rfl) (
  kc (ok_istore_n dX6_match_68 rfl) (
  kc (ok_iinc dX6_match_69 (by decide)) (
  kc (ok_goto dX6_match_72 (by decide)) (
  kc (ok_iinc dX6_match_75 (by decide)) (
  kc (ok_goto dX6_match_78 (by decide)) (
  kc (ok_iload_n dX6_match_81 rfl) (
  kc (ok_retI dX6_match_82 rfl) (
  kn))))))))))))))))))))))))))))))))))))))))))))))))
def cd_X6_against : List (Nat × qOp) := [
  (0, oLdA 0 1),
  (1, oLdI 1 2),
  (2, oCallV 105 6 1 0 0 0 0 5),
  (5, oIfEq 37 8),
  (8, oLdI 2 9),
  (9, oCallS 104 1 0 0 0 0 12),
  (12, oIfEq 37 15),
  (15, oLdI 3 16),
  (16, oCallS 104 1 0 0 0 0 19),
  (19, oIfEq 37 22),
  (22, oLdI 3 23),
  (23, oLdI 2 24),
  (24, oCmEq 37 27),
  (27, oLdI 3 28),
  (28, oLdA 0 29),
  (29, oGet 6 4 32),
  (32, oLdI 1 33),
  (33, oALd 34),
  (34, oCmNe 40 37),
  (37, oI (-100001) 39),
  (39, oRetI),
  (40, oLdA 0 41),
  (41, oGet 6 4 44),
  (44, oLdI 1 45),
  (45, oALd 46),
  (46, oLdI 2 47),
  (47, oCmNe 55 50),
  (50, oI (-100002) 52),
  (52, oGoto 63),
  (55, oLdA 0 56),
  (56, oLdI 1 57),
  (57, oLdI 2 58),
  (58, oLdI 3 59),
  (59, oCallV 145 6 3 0 0 0 0 62),
  (62, oUn (fun x => -x) 63),
  (63, oRetI)]
set_option maxRecDepth 100000 in
theorem ck_X6_against {ini : Bool} : ∀ x ∈ cd_X6_against, OpOK qMT cX6_against RX6 4 (some .int) ini 0 0 none x.1 x.2 :=
  kc (ok_aload_n dX6_against_0 rfl) (
  kc (ok_iload_n dX6_against_1 rfl) (
  kc (ok_callV (T := TX6) dX6_against_2 qm_105 rfl rfl rfl hw_779 hw_781 hw_21 qp_105) (
  kc (ok_if_eq dX6_against_5 (by decide)) (
  kc (ok_iload_n dX6_against_8 rfl) (
  kc (ok_callS dX6_against_9 qm_104 rfl rfl hw_745 hw_746 qp_104) (
  kc (ok_if_eq dX6_against_12 (by decide)) (
  kc (ok_iload_n dX6_against_15 rfl) (
  kc (ok_callS dX6_against_16 qm_104 rfl rfl hw_745 hw_746 qp_104) (
  kc (ok_if_eq dX6_against_19 (by decide)) (
  kc (ok_iload_n dX6_against_22 rfl) (
  kc (ok_iload_n dX6_against_23 rfl) (
  kc (ok_cm_eq dX6_against_24 (by decide)) (
  kc (ok_iload_n dX6_against_27 rfl) (
  kc (ok_aload_n dX6_against_28 rfl) (
  kc (ok_get (T := TX6) (k := 4) dX6_against_29 rfl hin_X6 (by decide) hw_657) (
  kc (ok_iload_n dX6_against_32 rfl) (
  kc (ok_iaload dX6_against_33) (
  kc (ok_cm_ne dX6_against_34 (by decide)) (
  kc (ok_ldc dX6_against_37 hw_822) (
  kc (ok_retI dX6_against_39 rfl) (
  kc (ok_aload_n dX6_against_40 rfl) (
  kc (ok_get (T := TX6) (k := 4) dX6_against_41 rfl hin_X6 (by decide) hw_657) (
  kc (ok_iload_n dX6_against_44 rfl) (
  kc (ok_iaload dX6_against_45) (
  kc (ok_iload_n dX6_against_46 rfl) (
  kc (ok_cm_ne dX6_against_47 (by decide)) (
  kc (ok_ldc dX6_against_50 hw_918) (
  kc (ok_goto dX6_against_52 (by decide)) (
  kc (ok_aload_n dX6_against_55 rfl) (
  kc (ok_iload_n dX6_against_56 rfl) (
  kc (ok_iload_n dX6_against_57 rfl) (
  kc (ok_iload_n dX6_against_58 rfl) (
  kc (ok_callV (T := TX6) dX6_against_59 qm_145 rfl rfl rfl hw_919 hw_921 hw_37 qp_145) (
  kc (ok_ineg dX6_against_62) (
  kc (ok_retI dX6_against_63 rfl) (
  kn))))))))))))))))))))))))))))))))))))
def cd_X6_pays : List (Nat × qOp) := [
  (0, oLdA 0 1),
  (1, oLdI 1 2),
  (2, oCallV 105 6 1 0 0 0 0 5),
  (5, oIfEq 53 8),
  (8, oLdI 2 9),
  (9, oCallS 104 1 0 0 0 0 12),
  (12, oIfEq 53 15),
  (15, oLdI 3 16),
  (16, oI2L 17),
  (17, oL (0) 18),
  (18, oL (999) 21),
  (21, oCallS 102 3 0 0 0 0 24),
  (24, oIfEq 53 27),
  (27, oLdI 4 29),
  (29, oI2L 30),
  (30, oL (1) 31),
  (31, oL (9) 34),
  (34, oCallS 102 3 0 0 0 0 37),
  (37, oIfEq 53 40),
  (40, oLdI 5 42),
  (42, oI2L 43),
  (43, oL (0) 44),
  (44, oL (16) 47),
  (47, oCallS 102 3 0 0 0 0 50),
  (50, oIfNe 56 53),
  (53, oI (-100001) 55),
  (55, oRetI),
  (56, oLdA 0 57),
  (57, oGet 6 4 60),
  (60, oLdI 1 61),
  (61, oALd 62),
  (62, oLdI 2 63),
  (63, oCmNe 69 66),
  (66, oI (-100002) 68),
  (68, oRetI),
  (69, oLdA 0 70),
  (70, oLdI 2 71),
  (71, oCallV 119 6 1 0 0 0 0 74),
  (74, oStI 6 76),
  (76, oLdA 0 77),
  (77, oCallV 143 6 0 0 0 0 0 80),
  (80, oLdA 0 81),
  (81, oLdI 1 82),
  (82, oLdI 2 83),
  (83, oCallV 135 6 2 0 0 0 0 86),
  (86, oPop 87),
  (87, oLdA 0 88),
  (88, oLdI 2 89),
  (89, oCallV 119 6 1 0 0 0 0 92),
  (92, oLdI 6 94),
  (94, oBin (fun x y => x - y) 95),
  (95, oStI 7 97),
  (97, oLdA 0 98),
  (98, oCallV 144 6 0 0 0 0 0 101),
  (101, oI (16) 103),
  (103, oLdA 0 104),
  (104, oGet 6 5 107),
  (107, oI (6) 109),
  (109, oLdI 1 110),
  (110, oBin (fun x y => x * y) 111),
  (111, oLdI 2 112),
  (112, oBin (fun x y => x + y) 113),
  (113, oALd 114),
  (114, oLdI 3 115),
  (115, oBin (fun x y => x - y) 116),
  (116, oBin (fun x y => x * y) 117),
  (117, oI (16) 119),
  (119, oLdI 4 121),
  (121, oBin (fun x y => x * y) 122),
  (122, oLdA 0 123),
  (123, oGet 6 1 126),
  (126, oLdI 2 127),
  (127, oALd 128),
  (128, oBin (fun x y => x * y) 129),
  (129, oLdI 7 131),
  (131, oBin (fun x y => x * y) 132),
  (132, oBin (fun x y => x - y) 133),
  (133, oLdI 5 135),
  (135, oLdI 4 137),
  (137, oBin (fun x y => x * y) 138),
  (138, oLdA 0 139),
  (139, oGet 6 1 142),
  (142, oLdI 2 143),
  (143, oALd 144),
  (144, oBin (fun x y => x * y) 145),
  (145, oBin (fun x y => x - y) 146),
  (146, oRetI)]
set_option maxRecDepth 100000 in
theorem ck_X6_pays {ini : Bool} : ∀ x ∈ cd_X6_pays, OpOK qMT cX6_pays RX6 8 (some .int) ini 0 0 none x.1 x.2 :=
  kc (ok_aload_n dX6_pays_0 rfl) (
  kc (ok_iload_n dX6_pays_1 rfl) (
  kc (ok_callV (T := TX6) dX6_pays_2 qm_105 rfl rfl rfl hw_779 hw_781 hw_21 qp_105) (
  kc (ok_if_eq dX6_pays_5 (by decide)) (
  kc (ok_iload_n dX6_pays_8 rfl) (
  kc (ok_callS dX6_pays_9 qm_104 rfl rfl hw_745 hw_746 qp_104) (
  kc (ok_if_eq dX6_pays_12 (by decide)) (
  kc (ok_iload_n dX6_pays_15 rfl) (
  kc (ok_i2l dX6_pays_16) (
  kc (ok_lconst dX6_pays_17 (by decide)) (
  kc (ok_ldc2 dX6_pays_18 hw_752) (
  kc (ok_callS dX6_pays_21 qm_102 rfl rfl hw_749 hw_750 qp_102) (
  kc (ok_if_eq dX6_pays_24 (by decide)) (
  kc (ok_iload dX6_pays_27) (
  kc (ok_i2l dX6_pays_29) (
  kc (ok_lconst dX6_pays_30 (by decide)) (
  kc (ok_ldc2 dX6_pays_31 hw_987) (
  kc (ok_callS dX6_pays_34 qm_102 rfl rfl hw_749 hw_750 qp_102) (
  kc (ok_if_eq dX6_pays_37 (by decide)) (
  kc (ok_iload dX6_pays_40) (
  kc (ok_i2l dX6_pays_42) (
  kc (ok_lconst dX6_pays_43 (by decide)) (
  kc (ok_ldc2 dX6_pays_44 hw_1013) (
  kc (ok_callS dX6_pays_47 qm_102 rfl rfl hw_749 hw_750 qp_102) (
  kc (ok_if_ne dX6_pays_50 (by decide)) (
  kc (ok_ldc dX6_pays_53 hw_822) (
  kc (ok_retI dX6_pays_55 rfl) (
  kc (ok_aload_n dX6_pays_56 rfl) (
  kc (ok_get (T := TX6) (k := 4) dX6_pays_57 rfl hin_X6 (by decide) hw_657) (
  kc (ok_iload_n dX6_pays_60 rfl) (
  kc (ok_iaload dX6_pays_61) (
  kc (ok_iload_n dX6_pays_62 rfl) (
  kc (ok_cm_ne dX6_pays_63 (by decide)) (
  kc (ok_ldc dX6_pays_66 hw_918) (
  kc (ok_retI dX6_pays_68 rfl) (
  kc (ok_aload_n dX6_pays_69 rfl) (
  kc (ok_iload_n dX6_pays_70 rfl) (
  kc (ok_callV (T := TX6) dX6_pays_71 qm_119 rfl rfl rfl hw_818 hw_820 hw_25 qp_119) (
  kc (ok_istore dX6_pays_74) (
  kc (ok_aload_n dX6_pays_76 rfl) (
  kc (ok_callV (T := TX6) dX6_pays_77 qm_143 rfl rfl rfl hw_923 hw_925 hw_38 qp_143) (
  kc (ok_aload_n dX6_pays_80 rfl) (
  kc (ok_iload_n dX6_pays_81 rfl) (
  kc (ok_iload_n dX6_pays_82 rfl) (
  kc (ok_callV (T := TX6) dX6_pays_83 qm_135 rfl rfl rfl hw_886 hw_888 hw_34 qp_135) (
  kc (ok_pop dX6_pays_86) (
  kc (ok_aload_n dX6_pays_87 rfl) (
  kc (ok_iload_n dX6_pays_88 rfl) (
  kc (ok_callV (T := TX6) dX6_pays_89 qm_119 rfl rfl rfl hw_818 hw_820 hw_25 qp_119) (
  kc (ok_iload dX6_pays_92) (
  kc (ok_isub dX6_pays_94) (
  kc (ok_istore dX6_pays_95) (
  kc (ok_aload_n dX6_pays_97 rfl) (
  kc (ok_callV (T := TX6) dX6_pays_98 qm_144 rfl rfl rfl hw_927 hw_929 hw_39 qp_144) (
  kc (ok_bipush dX6_pays_101 (by decide)) (
  kc (ok_aload_n dX6_pays_103 rfl) (
  kc (ok_get (T := TX6) (k := 5) dX6_pays_104 rfl hin_X6 (by decide) hw_658) (
  kc (ok_bipush dX6_pays_107 (by decide)) (
  kc (ok_iload_n dX6_pays_109 rfl) (
  kc (ok_imul dX6_pays_110) (
  kc (ok_iload_n dX6_pays_111 rfl) (
  kc (ok_iadd dX6_pays_112) (
  kc (ok_iaload dX6_pays_113) (
  kc (ok_iload_n dX6_pays_114 rfl) (
  kc (ok_isub dX6_pays_115) (
  kc (ok_imul dX6_pays_116) (
  kc (ok_bipush dX6_pays_117 (by decide)) (
  kc (ok_iload dX6_pays_119) (
  kc (ok_imul dX6_pays_121) (
  kc (ok_aload_n dX6_pays_122 rfl) (
  kc (ok_get (T := TX6) (k := 1) dX6_pays_123 rfl hin_X6 (by decide) hw_654) (
  kc (ok_iload_n dX6_pays_126 rfl) (
  kc (ok_iaload dX6_pays_127) (
  kc (ok_imul dX6_pays_128) (
  kc (ok_iload dX6_pays_129) (
  kc (ok_imul dX6_pays_131) (
  kc (ok_isub dX6_pays_132) (
  kc (ok_iload dX6_pays_133) (
  kc (ok_iload dX6_pays_135) (
  kc (ok_imul dX6_pays_137) (
  kc (ok_aload_n dX6_pays_138 rfl) (
  kc (ok_get (T := TX6) (k := 1) dX6_pays_139 rfl hin_X6 (by decide) hw_654) (
  kc (ok_iload_n dX6_pays_142 rfl) (
  kc (ok_iaload dX6_pays_143) (
  kc (ok_imul dX6_pays_144) (
  kc (ok_isub dX6_pays_145) (
  kc (ok_retI dX6_pays_146 rfl) (
  kn)))))))))))))))))))))))))))))))))))))))))))))))))))))))))))))))))))))))))))))))))))))))
def cd_X6_lay : List (Nat × qOp) := [
  (0, oI (0) 1),
  (1, oStI 3 2),
  (2, oLdI 3 3),
  (3, oLdA 1 4),
  (4, oLen 5),
  (5, oCmGe 25 8),
  (8, oLdA 0 9),
  (9, oGet 6 23 12),
  (12, oLdI 2 13),
  (13, oLdI 3 14),
  (14, oBin (fun x y => x + y) 15),
  (15, oLdA 1 16),
  (16, oLdI 3 17),
  (17, oALd 18),
  (18, oASt 19),
  (19, oInc 3 (1) 22),
  (22, oGoto 2),
  (25, oLdI 2 26),
  (26, oLdA 1 27),
  (27, oLen 28),
  (28, oBin (fun x y => x + y) 29),
  (29, oRetI)]
set_option maxRecDepth 100000 in
theorem ck_X6_lay {ini : Bool} : ∀ x ∈ cd_X6_lay, OpOK qMT cX6_lay RX6 4 (some .int) ini 0 0 none x.1 x.2 :=
  kc (ok_iconst dX6_lay_0 (by decide)) (
  kc (ok_istore_n dX6_lay_1 rfl) (
  kc (ok_iload_n dX6_lay_2 rfl) (
  kc (ok_aload_n dX6_lay_3 rfl) (
  kc (ok_alen dX6_lay_4) (
  kc (ok_cm_ge dX6_lay_5 (by decide)) (
  kc (ok_aload_n dX6_lay_8 rfl) (
  kc (ok_get (T := TX6) (k := 23) dX6_lay_9 rfl hin_X6 (by decide) hw_676) (
  kc (ok_iload_n dX6_lay_12 rfl) (
  kc (ok_iload_n dX6_lay_13 rfl) (
  kc (ok_iadd dX6_lay_14) (
  kc (ok_aload_n dX6_lay_15 rfl) (
  kc (ok_iload_n dX6_lay_16 rfl) (
  kc (ok_iaload dX6_lay_17) (
  kc (ok_iastore dX6_lay_18) (
  kc (ok_iinc dX6_lay_19 (by decide)) (
  kc (ok_goto dX6_lay_22 (by decide)) (
  kc (ok_iload_n dX6_lay_25 rfl) (
  kc (ok_aload_n dX6_lay_26 rfl) (
  kc (ok_alen dX6_lay_27) (
  kc (ok_iadd dX6_lay_28) (
  kc (ok_retI dX6_lay_29 rfl) (
  kn))))))))))))))))))))))
def cd_X6_gives : List (Nat × qOp) := [
  (0, oI (0) 1),
  (1, oStI 3 2),
  (2, oLdI 3 3),
  (3, oLdA 2 4),
  (4, oLen 5),
  (5, oCmGe 22 8),
  (8, oLdA 2 9),
  (9, oLdI 3 10),
  (10, oLdA 0 11),
  (11, oLdI 1 12),
  (12, oLdI 3 13),
  (13, oBin (fun x y => x + y) 14),
  (14, oALd 15),
  (15, oASt 16),
  (16, oInc 3 (1) 19),
  (19, oGoto 2),
  (22, oLdI 1 23),
  (23, oLdA 2 24),
  (24, oLen 25),
  (25, oBin (fun x y => x + y) 26),
  (26, oRetI)]
set_option maxRecDepth 100000 in
theorem ck_X6_gives {ini : Bool} : ∀ x ∈ cd_X6_gives, OpOK qMT cX6_gives RX6 4 (some .int) ini 0 0 none x.1 x.2 :=
  kc (ok_iconst dX6_gives_0 (by decide)) (
  kc (ok_istore_n dX6_gives_1 rfl) (
  kc (ok_iload_n dX6_gives_2 rfl) (
  kc (ok_aload_n dX6_gives_3 rfl) (
  kc (ok_alen dX6_gives_4) (
  kc (ok_cm_ge dX6_gives_5 (by decide)) (
  kc (ok_aload_n dX6_gives_8 rfl) (
  kc (ok_iload_n dX6_gives_9 rfl) (
  kc (ok_aload_n dX6_gives_10 rfl) (
  kc (ok_iload_n dX6_gives_11 rfl) (
  kc (ok_iload_n dX6_gives_12 rfl) (
  kc (ok_iadd dX6_gives_13) (
  kc (ok_iaload dX6_gives_14) (
  kc (ok_iastore dX6_gives_15) (
  kc (ok_iinc dX6_gives_16 (by decide)) (
  kc (ok_goto dX6_gives_19 (by decide)) (
  kc (ok_iload_n dX6_gives_22 rfl) (
  kc (ok_aload_n dX6_gives_23 rfl) (
  kc (ok_alen dX6_gives_24) (
  kc (ok_iadd dX6_gives_25) (
  kc (ok_retI dX6_gives_26 rfl) (
  kn)))))))))))))))))))))
def cd_X6_image : List (Nat × qOp) := [
  (0, oLdA 0 1),
  (1, oLdA 0 2),
  (2, oGet 6 0 5),
  (5, oI (0) 6),
  (6, oCallV 166 6 2 0 0 0 0 9),
  (9, oStI 1 10),
  (10, oLdA 0 11),
  (11, oLdA 0 12),
  (12, oGet 6 1 15),
  (15, oLdI 1 16),
  (16, oCallV 166 6 2 0 0 0 0 19),
  (19, oStI 1 20),
  (20, oLdA 0 21),
  (21, oLdA 0 22),
  (22, oGet 6 2 25),
  (25, oLdI 1 26),
  (26, oCallV 166 6 2 0 0 0 0 29),
  (29, oStI 1 30),
  (30, oLdA 0 31),
  (31, oLdA 0 32),
  (32, oGet 6 4 35),
  (35, oLdI 1 36),
  (36, oCallV 166 6 2 0 0 0 0 39),
  (39, oStI 1 40),
  (40, oLdA 0 41),
  (41, oLdA 0 42),
  (42, oGet 6 5 45),
  (45, oLdI 1 46),
  (46, oCallV 166 6 2 0 0 0 0 49),
  (49, oStI 1 50),
  (50, oLdA 0 51),
  (51, oLdA 0 52),
  (52, oGet 6 7 55),
  (55, oLdI 1 56),
  (56, oCallV 166 6 2 0 0 0 0 59),
  (59, oStI 1 60),
  (60, oLdA 0 61),
  (61, oLdA 0 62),
  (62, oGet 6 8 65),
  (65, oLdI 1 66),
  (66, oCallV 166 6 2 0 0 0 0 69),
  (69, oStI 1 70),
  (70, oLdA 0 71),
  (71, oGet 6 23 74),
  (74, oLdI 1 75),
  (75, oLdA 0 76),
  (76, oGet 6 3 79),
  (79, oASt 80),
  (80, oLdA 0 81),
  (81, oGet 6 23 84),
  (84, oLdI 1 85),
  (85, oI (1) 86),
  (86, oBin (fun x y => x + y) 87),
  (87, oLdA 0 88),
  (88, oGet 6 6 91),
  (91, oASt 92),
  (92, oLdA 0 93),
  (93, oGet 6 23 96),
  (96, oLdI 1 97),
  (97, oI (2) 98),
  (98, oBin (fun x y => x + y) 99),
  (99, oLdA 0 100),
  (100, oGet 6 9 103),
  (103, oASt 104),
  (104, oLdA 0 105),
  (105, oGet 6 23 108),
  (108, oLdI 1 109),
  (109, oI (3) 110),
  (110, oBin (fun x y => x + y) 111),
  (111, oLdA 0 112),
  (112, oGet 6 10 115),
  (115, oASt 116),
  (116, oLdA 0 117),
  (117, oI (1) 118),
  (118, oPutZ 6 24 121),
  (121, oI (1) 122),
  (122, oRetI)]
set_option maxRecDepth 100000 in
theorem ck_X6_image {ini : Bool} : ∀ x ∈ cd_X6_image, OpOK qMT cX6_image RX6 2 (some .int) ini 0 0 none x.1 x.2 :=
  kc (ok_aload_n dX6_image_0 rfl) (
  kc (ok_aload_n dX6_image_1 rfl) (
  kc (ok_get (T := TX6) (k := 0) dX6_image_2 rfl hin_X6 (by decide) hw_653) (
  kc (ok_iconst dX6_image_5 (by decide)) (
  kc (ok_callV (T := TX6) dX6_image_6 qm_166 rfl rfl rfl hw_1018 hw_1020 hw_49 qp_166) (
  kc (ok_istore_n dX6_image_9 rfl) (
  kc (ok_aload_n dX6_image_10 rfl) (
  kc (ok_aload_n dX6_image_11 rfl) (
  kc (ok_get (T := TX6) (k := 1) dX6_image_12 rfl hin_X6 (by decide) hw_654) (
  kc (ok_iload_n dX6_image_15 rfl) (
  kc (ok_callV (T := TX6) dX6_image_16 qm_166 rfl rfl rfl hw_1018 hw_1020 hw_49 qp_166) (
  kc (ok_istore_n dX6_image_19 rfl) (
  kc (ok_aload_n dX6_image_20 rfl) (
  kc (ok_aload_n dX6_image_21 rfl) (
  kc (ok_get (T := TX6) (k := 2) dX6_image_22 rfl hin_X6 (by decide) hw_655) (
  kc (ok_iload_n dX6_image_25 rfl) (
  kc (ok_callV (T := TX6) dX6_image_26 qm_166 rfl rfl rfl hw_1018 hw_1020 hw_49 qp_166) (
  kc (ok_istore_n dX6_image_29 rfl) (
  kc (ok_aload_n dX6_image_30 rfl) (
  kc (ok_aload_n dX6_image_31 rfl) (
  kc (ok_get (T := TX6) (k := 4) dX6_image_32 rfl hin_X6 (by decide) hw_657) (
  kc (ok_iload_n dX6_image_35 rfl) (
  kc (ok_callV (T := TX6) dX6_image_36 qm_166 rfl rfl rfl hw_1018 hw_1020 hw_49 qp_166) (
  kc (ok_istore_n dX6_image_39 rfl) (
  kc (ok_aload_n dX6_image_40 rfl) (
  kc (ok_aload_n dX6_image_41 rfl) (
  kc (ok_get (T := TX6) (k := 5) dX6_image_42 rfl hin_X6 (by decide) hw_658) (
  kc (ok_iload_n dX6_image_45 rfl) (
  kc (ok_callV (T := TX6) dX6_image_46 qm_166 rfl rfl rfl hw_1018 hw_1020 hw_49 qp_166) (
  kc (ok_istore_n dX6_image_49 rfl) (
  kc (ok_aload_n dX6_image_50 rfl) (
  kc (ok_aload_n dX6_image_51 rfl) (
  kc (ok_get (T := TX6) (k := 7) dX6_image_52 rfl hin_X6 (by decide) hw_660) (
  kc (ok_iload_n dX6_image_55 rfl) (
  kc (ok_callV (T := TX6) dX6_image_56 qm_166 rfl rfl rfl hw_1018 hw_1020 hw_49 qp_166) (
  kc (ok_istore_n dX6_image_59 rfl) (
  kc (ok_aload_n dX6_image_60 rfl) (
  kc (ok_aload_n dX6_image_61 rfl) (
  kc (ok_get (T := TX6) (k := 8) dX6_image_62 rfl hin_X6 (by decide) hw_661) (
  kc (ok_iload_n dX6_image_65 rfl) (
  kc (ok_callV (T := TX6) dX6_image_66 qm_166 rfl rfl rfl hw_1018 hw_1020 hw_49 qp_166) (
  kc (ok_istore_n dX6_image_69 rfl) (
  kc (ok_aload_n dX6_image_70 rfl) (
  kc (ok_get (T := TX6) (k := 23) dX6_image_71 rfl hin_X6 (by decide) hw_676) (
  kc (ok_iload_n dX6_image_74 rfl) (
  kc (ok_aload_n dX6_image_75 rfl) (
  kc (ok_get (T := TX6) (k := 3) dX6_image_76 rfl hin_X6 (by decide) hw_656) (
  kc (ok_iastore dX6_image_79) (
  kc (ok_aload_n dX6_image_80 rfl) (
  kc (ok_get (T := TX6) (k := 23) dX6_image_81 rfl hin_X6 (by decide) hw_676) (
  kc (ok_iload_n dX6_image_84 rfl) (
  kc (ok_iconst dX6_image_85 (by decide)) (
  kc (ok_iadd dX6_image_86) (
  kc (ok_aload_n dX6_image_87 rfl) (
  kc (ok_get (T := TX6) (k := 6) dX6_image_88 rfl hin_X6 (by decide) hw_659) (
  kc (ok_iastore dX6_image_91) (
  kc (ok_aload_n dX6_image_92 rfl) (
  kc (ok_get (T := TX6) (k := 23) dX6_image_93 rfl hin_X6 (by decide) hw_676) (
  kc (ok_iload_n dX6_image_96 rfl) (
  kc (ok_iconst dX6_image_97 (by decide)) (
  kc (ok_iadd dX6_image_98) (
  kc (ok_aload_n dX6_image_99 rfl) (
  kc (ok_get (T := TX6) (k := 9) dX6_image_100 rfl hin_X6 (by decide) hw_662) (
  kc (ok_iastore dX6_image_103) (
  kc (ok_aload_n dX6_image_104 rfl) (
  kc (ok_get (T := TX6) (k := 23) dX6_image_105 rfl hin_X6 (by decide) hw_676) (
  kc (ok_iload_n dX6_image_108 rfl) (
  kc (ok_iconst dX6_image_109 (by decide)) (
  kc (ok_iadd dX6_image_110) (
  kc (ok_aload_n dX6_image_111 rfl) (
  kc (ok_get (T := TX6) (k := 10) dX6_image_112 rfl hin_X6 (by decide) hw_663) (
  kc (ok_iastore dX6_image_115) (
  kc (ok_aload_n dX6_image_116 rfl) (
  kc (ok_iconst dX6_image_117 (by decide)) (
  kc (ok_putZ (T := TX6) (k := 24) dX6_image_118 rfl hin_X6 tyX6_ok nmX6 (by decide) hw_677 rfl (tyX6_ok 24 (by decide))) (
  kc (ok_iconst dX6_image_121 (by decide)) (
  kc (ok_retI dX6_image_122 rfl) (
  kn)))))))))))))))))))))))))))))))))))))))))))))))))))))))))))))))))))))))))))))
def cd_X6_restore : List (Nat × qOp) := [
  (0, oLdA 0 1),
  (1, oGet 6 24 4),
  (4, oIfNe 10 7),
  (7, oI (-4) 9),
  (9, oRetI),
  (10, oLdA 0 11),
  (11, oGet 6 23 14),
  (14, oI (0) 15),
  (15, oLdA 0 16),
  (16, oGet 6 0 19),
  (19, oCallS 167 3 0 0 0 0 22),
  (22, oStI 1 23),
  (23, oLdA 0 24),
  (24, oGet 6 23 27),
  (27, oLdI 1 28),
  (28, oLdA 0 29),
  (29, oGet 6 1 32),
  (32, oCallS 167 3 0 0 0 0 35),
  (35, oStI 1 36),
  (36, oLdA 0 37),
  (37, oGet 6 23 40),
  (40, oLdI 1 41),
  (41, oLdA 0 42),
  (42, oGet 6 2 45),
  (45, oCallS 167 3 0 0 0 0 48),
  (48, oStI 1 49),
  (49, oLdA 0 50),
  (50, oGet 6 23 53),
  (53, oLdI 1 54),
  (54, oLdA 0 55),
  (55, oGet 6 4 58),
  (58, oCallS 167 3 0 0 0 0 61),
  (61, oStI 1 62),
  (62, oLdA 0 63),
  (63, oGet 6 23 66),
  (66, oLdI 1 67),
  (67, oLdA 0 68),
  (68, oGet 6 5 71),
  (71, oCallS 167 3 0 0 0 0 74),
  (74, oStI 1 75),
  (75, oLdA 0 76),
  (76, oGet 6 23 79),
  (79, oLdI 1 80),
  (80, oLdA 0 81),
  (81, oGet 6 7 84),
  (84, oCallS 167 3 0 0 0 0 87),
  (87, oStI 1 88),
  (88, oLdA 0 89),
  (89, oGet 6 23 92),
  (92, oLdI 1 93),
  (93, oLdA 0 94),
  (94, oGet 6 8 97),
  (97, oCallS 167 3 0 0 0 0 100),
  (100, oStI 1 101),
  (101, oLdA 0 102),
  (102, oLdA 0 103),
  (103, oGet 6 23 106),
  (106, oLdI 1 107),
  (107, oALd 108),
  (108, oPutI 6 3 111),
  (111, oLdA 0 112),
  (112, oLdA 0 113),
  (113, oGet 6 23 116),
  (116, oLdI 1 117),
  (117, oI (1) 118),
  (118, oBin (fun x y => x + y) 119),
  (119, oALd 120),
  (120, oPutI 6 6 123),
  (123, oLdA 0 124),
  (124, oLdA 0 125),
  (125, oGet 6 23 128),
  (128, oLdI 1 129),
  (129, oI (2) 130),
  (130, oBin (fun x y => x + y) 131),
  (131, oALd 132),
  (132, oPutI 6 9 135),
  (135, oLdA 0 136),
  (136, oLdA 0 137),
  (137, oGet 6 23 140),
  (140, oLdI 1 141),
  (141, oI (3) 142),
  (142, oBin (fun x y => x + y) 143),
  (143, oALd 144),
  (144, oPutI 6 10 147),
  (147, oI (1) 148),
  (148, oRetI)]
set_option maxRecDepth 100000 in
theorem ck_X6_restore {ini : Bool} : ∀ x ∈ cd_X6_restore, OpOK qMT cX6_restore RX6 2 (some .int) ini 0 0 none x.1 x.2 :=
  kc (ok_aload_n dX6_restore_0 rfl) (
  kc (ok_get (T := TX6) (k := 24) dX6_restore_1 rfl hin_X6 (by decide) hw_677) (
  kc (ok_if_ne dX6_restore_4 (by decide)) (
  kc (ok_bipush dX6_restore_7 (by decide)) (
  kc (ok_retI dX6_restore_9 rfl) (
  kc (ok_aload_n dX6_restore_10 rfl) (
  kc (ok_get (T := TX6) (k := 23) dX6_restore_11 rfl hin_X6 (by decide) hw_676) (
  kc (ok_iconst dX6_restore_14 (by decide)) (
  kc (ok_aload_n dX6_restore_15 rfl) (
  kc (ok_get (T := TX6) (k := 0) dX6_restore_16 rfl hin_X6 (by decide) hw_653) (
  kc (ok_callS dX6_restore_19 qm_167 rfl rfl hw_1026 hw_1027 qp_167) (
  kc (ok_istore_n dX6_restore_22 rfl) (
  kc (ok_aload_n dX6_restore_23 rfl) (
  kc (ok_get (T := TX6) (k := 23) dX6_restore_24 rfl hin_X6 (by decide) hw_676) (
  kc (ok_iload_n dX6_restore_27 rfl) (
  kc (ok_aload_n dX6_restore_28 rfl) (
  kc (ok_get (T := TX6) (k := 1) dX6_restore_29 rfl hin_X6 (by decide) hw_654) (
  kc (ok_callS dX6_restore_32 qm_167 rfl rfl hw_1026 hw_1027 qp_167) (
  kc (ok_istore_n dX6_restore_35 rfl) (
  kc (ok_aload_n dX6_restore_36 rfl) (
  kc (ok_get (T := TX6) (k := 23) dX6_restore_37 rfl hin_X6 (by decide) hw_676) (
  kc (ok_iload_n dX6_restore_40 rfl) (
  kc (ok_aload_n dX6_restore_41 rfl) (
  kc (ok_get (T := TX6) (k := 2) dX6_restore_42 rfl hin_X6 (by decide) hw_655) (
  kc (ok_callS dX6_restore_45 qm_167 rfl rfl hw_1026 hw_1027 qp_167) (
  kc (ok_istore_n dX6_restore_48 rfl) (
  kc (ok_aload_n dX6_restore_49 rfl) (
  kc (ok_get (T := TX6) (k := 23) dX6_restore_50 rfl hin_X6 (by decide) hw_676) (
  kc (ok_iload_n dX6_restore_53 rfl) (
  kc (ok_aload_n dX6_restore_54 rfl) (
  kc (ok_get (T := TX6) (k := 4) dX6_restore_55 rfl hin_X6 (by decide) hw_657) (
  kc (ok_callS dX6_restore_58 qm_167 rfl rfl hw_1026 hw_1027 qp_167) (
  kc (ok_istore_n dX6_restore_61 rfl) (
  kc (ok_aload_n dX6_restore_62 rfl) (
  kc (ok_get (T := TX6) (k := 23) dX6_restore_63 rfl hin_X6 (by decide) hw_676) (
  kc (ok_iload_n dX6_restore_66 rfl) (
  kc (ok_aload_n dX6_restore_67 rfl) (
  kc (ok_get (T := TX6) (k := 5) dX6_restore_68 rfl hin_X6 (by decide) hw_658) (
  kc (ok_callS dX6_restore_71 qm_167 rfl rfl hw_1026 hw_1027 qp_167) (
  kc (ok_istore_n dX6_restore_74 rfl) (
  kc (ok_aload_n dX6_restore_75 rfl) (
  kc (ok_get (T := TX6) (k := 23) dX6_restore_76 rfl hin_X6 (by decide) hw_676) (
  kc (ok_iload_n dX6_restore_79 rfl) (
  kc (ok_aload_n dX6_restore_80 rfl) (
  kc (ok_get (T := TX6) (k := 7) dX6_restore_81 rfl hin_X6 (by decide) hw_660) (
  kc (ok_callS dX6_restore_84 qm_167 rfl rfl hw_1026 hw_1027 qp_167) (
  kc (ok_istore_n dX6_restore_87 rfl) (
  kc (ok_aload_n dX6_restore_88 rfl) (
  kc (ok_get (T := TX6) (k := 23) dX6_restore_89 rfl hin_X6 (by decide) hw_676) (
  kc (ok_iload_n dX6_restore_92 rfl) (
  kc (ok_aload_n dX6_restore_93 rfl) (
  kc (ok_get (T := TX6) (k := 8) dX6_restore_94 rfl hin_X6 (by decide) hw_661) (
  kc (ok_callS dX6_restore_97 qm_167 rfl rfl hw_1026 hw_1027 qp_167) (
  kc (ok_istore_n dX6_restore_100 rfl) (
  kc (ok_aload_n dX6_restore_101 rfl) (
  kc (ok_aload_n dX6_restore_102 rfl) (
  kc (ok_get (T := TX6) (k := 23) dX6_restore_103 rfl hin_X6 (by decide) hw_676) (
  kc (ok_iload_n dX6_restore_106 rfl) (
  kc (ok_iaload dX6_restore_107) (
  kc (ok_putI (T := TX6) (k := 3) dX6_restore_108 rfl hin_X6 tyX6_ok nmX6 (by decide) hw_656 rfl (tyX6_ok 3 (by decide))) (
  kc (ok_aload_n dX6_restore_111 rfl) (
  kc (ok_aload_n dX6_restore_112 rfl) (
  kc (ok_get (T := TX6) (k := 23) dX6_restore_113 rfl hin_X6 (by decide) hw_676) (
  kc (ok_iload_n dX6_restore_116 rfl) (
  kc (ok_iconst dX6_restore_117 (by decide)) (
  kc (ok_iadd dX6_restore_118) (
  kc (ok_iaload dX6_restore_119) (
  kc (ok_putI (T := TX6) (k := 6) dX6_restore_120 rfl hin_X6 tyX6_ok nmX6 (by decide) hw_659 rfl (tyX6_ok 6 (by decide))) (
  kc (ok_aload_n dX6_restore_123 rfl) (
  kc (ok_aload_n dX6_restore_124 rfl) (
  kc (ok_get (T := TX6) (k := 23) dX6_restore_125 rfl hin_X6 (by decide) hw_676) (
  kc (ok_iload_n dX6_restore_128 rfl) (
  kc (ok_iconst dX6_restore_129 (by decide)) (
  kc (ok_iadd dX6_restore_130) (
  kc (ok_iaload dX6_restore_131) (
  kc (ok_putI (T := TX6) (k := 9) dX6_restore_132 rfl hin_X6 tyX6_ok nmX6 (by decide) hw_662 rfl (tyX6_ok 9 (by decide))) (
  kc (ok_aload_n dX6_restore_135 rfl) (
  kc (ok_aload_n dX6_restore_136 rfl) (
  kc (ok_get (T := TX6) (k := 23) dX6_restore_137 rfl hin_X6 (by decide) hw_676) (
  kc (ok_iload_n dX6_restore_140 rfl) (
  kc (ok_iconst dX6_restore_141 (by decide)) (
  kc (ok_iadd dX6_restore_142) (
  kc (ok_iaload dX6_restore_143) (
  kc (ok_putI (T := TX6) (k := 10) dX6_restore_144 rfl hin_X6 tyX6_ok nmX6 (by decide) hw_663 rfl (tyX6_ok 10 (by decide))) (
  kc (ok_iconst dX6_restore_147 (by decide)) (
  kc (ok_retI dX6_restore_148 rfl) (
  kn))))))))))))))))))))))))))))))))))))))))))))))))))))))))))))))))))))))))))))))))))))))
def cd_X6_isSheet : List (Nat × qOp) := [
  (0, oLdI 0 1),
  (1, oI2L 2),
  (2, oL (0) 3),
  (3, oL (3) 6),
  (6, oCallS 102 3 0 0 0 0 9),
  (9, oRetZ)]
set_option maxRecDepth 100000 in
theorem ck_X6_isSheet {ini : Bool} : ∀ x ∈ cd_X6_isSheet, OpOK qMT cX6_isSheet RX6 1 (some .boolean) ini 0 0 none x.1 x.2 :=
  kc (ok_iload_n dX6_isSheet_0 rfl) (
  kc (ok_i2l dX6_isSheet_1) (
  kc (ok_lconst dX6_isSheet_2 (by decide)) (
  kc (ok_ldc2 dX6_isSheet_3 hw_1036) (
  kc (ok_callS dX6_isSheet_6 qm_102 rfl rfl hw_749 hw_750 qp_102) (
  kc (ok_retZ dX6_isSheet_9 rfl) (
  kn))))))
def cd_X6_isLane : List (Nat × qOp) := [
  (0, oLdI 0 1),
  (1, oI2L 2),
  (2, oL (0) 3),
  (3, oL (2) 6),
  (6, oCallS 102 3 0 0 0 0 9),
  (9, oRetZ)]
set_option maxRecDepth 100000 in
theorem ck_X6_isLane {ini : Bool} : ∀ x ∈ cd_X6_isLane, OpOK qMT cX6_isLane RX6 1 (some .boolean) ini 0 0 none x.1 x.2 :=
  kc (ok_iload_n dX6_isLane_0 rfl) (
  kc (ok_i2l dX6_isLane_1) (
  kc (ok_lconst dX6_isLane_2 (by decide)) (
  kc (ok_ldc2 dX6_isLane_3 hw_970) (
  kc (ok_callS dX6_isLane_6 qm_102 rfl rfl hw_749 hw_750 qp_102) (
  kc (ok_retZ dX6_isLane_9 rfl) (
  kn))))))
def cd_X6_finds : List (Nat × qOp) := [
  (0, oLdA 0 1),
  (1, oGet 6 25 4),
  (4, oLdI 1 5),
  (5, oALd 6),
  (6, oIfGe 12 9),
  (9, oI (-11) 11),
  (11, oRetI),
  (12, oLdA 0 13),
  (13, oGet 6 25 16),
  (16, oLdI 1 17),
  (17, oALd 18),
  (18, oLdI 2 19),
  (19, oCmEq 25 22),
  (22, oI (-12) 24),
  (24, oRetI),
  (25, oLdI 3 26),
  (26, oIfLt 46 29),
  (29, oLdI 3 30),
  (30, oI2L 31),
  (31, oLdI 4 33),
  (33, oI2L 34),
  (34, oLBin (fun x y => x + y) 35),
  (35, oLdA 0 36),
  (36, oGet 6 26 39),
  (39, oLdI 1 40),
  (40, oALd 41),
  (41, oI2L 42),
  (42, oLcmp 43),
  (43, oIfLe 51 46),
  (46, oI (-13) 48),
  (48, oGoto 52),
  (51, oI (0) 52),
  (52, oRetI)]
set_option maxRecDepth 100000 in
theorem ck_X6_finds {ini : Bool} : ∀ x ∈ cd_X6_finds, OpOK qMT cX6_finds RX6 5 (some .int) ini 0 0 none x.1 x.2 :=
  kc (ok_aload_n dX6_finds_0 rfl) (
  kc (ok_get (T := TX6) (k := 25) dX6_finds_1 rfl hin_X6 (by decide) hw_678) (
  kc (ok_iload_n dX6_finds_4 rfl) (
  kc (ok_iaload dX6_finds_5) (
  kc (ok_if_ge dX6_finds_6 (by decide)) (
  kc (ok_bipush dX6_finds_9 (by decide)) (
  kc (ok_retI dX6_finds_11 rfl) (
  kc (ok_aload_n dX6_finds_12 rfl) (
  kc (ok_get (T := TX6) (k := 25) dX6_finds_13 rfl hin_X6 (by decide) hw_678) (
  kc (ok_iload_n dX6_finds_16 rfl) (
  kc (ok_iaload dX6_finds_17) (
  kc (ok_iload_n dX6_finds_18 rfl) (
  kc (ok_cm_eq dX6_finds_19 (by decide)) (
  kc (ok_bipush dX6_finds_22 (by decide)) (
  kc (ok_retI dX6_finds_24 rfl) (
  kc (ok_iload_n dX6_finds_25 rfl) (
  kc (ok_if_lt dX6_finds_26 (by decide)) (
  kc (ok_iload_n dX6_finds_29 rfl) (
  kc (ok_i2l dX6_finds_30) (
  kc (ok_iload dX6_finds_31) (
  kc (ok_i2l dX6_finds_33) (
  kc (ok_ladd dX6_finds_34) (
  kc (ok_aload_n dX6_finds_35 rfl) (
  kc (ok_get (T := TX6) (k := 26) dX6_finds_36 rfl hin_X6 (by decide) hw_679) (
  kc (ok_iload_n dX6_finds_39 rfl) (
  kc (ok_iaload dX6_finds_40) (
  kc (ok_i2l dX6_finds_41) (
  kc (ok_lcmp dX6_finds_42) (
  kc (ok_if_le dX6_finds_43 (by decide)) (
  kc (ok_bipush dX6_finds_46 (by decide)) (
  kc (ok_goto dX6_finds_48 (by decide)) (
  kc (ok_iconst dX6_finds_51 (by decide)) (
  kc (ok_retI dX6_finds_52 rfl) (
  kn)))))))))))))))))))))))))))))))))
def cd_X6_deal : List (Nat × qOp) := [
  (0, oLdI 1 1),
  (1, oCallS 170 1 0 0 0 0 4),
  (4, oIfEq 27 7),
  (7, oLdI 2 8),
  (8, oCallS 171 1 0 0 0 0 11),
  (11, oIfEq 27 14),
  (14, oLdI 4 16),
  (16, oI2L 17),
  (17, oL (1) 18),
  (18, oL (8) 21),
  (21, oCallS 102 3 0 0 0 0 24),
  (24, oIfNe 29 27),
  (27, oI (-1) 28),
  (28, oRetI),
  (29, oLdA 0 30),
  (30, oLdI 1 31),
  (31, oLdI 2 32),
  (32, oLdI 3 33),
  (33, oI (3) 34),
  (34, oLdI 4 36),
  (36, oBin (fun x y => x * y) 37),
  (37, oCallV 172 6 4 0 0 0 0 40),
  (40, oStI 5 42),
  (42, oLdI 5 44),
  (44, oIfGe 50 47),
  (47, oLdI 5 49),
  (49, oRetI),
  (50, oI (24) 52),
  (52, oLdI 1 53),
  (53, oBin (fun x y => x * y) 54),
  (54, oLdI 3 55),
  (55, oBin (fun x y => x + y) 56),
  (56, oStI 6 58),
  (58, oI (0) 59),
  (59, oStI 7 61),
  (61, oLdI 7 63),
  (63, oLdI 4 65),
  (65, oCmGe 121 68),
  (68, oLdA 0 69),
  (69, oLdA 0 70),
  (70, oGet 6 27 73),
  (73, oLdI 6 75),
  (75, oI (3) 76),
  (76, oLdI 7 78),
  (78, oBin (fun x y => x * y) 79),
  (79, oBin (fun x y => x + y) 80),
  (80, oALd 81),
  (81, oLdA 0 82),
  (82, oGet 6 27 85),
  (85, oLdI 6 87),
  (87, oI (3) 88),
  (88, oLdI 7 90),
  (90, oBin (fun x y => x * y) 91),
  (91, oBin (fun x y => x + y) 92),
  (92, oI (1) 93),
  (93, oBin (fun x y => x + y) 94),
  (94, oALd 95),
  (95, oLdA 0 96),
  (96, oGet 6 27 99),
  (99, oLdI 6 101),
  (101, oI (3) 102),
  (102, oLdI 7 104),
  (104, oBin (fun x y => x * y) 105),
  (105, oBin (fun x y => x + y) 106),
  (106, oI (2) 107),
  (107, oBin (fun x y => x + y) 108),
  (108, oALd 109),
  (109, oCallV 137 6 3 0 0 0 0 112),
  (112, oIfLt 121 115),
  (115, oInc 7 (1) 118),
  (118, oGoto 61),
  (121, oLdI 7 123),
  (123, oRetI)]
set_option maxRecDepth 100000 in
theorem ck_X6_deal {ini : Bool} : ∀ x ∈ cd_X6_deal, OpOK qMT cX6_deal RX6 8 (some .int) ini 0 0 none x.1 x.2 :=
  kc (ok_iload_n dX6_deal_0 rfl) (
  kc (ok_callS dX6_deal_1 qm_170 rfl rfl hw_1033 hw_1034 qp_170) (
  kc (ok_if_eq dX6_deal_4 (by decide)) (
  kc (ok_iload_n dX6_deal_7 rfl) (
  kc (ok_callS dX6_deal_8 qm_171 rfl rfl hw_1037 hw_1038 qp_171) (
  kc (ok_if_eq dX6_deal_11 (by decide)) (
  kc (ok_iload dX6_deal_14) (
  kc (ok_i2l dX6_deal_16) (
  kc (ok_lconst dX6_deal_17 (by decide)) (
  kc (ok_ldc2 dX6_deal_18 hw_838) (
  kc (ok_callS dX6_deal_21 qm_102 rfl rfl hw_749 hw_750 qp_102) (
  kc (ok_if_ne dX6_deal_24 (by decide)) (
  kc (ok_iconst dX6_deal_27 (by decide)) (
  kc (ok_retI dX6_deal_28 rfl) (
  kc (ok_aload_n dX6_deal_29 rfl) (
  kc (ok_iload_n dX6_deal_30 rfl) (
  kc (ok_iload_n dX6_deal_31 rfl) (
  kc (ok_iload_n dX6_deal_32 rfl) (
  kc (ok_iconst dX6_deal_33 (by decide)) (
  kc (ok_iload dX6_deal_34) (
  kc (ok_imul dX6_deal_36) (
  kc (ok_callV (T := TX6) dX6_deal_37 qm_172 rfl rfl rfl hw_1040 hw_1042 hw_50 qp_172) (
  kc (ok_istore dX6_deal_40) (
  kc (ok_iload dX6_deal_42) (
  kc (ok_if_ge dX6_deal_44 (by decide)) (
  kc (ok_iload dX6_deal_47) (
  kc (ok_retI dX6_deal_49 rfl) (
  kc (ok_bipush dX6_deal_50 (by decide)) (
  kc (ok_iload_n dX6_deal_52 rfl) (
  kc (ok_imul dX6_deal_53) (
  kc (ok_iload_n dX6_deal_54 rfl) (
  kc (ok_iadd dX6_deal_55) (
  kc (ok_istore dX6_deal_56) (
  kc (ok_iconst dX6_deal_58 (by decide)) (
  kc (ok_istore dX6_deal_59) (
  kc (ok_iload dX6_deal_61) (
  kc (ok_iload dX6_deal_63) (
  kc (ok_cm_ge dX6_deal_65 (by decide)) (
  kc (ok_aload_n dX6_deal_68 rfl) (
  kc (ok_aload_n dX6_deal_69 rfl) (
  kc (ok_get (T := TX6) (k := 27) dX6_deal_70 rfl hin_X6 (by decide) hw_680) (
  kc (ok_iload dX6_deal_73) (
  kc (ok_iconst dX6_deal_75 (by decide)) (
  kc (ok_iload dX6_deal_76) (
  kc (ok_imul dX6_deal_78) (
  kc (ok_iadd dX6_deal_79) (
  kc (ok_iaload dX6_deal_80) (
  kc (ok_aload_n dX6_deal_81 rfl) (
  kc (ok_get (T := TX6) (k := 27) dX6_deal_82 rfl hin_X6 (by decide) hw_680) (
  kc (ok_iload dX6_deal_85) (
  kc (ok_iconst dX6_deal_87 (by decide)) (
  kc (ok_iload dX6_deal_88) (
  kc (ok_imul dX6_deal_90) (
  kc (ok_iadd dX6_deal_91) (
  kc (ok_iconst dX6_deal_92 (by decide)) (
  kc (ok_iadd dX6_deal_93) (
  kc (ok_iaload dX6_deal_94) (
  kc (ok_aload_n dX6_deal_95 rfl) (
  kc (ok_get (T := TX6) (k := 27) dX6_deal_96 rfl hin_X6 (by decide) hw_680) (
  kc (ok_iload dX6_deal_99) (
  kc (ok_iconst dX6_deal_101 (by decide)) (
  kc (ok_iload dX6_deal_102) (
  kc (ok_imul dX6_deal_104) (
  kc (ok_iadd dX6_deal_105) (
  kc (ok_iconst dX6_deal_106 (by decide)) (
  kc (ok_iadd dX6_deal_107) (
  kc (ok_iaload dX6_deal_108) (
  kc (ok_callV (T := TX6) dX6_deal_109 qm_137 rfl rfl rfl hw_948 hw_879 hw_880 qp_137) (
  kc (ok_if_lt dX6_deal_112 (by decide)) (
  kc (ok_iinc dX6_deal_115 (by decide)) (
  kc (ok_goto dX6_deal_118 (by decide)) (
  kc (ok_iload dX6_deal_121) (
  kc (ok_retI dX6_deal_123 rfl) (
  kn)))))))))))))))))))))))))))))))))))))))))))))))))))))))))))))))))))))))))
def cd_X6_sheet : List (Nat × qOp) := [
  (0, oLdI 1 1),
  (1, oCallS 170 1 0 0 0 0 4),
  (4, oIfEq 20 7),
  (7, oLdI 2 8),
  (8, oCallS 171 1 0 0 0 0 11),
  (11, oIfEq 20 14),
  (14, oLdI 3 15),
  (15, oI (24) 17),
  (17, oCmLe 22 20),
  (20, oI (-1) 21),
  (21, oRetI),
  (22, oLdI 3 23),
  (23, oIfGe 29 26),
  (26, oI (-14) 28),
  (28, oRetI),
  (29, oLdA 0 30),
  (30, oGet 6 25 33),
  (33, oLdI 1 34),
  (34, oLdI 2 35),
  (35, oASt 36),
  (36, oLdA 0 37),
  (37, oGet 6 26 40),
  (40, oLdI 1 41),
  (41, oLdI 3 42),
  (42, oASt 43),
  (43, oI (0) 44),
  (44, oStI 4 46),
  (46, oLdI 4 48),
  (48, oI (24) 50),
  (50, oCmGe 72 53),
  (53, oLdA 0 54),
  (54, oGet 6 27 57),
  (57, oI (24) 59),
  (59, oLdI 1 60),
  (60, oBin (fun x y => x * y) 61),
  (61, oLdI 4 63),
  (63, oBin (fun x y => x + y) 64),
  (64, oI (0) 65),
  (65, oASt 66),
  (66, oInc 4 (1) 69),
  (69, oGoto 46),
  (72, oLdI 3 73),
  (73, oRetI)]
set_option maxRecDepth 100000 in
theorem ck_X6_sheet {ini : Bool} : ∀ x ∈ cd_X6_sheet, OpOK qMT cX6_sheet RX6 5 (some .int) ini 0 0 none x.1 x.2 :=
  kc (ok_iload_n dX6_sheet_0 rfl) (
  kc (ok_callS dX6_sheet_1 qm_170 rfl rfl hw_1033 hw_1034 qp_170) (
  kc (ok_if_eq dX6_sheet_4 (by decide)) (
  kc (ok_iload_n dX6_sheet_7 rfl) (
  kc (ok_callS dX6_sheet_8 qm_171 rfl rfl hw_1037 hw_1038 qp_171) (
  kc (ok_if_eq dX6_sheet_11 (by decide)) (
  kc (ok_iload_n dX6_sheet_14 rfl) (
  kc (ok_bipush dX6_sheet_15 (by decide)) (
  kc (ok_cm_le dX6_sheet_17 (by decide)) (
  kc (ok_iconst dX6_sheet_20 (by decide)) (
  kc (ok_retI dX6_sheet_21 rfl) (
  kc (ok_iload_n dX6_sheet_22 rfl) (
  kc (ok_if_ge dX6_sheet_23 (by decide)) (
  kc (ok_bipush dX6_sheet_26 (by decide)) (
  kc (ok_retI dX6_sheet_28 rfl) (
  kc (ok_aload_n dX6_sheet_29 rfl) (
  kc (ok_get (T := TX6) (k := 25) dX6_sheet_30 rfl hin_X6 (by decide) hw_678) (
  kc (ok_iload_n dX6_sheet_33 rfl) (
  kc (ok_iload_n dX6_sheet_34 rfl) (
  kc (ok_iastore dX6_sheet_35) (
  kc (ok_aload_n dX6_sheet_36 rfl) (
  kc (ok_get (T := TX6) (k := 26) dX6_sheet_37 rfl hin_X6 (by decide) hw_679) (
  kc (ok_iload_n dX6_sheet_40 rfl) (
  kc (ok_iload_n dX6_sheet_41 rfl) (
  kc (ok_iastore dX6_sheet_42) (
  kc (ok_iconst dX6_sheet_43 (by decide)) (
  kc (ok_istore dX6_sheet_44) (
  kc (ok_iload dX6_sheet_46) (
  kc (ok_bipush dX6_sheet_48 (by decide)) (
  kc (ok_cm_ge dX6_sheet_50 (by decide)) (
  kc (ok_aload_n dX6_sheet_53 rfl) (
  kc (ok_get (T := TX6) (k := 27) dX6_sheet_54 rfl hin_X6 (by decide) hw_680) (
  kc (ok_bipush dX6_sheet_57 (by decide)) (
  kc (ok_iload_n dX6_sheet_59 rfl) (
  kc (ok_imul dX6_sheet_60) (
  kc (ok_iload dX6_sheet_61) (
  kc (ok_iadd dX6_sheet_63) (
  kc (ok_iconst dX6_sheet_64 (by decide)) (
  kc (ok_iastore dX6_sheet_65) (
  kc (ok_iinc dX6_sheet_66 (by decide)) (
  kc (ok_goto dX6_sheet_69 (by decide)) (
  kc (ok_iload_n dX6_sheet_72 rfl) (
  kc (ok_retI dX6_sheet_73 rfl) (
  kn)))))))))))))))))))))))))))))))))))))))))))
def cd_X6_drop : List (Nat × qOp) := [
  (0, oLdI 1 1),
  (1, oCallS 170 1 0 0 0 0 4),
  (4, oIfNe 9 7),
  (7, oI (-1) 8),
  (8, oRetI),
  (9, oLdA 0 10),
  (10, oGet 6 25 13),
  (13, oLdI 1 14),
  (14, oALd 15),
  (15, oIfGe 21 18),
  (18, oI (-11) 20),
  (20, oRetI),
  (21, oLdA 0 22),
  (22, oGet 6 25 25),
  (25, oLdI 1 26),
  (26, oI (-1) 27),
  (27, oASt 28),
  (28, oLdA 0 29),
  (29, oGet 6 26 32),
  (32, oLdI 1 33),
  (33, oALd 34),
  (34, oRetI)]
set_option maxRecDepth 100000 in
theorem ck_X6_drop {ini : Bool} : ∀ x ∈ cd_X6_drop, OpOK qMT cX6_drop RX6 2 (some .int) ini 0 0 none x.1 x.2 :=
  kc (ok_iload_n dX6_drop_0 rfl) (
  kc (ok_callS dX6_drop_1 qm_170 rfl rfl hw_1033 hw_1034 qp_170) (
  kc (ok_if_ne dX6_drop_4 (by decide)) (
  kc (ok_iconst dX6_drop_7 (by decide)) (
  kc (ok_retI dX6_drop_8 rfl) (
  kc (ok_aload_n dX6_drop_9 rfl) (
  kc (ok_get (T := TX6) (k := 25) dX6_drop_10 rfl hin_X6 (by decide) hw_678) (
  kc (ok_iload_n dX6_drop_13 rfl) (
  kc (ok_iaload dX6_drop_14) (
  kc (ok_if_ge dX6_drop_15 (by decide)) (
  kc (ok_bipush dX6_drop_18 (by decide)) (
  kc (ok_retI dX6_drop_20 rfl) (
  kc (ok_aload_n dX6_drop_21 rfl) (
  kc (ok_get (T := TX6) (k := 25) dX6_drop_22 rfl hin_X6 (by decide) hw_678) (
  kc (ok_iload_n dX6_drop_25 rfl) (
  kc (ok_iconst dX6_drop_26 (by decide)) (
  kc (ok_iastore dX6_drop_27) (
  kc (ok_aload_n dX6_drop_28 rfl) (
  kc (ok_get (T := TX6) (k := 26) dX6_drop_29 rfl hin_X6 (by decide) hw_679) (
  kc (ok_iload_n dX6_drop_32 rfl) (
  kc (ok_iaload dX6_drop_33) (
  kc (ok_retI dX6_drop_34 rfl) (
  kn))))))))))))))))))))))
def cd_X6_item : List (Nat × qOp) := [
  (0, oLdI 1 1),
  (1, oCallS 170 1 0 0 0 0 4),
  (4, oIfEq 14 7),
  (7, oLdI 2 8),
  (8, oCallS 171 1 0 0 0 0 11),
  (11, oIfNe 16 14),
  (14, oI (-1) 15),
  (15, oRetI),
  (16, oLdA 0 17),
  (17, oLdI 1 18),
  (18, oLdI 2 19),
  (19, oLdI 3 20),
  (20, oI (1) 21),
  (21, oCallV 172 6 4 0 0 0 0 24),
  (24, oStI 5 26),
  (26, oLdI 5 28),
  (28, oIfGe 34 31),
  (31, oLdI 5 33),
  (33, oRetI),
  (34, oLdA 0 35),
  (35, oGet 6 27 38),
  (38, oI (24) 40),
  (40, oLdI 1 41),
  (41, oBin (fun x y => x * y) 42),
  (42, oLdI 3 43),
  (43, oBin (fun x y => x + y) 44),
  (44, oLdI 2 45),
  (45, oIfNe 54 48),
  (48, oLdI 4 50),
  (50, oUn (fun x => x.toInt8.toInt32) 51),
  (51, oGoto 67),
  (54, oLdI 2 55),
  (55, oI (1) 56),
  (56, oCmNe 65 59),
  (59, oLdI 4 61),
  (61, oUn (fun x => x.toInt16.toInt32) 62),
  (62, oGoto 67),
  (65, oLdI 4 67),
  (67, oASt 68),
  (68, oI (1) 69),
  (69, oRetI)]
set_option maxRecDepth 100000 in
theorem ck_X6_item {ini : Bool} : ∀ x ∈ cd_X6_item, OpOK qMT cX6_item RX6 6 (some .int) ini 0 0 none x.1 x.2 :=
  kc (ok_iload_n dX6_item_0 rfl) (
  kc (ok_callS dX6_item_1 qm_170 rfl rfl hw_1033 hw_1034 qp_170) (
  kc (ok_if_eq dX6_item_4 (by decide)) (
  kc (ok_iload_n dX6_item_7 rfl) (
  kc (ok_callS dX6_item_8 qm_171 rfl rfl hw_1037 hw_1038 qp_171) (
  kc (ok_if_ne dX6_item_11 (by decide)) (
  kc (ok_iconst dX6_item_14 (by decide)) (
  kc (ok_retI dX6_item_15 rfl) (
  kc (ok_aload_n dX6_item_16 rfl) (
  kc (ok_iload_n dX6_item_17 rfl) (
  kc (ok_iload_n dX6_item_18 rfl) (
  kc (ok_iload_n dX6_item_19 rfl) (
  kc (ok_iconst dX6_item_20 (by decide)) (
  kc (ok_callV (T := TX6) dX6_item_21 qm_172 rfl rfl rfl hw_1040 hw_1042 hw_50 qp_172) (
  kc (ok_istore dX6_item_24) (
  kc (ok_iload dX6_item_26) (
  kc (ok_if_ge dX6_item_28 (by decide)) (
  kc (ok_iload dX6_item_31) (
  kc (ok_retI dX6_item_33 rfl) (
  kc (ok_aload_n dX6_item_34 rfl) (
  kc (ok_get (T := TX6) (k := 27) dX6_item_35 rfl hin_X6 (by decide) hw_680) (
  kc (ok_bipush dX6_item_38 (by decide)) (
  kc (ok_iload_n dX6_item_40 rfl) (
  kc (ok_imul dX6_item_41) (
  kc (ok_iload_n dX6_item_42 rfl) (
  kc (ok_iadd dX6_item_43) (
  kc (ok_iload_n dX6_item_44 rfl) (
  kc (ok_if_ne dX6_item_45 (by decide)) (
  kc (ok_iload dX6_item_48) (
  kc (ok_i2b dX6_item_50) (
  kc (ok_goto dX6_item_51 (by decide)) (
  kc (ok_iload_n dX6_item_54 rfl) (
  kc (ok_iconst dX6_item_55 (by decide)) (
  kc (ok_cm_ne dX6_item_56 (by decide)) (
  kc (ok_iload dX6_item_59) (
  kc (ok_i2s dX6_item_61) (
  kc (ok_goto dX6_item_62 (by decide)) (
  kc (ok_iload dX6_item_65) (
  kc (ok_iastore dX6_item_67) (
  kc (ok_iconst dX6_item_68 (by decide)) (
  kc (ok_retI dX6_item_69 rfl) (
  kn)))))))))))))))))))))))))))))))))))))))))
def cd_X6_copy : List (Nat × qOp) := [
  (0, oLdI 1 1),
  (1, oCallS 170 1 0 0 0 0 4),
  (4, oIfEq 14 7),
  (7, oLdI 3 8),
  (8, oCallS 170 1 0 0 0 0 11),
  (11, oIfNe 16 14),
  (14, oI (-1) 15),
  (15, oRetI),
  (16, oLdA 0 17),
  (17, oGet 6 25 20),
  (20, oLdI 1 21),
  (21, oALd 22),
  (22, oIfLt 34 25),
  (25, oLdA 0 26),
  (26, oGet 6 25 29),
  (29, oLdI 3 30),
  (30, oALd 31),
  (31, oIfGe 37 34),
  (34, oI (-11) 36),
  (36, oRetI),
  (37, oLdA 0 38),
  (38, oGet 6 25 41),
  (41, oLdI 1 42),
  (42, oALd 43),
  (43, oLdA 0 44),
  (44, oGet 6 25 47),
  (47, oLdI 3 48),
  (48, oALd 49),
  (49, oCmEq 55 52),
  (52, oI (-12) 54),
  (54, oRetI),
  (55, oLdI 5 57),
  (57, oIfLt 95 60),
  (60, oLdA 0 61),
  (61, oLdI 1 62),
  (62, oLdA 0 63),
  (63, oGet 6 25 66),
  (66, oLdI 1 67),
  (67, oALd 68),
  (68, oLdI 2 69),
  (69, oLdI 5 71),
  (71, oCallV 172 6 4 0 0 0 0 74),
  (74, oIfLt 95 77),
  (77, oLdA 0 78),
  (78, oLdI 3 79),
  (79, oLdA 0 80),
  (80, oGet 6 25 83),
  (83, oLdI 3 84),
  (84, oALd 85),
  (85, oLdI 4 87),
  (87, oLdI 5 89),
  (89, oCallV 172 6 4 0 0 0 0 92),
  (92, oIfGe 98 95),
  (95, oI (-13) 97),
  (97, oRetI),
  (98, oI (0) 99),
  (99, oStI 6 101),
  (101, oLdI 6 103),
  (103, oLdI 5 105),
  (105, oCmGe 135 108),
  (108, oLdA 0 109),
  (109, oGet 6 28 112),
  (112, oLdI 6 114),
  (114, oLdA 0 115),
  (115, oGet 6 27 118),
  (118, oI (24) 120),
  (120, oLdI 1 121),
  (121, oBin (fun x y => x * y) 122),
  (122, oLdI 2 123),
  (123, oBin (fun x y => x + y) 124),
  (124, oLdI 6 126),
  (126, oBin (fun x y => x + y) 127),
  (127, oALd 128),
  (128, oASt 129),
  (129, oInc 6 (1) 132),
  (132, oGoto 101),
  (135, oI (0) 136),
  (136, oStI 6 138),
  (138, oLdI 6 140),
  (140, oLdI 5 142),
  (142, oCmGe 173 145),
  (145, oLdA 0 146),
  (146, oGet 6 27 149),
  (149, oI (24) 151),
  (151, oLdI 3 152),
  (152, oBin (fun x y => x * y) 153),
  (153, oLdI 4 155),
  (155, oBin (fun x y => x + y) 156),
  (156, oLdI 6 158),
  (158, oBin (fun x y => x + y) 159),
  (159, oLdA 0 160),
  (160, oGet 6 28 163),
  (163, oLdI 6 165),
  (165, oALd 166),
  (166, oASt 167),
  (167, oInc 6 (1) 170),
  (170, oGoto 138),
  (173, oLdI 5 175),
  (175, oRetI)]
set_option maxRecDepth 100000 in
theorem ck_X6_copy {ini : Bool} : ∀ x ∈ cd_X6_copy, OpOK qMT cX6_copy RX6 7 (some .int) ini 0 0 none x.1 x.2 :=
  kc (ok_iload_n dX6_copy_0 rfl) (
  kc (ok_callS dX6_copy_1 qm_170 rfl rfl hw_1033 hw_1034 qp_170) (
  kc (ok_if_eq dX6_copy_4 (by decide)) (
  kc (ok_iload_n dX6_copy_7 rfl) (
  kc (ok_callS dX6_copy_8 qm_170 rfl rfl hw_1033 hw_1034 qp_170) (
  kc (ok_if_ne dX6_copy_11 (by decide)) (
  kc (ok_iconst dX6_copy_14 (by decide)) (
  kc (ok_retI dX6_copy_15 rfl) (
  kc (ok_aload_n dX6_copy_16 rfl) (
  kc (ok_get (T := TX6) (k := 25) dX6_copy_17 rfl hin_X6 (by decide) hw_678) (
  kc (ok_iload_n dX6_copy_20 rfl) (
  kc (ok_iaload dX6_copy_21) (
  kc (ok_if_lt dX6_copy_22 (by decide)) (
  kc (ok_aload_n dX6_copy_25 rfl) (
  kc (ok_get (T := TX6) (k := 25) dX6_copy_26 rfl hin_X6 (by decide) hw_678) (
  kc (ok_iload_n dX6_copy_29 rfl) (
  kc (ok_iaload dX6_copy_30) (
  kc (ok_if_ge dX6_copy_31 (by decide)) (
  kc (ok_bipush dX6_copy_34 (by decide)) (
  kc (ok_retI dX6_copy_36 rfl) (
  kc (ok_aload_n dX6_copy_37 rfl) (
  kc (ok_get (T := TX6) (k := 25) dX6_copy_38 rfl hin_X6 (by decide) hw_678) (
  kc (ok_iload_n dX6_copy_41 rfl) (
  kc (ok_iaload dX6_copy_42) (
  kc (ok_aload_n dX6_copy_43 rfl) (
  kc (ok_get (T := TX6) (k := 25) dX6_copy_44 rfl hin_X6 (by decide) hw_678) (
  kc (ok_iload_n dX6_copy_47 rfl) (
  kc (ok_iaload dX6_copy_48) (
  kc (ok_cm_eq dX6_copy_49 (by decide)) (
  kc (ok_bipush dX6_copy_52 (by decide)) (
  kc (ok_retI dX6_copy_54 rfl) (
  kc (ok_iload dX6_copy_55) (
  kc (ok_if_lt dX6_copy_57 (by decide)) (
  kc (ok_aload_n dX6_copy_60 rfl) (
  kc (ok_iload_n dX6_copy_61 rfl) (
  kc (ok_aload_n dX6_copy_62 rfl) (
  kc (ok_get (T := TX6) (k := 25) dX6_copy_63 rfl hin_X6 (by decide) hw_678) (
  kc (ok_iload_n dX6_copy_66 rfl) (
  kc (ok_iaload dX6_copy_67) (
  kc (ok_iload_n dX6_copy_68 rfl) (
  kc (ok_iload dX6_copy_69) (
  kc (ok_callV (T := TX6) dX6_copy_71 qm_172 rfl rfl rfl hw_1040 hw_1042 hw_50 qp_172) (
  kc (ok_if_lt dX6_copy_74 (by decide)) (
  kc (ok_aload_n dX6_copy_77 rfl) (
  kc (ok_iload_n dX6_copy_78 rfl) (
  kc (ok_aload_n dX6_copy_79 rfl) (
  kc (ok_get (T := TX6) (k := 25) dX6_copy_80 rfl hin_X6 (by decide) hw_678) (
  kc (ok_iload_n dX6_copy_83 rfl) (
  kc (ok_iaload dX6_copy_84) (
  kc (ok_iload dX6_copy_85) (
  kc (ok_iload dX6_copy_87) (
  kc (ok_callV (T := TX6) dX6_copy_89 qm_172 rfl rfl rfl hw_1040 hw_1042 hw_50 qp_172) (
  kc (ok_if_ge dX6_copy_92 (by decide)) (
  kc (ok_bipush dX6_copy_95 (by decide)) (
  kc (ok_retI dX6_copy_97 rfl) (
  kc (ok_iconst dX6_copy_98 (by decide)) (
  kc (ok_istore dX6_copy_99) (
  kc (ok_iload dX6_copy_101) (
  kc (ok_iload dX6_copy_103) (
  kc (ok_cm_ge dX6_copy_105 (by decide)) (
  kc (ok_aload_n dX6_copy_108 rfl) (
  kc (ok_get (T := TX6) (k := 28) dX6_copy_109 rfl hin_X6 (by decide) hw_681) (
  kc (ok_iload dX6_copy_112) (
  kc (ok_aload_n dX6_copy_114 rfl) (
  kc (ok_get (T := TX6) (k := 27) dX6_copy_115 rfl hin_X6 (by decide) hw_680) (
  kc (ok_bipush dX6_copy_118 (by decide)) (
  kc (ok_iload_n dX6_copy_120 rfl) (
  kc (ok_imul dX6_copy_121) (
  kc (ok_iload_n dX6_copy_122 rfl) (
  kc (ok_iadd dX6_copy_123) (
  kc (ok_iload dX6_copy_124) (
  kc (ok_iadd dX6_copy_126) (
  kc (ok_iaload dX6_copy_127) (
  kc (ok_iastore dX6_copy_128) (
  kc (ok_iinc dX6_copy_129 (by decide)) (
  kc (ok_goto dX6_copy_132 (by decide)) (
  kc (ok_iconst dX6_copy_135 (by decide)) (
  kc (ok_istore dX6_copy_136) (
  kc (ok_iload dX6_copy_138) (
  kc (ok_iload dX6_copy_140) (
  kc (ok_cm_ge dX6_copy_142 (by decide)) (
  kc (ok_aload_n dX6_copy_145 rfl) (
  kc (ok_get (T := TX6) (k := 27) dX6_copy_146 rfl hin_X6 (by decide) hw_680) (
  kc (ok_bipush dX6_copy_149 (by decide)) (
  kc (ok_iload_n dX6_copy_151 rfl) (
  kc (ok_imul dX6_copy_152) (
  kc (ok_iload dX6_copy_153) (
  kc (ok_iadd dX6_copy_155) (
  kc (ok_iload dX6_copy_156) (
  kc (ok_iadd dX6_copy_158) (
  kc (ok_aload_n dX6_copy_159 rfl) (
  kc (ok_get (T := TX6) (k := 28) dX6_copy_160 rfl hin_X6 (by decide) hw_681) (
  kc (ok_iload dX6_copy_163) (
  kc (ok_iaload dX6_copy_165) (
  kc (ok_iastore dX6_copy_166) (
  kc (ok_iinc dX6_copy_167 (by decide)) (
  kc (ok_goto dX6_copy_170 (by decide)) (
  kc (ok_iload dX6_copy_173) (
  kc (ok_retI dX6_copy_175 rfl) (
  kn)))))))))))))))))))))))))))))))))))))))))))))))))))))))))))))))))))))))))))))))))))))))))))))))))))
def cd_J6_bitCount_0f7a4 : List (Nat × qOp) := [
  (0, oLdI 0 1),
  (1, oLdI 0 2),
  (2, oI (1) 3),
  (3, oBin (fun x y => (x.toUInt32 >>> (y.toUInt32 &&& Int32.toUInt32 31)).toInt32) 4),
  (4, oI (1431655765) 7),
  (7, oBin (fun x y => x &&& y) 8),
  (8, oBin (fun x y => x - y) 9),
  (9, oStI 0 10),
  (10, oLdI 0 11),
  (11, oI (858993459) 14),
  (14, oBin (fun x y => x &&& y) 15),
  (15, oLdI 0 16),
  (16, oI (2) 17),
  (17, oBin (fun x y => (x.toUInt32 >>> (y.toUInt32 &&& Int32.toUInt32 31)).toInt32) 18),
  (18, oI (858993459) 21),
  (21, oBin (fun x y => x &&& y) 22),
  (22, oBin (fun x y => x + y) 23),
  (23, oStI 0 24),
  (24, oLdI 0 25),
  (25, oLdI 0 26),
  (26, oI (4) 27),
  (27, oBin (fun x y => (x.toUInt32 >>> (y.toUInt32 &&& Int32.toUInt32 31)).toInt32) 28),
  (28, oBin (fun x y => x + y) 29),
  (29, oI (252645135) 32),
  (32, oBin (fun x y => x &&& y) 33),
  (33, oStI 0 34),
  (34, oLdI 0 35),
  (35, oLdI 0 36),
  (36, oI (8) 38),
  (38, oBin (fun x y => (x.toUInt32 >>> (y.toUInt32 &&& Int32.toUInt32 31)).toInt32) 39),
  (39, oBin (fun x y => x + y) 40),
  (40, oStI 0 41),
  (41, oLdI 0 42),
  (42, oLdI 0 43),
  (43, oI (16) 45),
  (45, oBin (fun x y => (x.toUInt32 >>> (y.toUInt32 &&& Int32.toUInt32 31)).toInt32) 46),
  (46, oBin (fun x y => x + y) 47),
  (47, oStI 0 48),
  (48, oLdI 0 49),
  (49, oI (63) 51),
  (51, oBin (fun x y => x &&& y) 52),
  (52, oRetI)]
set_option maxRecDepth 100000 in
theorem ck_J6_bitCount_0f7a4 {ini : Bool} : ∀ x ∈ cd_J6_bitCount_0f7a4, OpOK qMT cJ6_bitCount_0f7a4 RJ6 1 (some .int) ini 0 0 none x.1 x.2 :=
  kc (ok_iload_n dJ6_bitCount_0f7a4_0 rfl) (
  kc (ok_iload_n dJ6_bitCount_0f7a4_1 rfl) (
  kc (ok_iconst dJ6_bitCount_0f7a4_2 (by decide)) (
  kc (ok_iushr dJ6_bitCount_0f7a4_3) (
  kc (ok_ldcw dJ6_bitCount_0f7a4_4 hw_389) (
  kc (ok_iand dJ6_bitCount_0f7a4_7) (
  kc (ok_isub dJ6_bitCount_0f7a4_8) (
  kc (ok_istore_n dJ6_bitCount_0f7a4_9 rfl) (
  kc (ok_iload_n dJ6_bitCount_0f7a4_10 rfl) (
  kc (ok_ldcw dJ6_bitCount_0f7a4_11 hw_390) (
  kc (ok_iand dJ6_bitCount_0f7a4_14) (
  kc (ok_iload_n dJ6_bitCount_0f7a4_15 rfl) (
  kc (ok_iconst dJ6_bitCount_0f7a4_16 (by decide)) (
  kc (ok_iushr dJ6_bitCount_0f7a4_17) (
  kc (ok_ldcw dJ6_bitCount_0f7a4_18 hw_390) (
  kc (ok_iand dJ6_bitCount_0f7a4_21) (
  kc (ok_iadd dJ6_bitCount_0f7a4_22) (
  kc (ok_istore_n dJ6_bitCount_0f7a4_23 rfl) (
  kc (ok_iload_n dJ6_bitCount_0f7a4_24 rfl) (
  kc (ok_iload_n dJ6_bitCount_0f7a4_25 rfl) (
  kc (ok_iconst dJ6_bitCount_0f7a4_26 (by decide)) (
  kc (ok_iushr dJ6_bitCount_0f7a4_27) (
  kc (ok_iadd dJ6_bitCount_0f7a4_28) (
  kc (ok_ldcw dJ6_bitCount_0f7a4_29 hw_391) (
  kc (ok_iand dJ6_bitCount_0f7a4_32) (
  kc (ok_istore_n dJ6_bitCount_0f7a4_33 rfl) (
  kc (ok_iload_n dJ6_bitCount_0f7a4_34 rfl) (
  kc (ok_iload_n dJ6_bitCount_0f7a4_35 rfl) (
  kc (ok_bipush dJ6_bitCount_0f7a4_36 (by decide)) (
  kc (ok_iushr dJ6_bitCount_0f7a4_38) (
  kc (ok_iadd dJ6_bitCount_0f7a4_39) (
  kc (ok_istore_n dJ6_bitCount_0f7a4_40 rfl) (
  kc (ok_iload_n dJ6_bitCount_0f7a4_41 rfl) (
  kc (ok_iload_n dJ6_bitCount_0f7a4_42 rfl) (
  kc (ok_bipush dJ6_bitCount_0f7a4_43 (by decide)) (
  kc (ok_iushr dJ6_bitCount_0f7a4_45) (
  kc (ok_iadd dJ6_bitCount_0f7a4_46) (
  kc (ok_istore_n dJ6_bitCount_0f7a4_47 rfl) (
  kc (ok_iload_n dJ6_bitCount_0f7a4_48 rfl) (
  kc (ok_bipush dJ6_bitCount_0f7a4_49 (by decide)) (
  kc (ok_iand dJ6_bitCount_0f7a4_51) (
  kc (ok_retI dJ6_bitCount_0f7a4_52 rfl) (
  kn))))))))))))))))))))))))))))))))))))))))))
