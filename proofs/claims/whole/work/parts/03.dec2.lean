theorem dX5_worth_38 : decode cX5_worth 38 = .ok (.iadd, 1) := by decide +kernel
theorem dX5_worth_39 : decode cX5_worth 39 = .ok (.iload_n 3, 1) := by decide +kernel
theorem dX5_worth_40 : decode cX5_worth 40 = .ok (.invokestatic 63, 3) := by decide +kernel
theorem dX5_worth_43 : decode cX5_worth 43 = .ok (.ireturn, 1) := by decide +kernel
theorem dX5_suit_0 : decode cX5_suit 0 = .ok (.aload_n 0, 1) := by decide +kernel
theorem dX5_suit_1 : decode cX5_suit 1 = .ok (.iload_n 1, 1) := by decide +kernel
theorem dX5_suit_2 : decode cX5_suit 2 = .ok (.invokevirtual 94, 3) := by decide +kernel
theorem dX5_suit_5 : decode cX5_suit 5 = .ok (.ifCond .eq 16, 3) := by decide +kernel
theorem dX5_suit_8 : decode cX5_suit 8 = .ok (.aload_n 0, 1) := by decide +kernel
theorem dX5_suit_9 : decode cX5_suit 9 = .ok (.iload_n 2, 1) := by decide +kernel
theorem dX5_suit_10 : decode cX5_suit 10 = .ok (.invokevirtual 94, 3) := by decide +kernel
theorem dX5_suit_13 : decode cX5_suit 13 = .ok (.ifCond .eq 8, 3) := by decide +kernel
theorem dX5_suit_16 : decode cX5_suit 16 = .ok (.iload_n 1, 1) := by decide +kernel
theorem dX5_suit_17 : decode cX5_suit 17 = .ok (.iload_n 2, 1) := by decide +kernel
theorem dX5_suit_18 : decode cX5_suit 18 = .ok (.if_icmp .ne 5, 3) := by decide +kernel
theorem dX5_suit_21 : decode cX5_suit 21 = .ok (.iconst (-1), 1) := by decide +kernel
theorem dX5_suit_22 : decode cX5_suit 22 = .ok (.ireturn, 1) := by decide +kernel
theorem dX5_suit_23 : decode cX5_suit 23 = .ok (.aload_n 0, 1) := by decide +kernel
theorem dX5_suit_24 : decode cX5_suit 24 = .ok (.getfield 10, 3) := by decide +kernel
theorem dX5_suit_27 : decode cX5_suit 27 = .ok (.getfield 70, 3) := by decide +kernel
theorem dX5_suit_30 : decode cX5_suit 30 = .ok (.getfield 97, 3) := by decide +kernel
theorem dX5_suit_33 : decode cX5_suit 33 = .ok (.bipush 12, 2) := by decide +kernel
theorem dX5_suit_35 : decode cX5_suit 35 = .ok (.if_icmp .lt 6, 3) := by decide +kernel
theorem dX5_suit_38 : decode cX5_suit 38 = .ok (.bipush (-3), 2) := by decide +kernel
theorem dX5_suit_40 : decode cX5_suit 40 = .ok (.ireturn, 1) := by decide +kernel
theorem dX5_suit_41 : decode cX5_suit 41 = .ok (.aload_n 0, 1) := by decide +kernel
theorem dX5_suit_42 : decode cX5_suit 42 = .ok (.getfield 10, 3) := by decide +kernel
theorem dX5_suit_45 : decode cX5_suit 45 = .ok (.getfield 70, 3) := by decide +kernel
theorem dX5_suit_48 : decode cX5_suit 48 = .ok (.iload_n 1, 1) := by decide +kernel
theorem dX5_suit_49 : decode cX5_suit 49 = .ok (.iload_n 2, 1) := by decide +kernel
theorem dX5_suit_50 : decode cX5_suit 50 = .ok (.invokevirtual 100, 3) := by decide +kernel
theorem dX5_suit_53 : decode cX5_suit 53 = .ok (.ireturn, 1) := by decide +kernel
theorem dX5_told_0 : decode cX5_told 0 = .ok (.aload_n 0, 1) := by decide +kernel
theorem dX5_told_1 : decode cX5_told 1 = .ok (.getfield 10, 3) := by decide +kernel
theorem dX5_told_4 : decode cX5_told 4 = .ok (.getfield 70, 3) := by decide +kernel
theorem dX5_told_7 : decode cX5_told 7 = .ok (.astore_n 3, 1) := by decide +kernel
theorem dX5_told_8 : decode cX5_told 8 = .ok (.iload_n 1, 1) := by decide +kernel
theorem dX5_told_9 : decode cX5_told 9 = .ok (.ifCond .lt 11, 3) := by decide +kernel
theorem dX5_told_12 : decode cX5_told 12 = .ok (.iload_n 1, 1) := by decide +kernel
theorem dX5_told_13 : decode cX5_told 13 = .ok (.aload_n 3, 1) := by decide +kernel
theorem dX5_told_14 : decode cX5_told 14 = .ok (.getfield 97, 3) := by decide +kernel
theorem dX5_told_17 : decode cX5_told 17 = .ok (.if_icmp .lt 5, 3) := by decide +kernel
theorem dX5_told_20 : decode cX5_told 20 = .ok (.iconst (-1), 1) := by decide +kernel
theorem dX5_told_21 : decode cX5_told 21 = .ok (.ireturn, 1) := by decide +kernel
theorem dX5_told_22 : decode cX5_told 22 = .ok (.iload_n 2, 1) := by decide +kernel
theorem dX5_told_23 : decode cX5_told 23 = .ok (.tableswitch 83 0 4 #[33, 40, 47, 58, 69], 33) := by decide +kernel
theorem dX5_told_56 : decode cX5_told 56 = .ok (.aload_n 3, 1) := by decide +kernel
theorem dX5_told_57 : decode cX5_told 57 = .ok (.getfield 104, 3) := by decide +kernel
theorem dX5_told_60 : decode cX5_told 60 = .ok (.iload_n 1, 1) := by decide +kernel
theorem dX5_told_61 : decode cX5_told 61 = .ok (.iaload, 1) := by decide +kernel
theorem dX5_told_62 : decode cX5_told 62 = .ok (.ireturn, 1) := by decide +kernel
theorem dX5_told_63 : decode cX5_told 63 = .ok (.aload_n 3, 1) := by decide +kernel
theorem dX5_told_64 : decode cX5_told 64 = .ok (.getfield 107, 3) := by decide +kernel
theorem dX5_told_67 : decode cX5_told 67 = .ok (.iload_n 1, 1) := by decide +kernel
theorem dX5_told_68 : decode cX5_told 68 = .ok (.iaload, 1) := by decide +kernel
theorem dX5_told_69 : decode cX5_told 69 = .ok (.ireturn, 1) := by decide +kernel
theorem dX5_told_70 : decode cX5_told 70 = .ok (.aload_n 3, 1) := by decide +kernel
theorem dX5_told_71 : decode cX5_told 71 = .ok (.aload_n 3, 1) := by decide +kernel
theorem dX5_told_72 : decode cX5_told 72 = .ok (.getfield 104, 3) := by decide +kernel
theorem dX5_told_75 : decode cX5_told 75 = .ok (.iload_n 1, 1) := by decide +kernel
theorem dX5_told_76 : decode cX5_told 76 = .ok (.iaload, 1) := by decide +kernel
theorem dX5_told_77 : decode cX5_told 77 = .ok (.invokevirtual 110, 3) := by decide +kernel
theorem dX5_told_80 : decode cX5_told 80 = .ok (.ireturn, 1) := by decide +kernel
theorem dX5_told_81 : decode cX5_told 81 = .ok (.aload_n 3, 1) := by decide +kernel
theorem dX5_told_82 : decode cX5_told 82 = .ok (.aload_n 3, 1) := by decide +kernel
theorem dX5_told_83 : decode cX5_told 83 = .ok (.getfield 107, 3) := by decide +kernel
theorem dX5_told_86 : decode cX5_told 86 = .ok (.iload_n 1, 1) := by decide +kernel
theorem dX5_told_87 : decode cX5_told 87 = .ok (.iaload, 1) := by decide +kernel
theorem dX5_told_88 : decode cX5_told 88 = .ok (.invokevirtual 110, 3) := by decide +kernel
theorem dX5_told_91 : decode cX5_told 91 = .ok (.ireturn, 1) := by decide +kernel
theorem dX5_told_92 : decode cX5_told 92 = .ok (.aload_n 3, 1) := by decide +kernel
theorem dX5_told_93 : decode cX5_told 93 = .ok (.iload_n 1, 1) := by decide +kernel
theorem dX5_told_94 : decode cX5_told 94 = .ok (.invokevirtual 113, 3) := by decide +kernel
theorem dX5_told_97 : decode cX5_told 97 = .ok (.ifCond .eq 7, 3) := by decide +kernel
theorem dX5_told_100 : decode cX5_told 100 = .ok (.iconst 1, 1) := by decide +kernel
theorem dX5_told_101 : decode cX5_told 101 = .ok (.goto 4, 3) := by decide +kernel
theorem dX5_told_104 : decode cX5_told 104 = .ok (.iconst 0, 1) := by decide +kernel
theorem dX5_told_105 : decode cX5_told 105 = .ok (.ireturn, 1) := by decide +kernel
theorem dX5_told_106 : decode cX5_told 106 = .ok (.iconst (-1), 1) := by decide +kernel
theorem dX5_told_107 : decode cX5_told 107 = .ok (.ireturn, 1) := by decide +kernel
theorem dX5_hand_0 : decode cX5_hand 0 = .ok (.aload_n 0, 1) := by decide +kernel
theorem dX5_hand_1 : decode cX5_hand 1 = .ok (.iload_n 1, 1) := by decide +kernel
theorem dX5_hand_2 : decode cX5_hand 2 = .ok (.invokevirtual 88, 3) := by decide +kernel
theorem dX5_hand_5 : decode cX5_hand 5 = .ok (.ifCond .eq 18, 3) := by decide +kernel
theorem dX5_hand_8 : decode cX5_hand 8 = .ok (.aload_n 0, 1) := by decide +kernel
theorem dX5_hand_9 : decode cX5_hand 9 = .ok (.getfield 10, 3) := by decide +kernel
theorem dX5_hand_12 : decode cX5_hand 12 = .ok (.getfield 70, 3) := by decide +kernel
theorem dX5_hand_15 : decode cX5_hand 15 = .ok (.getfield 116, 3) := by decide +kernel
theorem dX5_hand_18 : decode cX5_hand 18 = .ok (.iload_n 1, 1) := by decide +kernel
theorem dX5_hand_19 : decode cX5_hand 19 = .ok (.iaload, 1) := by decide +kernel
theorem dX5_hand_20 : decode cX5_hand 20 = .ok (.goto 4, 3) := by decide +kernel
theorem dX5_hand_23 : decode cX5_hand 23 = .ok (.iconst (-1), 1) := by decide +kernel
theorem dX5_hand_24 : decode cX5_hand 24 = .ok (.ireturn, 1) := by decide +kernel
theorem dX5_purse_0 : decode cX5_purse 0 = .ok (.iload_n 1, 1) := by decide +kernel
theorem dX5_purse_1 : decode cX5_purse 1 = .ok (.invokestatic 51, 3) := by decide +kernel
theorem dX5_purse_4 : decode cX5_purse 4 = .ok (.ifCond .eq 15, 3) := by decide +kernel
theorem dX5_purse_7 : decode cX5_purse 7 = .ok (.aload_n 0, 1) := by decide +kernel
theorem dX5_purse_8 : decode cX5_purse 8 = .ok (.getfield 10, 3) := by decide +kernel
theorem dX5_purse_11 : decode cX5_purse 11 = .ok (.getfield 59, 3) := by decide +kernel
theorem dX5_purse_14 : decode cX5_purse 14 = .ok (.iload_n 1, 1) := by decide +kernel
theorem dX5_purse_15 : decode cX5_purse 15 = .ok (.iaload, 1) := by decide +kernel
theorem dX5_purse_16 : decode cX5_purse 16 = .ok (.goto 4, 3) := by decide +kernel
theorem dX5_purse_19 : decode cX5_purse 19 = .ok (.iconst (-1), 1) := by decide +kernel
theorem dX5_purse_20 : decode cX5_purse 20 = .ok (.ireturn, 1) := by decide +kernel
theorem dX5_value_0 : decode cX5_value 0 = .ok (.iload_n 1, 1) := by decide +kernel
theorem dX5_value_1 : decode cX5_value 1 = .ok (.invokestatic 51, 3) := by decide +kernel
theorem dX5_value_4 : decode cX5_value 4 = .ok (.ifCond .eq 21, 3) := by decide +kernel
theorem dX5_value_7 : decode cX5_value 7 = .ok (.aload_n 0, 1) := by decide +kernel
theorem dX5_value_8 : decode cX5_value 8 = .ok (.getfield 10, 3) := by decide +kernel
theorem dX5_value_11 : decode cX5_value 11 = .ok (.iload_n 1, 1) := by decide +kernel
theorem dX5_value_12 : decode cX5_value 12 = .ok (.aload_n 0, 1) := by decide +kernel
theorem dX5_value_13 : decode cX5_value 13 = .ok (.getfield 10, 3) := by decide +kernel
theorem dX5_value_16 : decode cX5_value 16 = .ok (.getfield 70, 3) := by decide +kernel
theorem dX5_value_19 : decode cX5_value 19 = .ok (.invokevirtual 119, 3) := by decide +kernel
theorem dX5_value_22 : decode cX5_value 22 = .ok (.goto 5, 3) := by decide +kernel
theorem dX5_value_25 : decode cX5_value 25 = .ok (.ldc 123, 2) := by decide +kernel
theorem dX5_value_27 : decode cX5_value 27 = .ok (.ireturn, 1) := by decide +kernel
theorem dX5_type_0 : decode cX5_type 0 = .ok (.iload_n 3, 1) := by decide +kernel
theorem dX5_type_1 : decode cX5_type 1 = .ok (.iconst 1, 1) := by decide +kernel
theorem dX5_type_2 : decode cX5_type 2 = .ok (.if_icmp .lt 17, 3) := by decide +kernel
theorem dX5_type_5 : decode cX5_type 5 = .ok (.iload_n 3, 1) := by decide +kernel
theorem dX5_type_6 : decode cX5_type 6 = .ok (.bipush 8, 2) := by decide +kernel
theorem dX5_type_8 : decode cX5_type 8 = .ok (.if_icmp .gt 11, 3) := by decide +kernel
theorem dX5_type_11 : decode cX5_type 11 = .ok (.lload_n 1, 1) := by decide +kernel
theorem dX5_type_12 : decode cX5_type 12 = .ok (.iload_n 3, 1) := by decide +kernel
theorem dX5_type_13 : decode cX5_type 13 = .ok (.invokestatic 124, 3) := by decide +kernel
theorem dX5_type_16 : decode cX5_type 16 = .ok (.ifCond .ne 5, 3) := by decide +kernel
theorem dX5_type_19 : decode cX5_type 19 = .ok (.iconst (-1), 1) := by decide +kernel
theorem dX5_type_20 : decode cX5_type 20 = .ok (.ireturn, 1) := by decide +kernel
theorem dX5_type_21 : decode cX5_type 21 = .ok (.aload_n 0, 1) := by decide +kernel
theorem dX5_type_22 : decode cX5_type 22 = .ok (.getfield 40, 3) := by decide +kernel
theorem dX5_type_25 : decode cX5_type 25 = .ok (.getfield 128, 3) := by decide +kernel
theorem dX5_type_28 : decode cX5_type 28 = .ok (.iload_n 3, 1) := by decide +kernel
theorem dX5_type_29 : decode cX5_type 29 = .ok (.iadd, 1) := by decide +kernel
theorem dX5_type_30 : decode cX5_type 30 = .ok (.bipush 80, 2) := by decide +kernel
theorem dX5_type_32 : decode cX5_type 32 = .ok (.if_icmp .le 6, 3) := by decide +kernel
theorem dX5_type_35 : decode cX5_type 35 = .ok (.bipush (-3), 2) := by decide +kernel
theorem dX5_type_37 : decode cX5_type 37 = .ok (.ireturn, 1) := by decide +kernel
theorem dX5_type_38 : decode cX5_type 38 = .ok (.aload_n 0, 1) := by decide +kernel
theorem dX5_type_39 : decode cX5_type 39 = .ok (.getfield 40, 3) := by decide +kernel
theorem dX5_type_42 : decode cX5_type 42 = .ok (.lload_n 1, 1) := by decide +kernel
theorem dX5_type_43 : decode cX5_type 43 = .ok (.iload_n 3, 1) := by decide +kernel
theorem dX5_type_44 : decode cX5_type 44 = .ok (.invokevirtual 131, 3) := by decide +kernel
theorem dX5_type_47 : decode cX5_type 47 = .ok (.aload_n 0, 1) := by decide +kernel
theorem dX5_type_48 : decode cX5_type 48 = .ok (.getfield 40, 3) := by decide +kernel
theorem dX5_type_51 : decode cX5_type 51 = .ok (.getfield 128, 3) := by decide +kernel
theorem dX5_type_54 : decode cX5_type 54 = .ok (.ireturn, 1) := by decide +kernel
theorem dX5_village_0 : decode cX5_village 0 = .ok (.aload_n 0, 1) := by decide +kernel
theorem dX5_village_1 : decode cX5_village 1 = .ok (.getfield 40, 3) := by decide +kernel
theorem dX5_village_4 : decode cX5_village 4 = .ok (.invokevirtual 135, 3) := by decide +kernel
theorem dX5_village_7 : decode cX5_village 7 = .ok (.istore_n 1, 1) := by decide +kernel
theorem dX5_village_8 : decode cX5_village 8 = .ok (.aload_n 0, 1) := by decide +kernel
theorem dX5_village_9 : decode cX5_village 9 = .ok (.getfield 40, 3) := by decide +kernel
theorem dX5_village_12 : decode cX5_village 12 = .ok (.iconst 0, 1) := by decide +kernel
theorem dX5_village_13 : decode cX5_village 13 = .ok (.putfield 128, 3) := by decide +kernel
theorem dX5_village_16 : decode cX5_village 16 = .ok (.iload_n 1, 1) := by decide +kernel
theorem dX5_village_17 : decode cX5_village 17 = .ok (.ifCond .le 18, 3) := by decide +kernel
theorem dX5_village_20 : decode cX5_village 20 = .ok (.aload_n 0, 1) := by decide +kernel
theorem dX5_village_21 : decode cX5_village 21 = .ok (.getfield 10, 3) := by decide +kernel
theorem dX5_village_24 : decode cX5_village 24 = .ok (.aload_n 0, 1) := by decide +kernel
theorem dX5_village_25 : decode cX5_village 25 = .ok (.getfield 40, 3) := by decide +kernel
theorem dX5_village_28 : decode cX5_village 28 = .ok (.getfield 138, 3) := by decide +kernel
theorem dX5_village_31 : decode cX5_village 31 = .ok (.iload_n 1, 1) := by decide +kernel
theorem dX5_village_32 : decode cX5_village 32 = .ok (.invokevirtual 141, 3) := by decide +kernel
theorem dX5_village_35 : decode cX5_village 35 = .ok (.iload_n 1, 1) := by decide +kernel
theorem dX5_village_36 : decode cX5_village 36 = .ok (.ireturn, 1) := by decide +kernel
theorem dX5_suits_0 : decode cX5_suits 0 = .ok (.aload_n 0, 1) := by decide +kernel
theorem dX5_suits_1 : decode cX5_suits 1 = .ok (.getfield 40, 3) := by decide +kernel
theorem dX5_suits_4 : decode cX5_suits 4 = .ok (.aload_n 0, 1) := by decide +kernel
theorem dX5_suits_5 : decode cX5_suits 5 = .ok (.getfield 10, 3) := by decide +kernel
theorem dX5_suits_8 : decode cX5_suits 8 = .ok (.getfield 70, 3) := by decide +kernel
theorem dX5_suits_11 : decode cX5_suits 11 = .ok (.getfield 80, 3) := by decide +kernel
theorem dX5_suits_14 : decode cX5_suits 14 = .ok (.invokevirtual 145, 3) := by decide +kernel
theorem dX5_suits_17 : decode cX5_suits 17 = .ok (.istore_n 1, 1) := by decide +kernel
theorem dX5_suits_18 : decode cX5_suits 18 = .ok (.aload_n 0, 1) := by decide +kernel
theorem dX5_suits_19 : decode cX5_suits 19 = .ok (.getfield 40, 3) := by decide +kernel
theorem dX5_suits_22 : decode cX5_suits 22 = .ok (.iconst 0, 1) := by decide +kernel
theorem dX5_suits_23 : decode cX5_suits 23 = .ok (.putfield 128, 3) := by decide +kernel
theorem dX5_suits_26 : decode cX5_suits 26 = .ok (.iload_n 1, 1) := by decide +kernel
theorem dX5_suits_27 : decode cX5_suits 27 = .ok (.bipush 12, 2) := by decide +kernel
theorem dX5_suits_29 : decode cX5_suits 29 = .ok (.aload_n 0, 1) := by decide +kernel
theorem dX5_suits_30 : decode cX5_suits 30 = .ok (.getfield 10, 3) := by decide +kernel
theorem dX5_suits_33 : decode cX5_suits 33 = .ok (.getfield 70, 3) := by decide +kernel
theorem dX5_suits_36 : decode cX5_suits 36 = .ok (.getfield 97, 3) := by decide +kernel
theorem dX5_suits_39 : decode cX5_suits 39 = .ok (.isub, 1) := by decide +kernel
theorem dX5_suits_40 : decode cX5_suits 40 = .ok (.if_icmp .le 6, 3) := by decide +kernel
theorem dX5_suits_43 : decode cX5_suits 43 = .ok (.bipush (-3), 2) := by decide +kernel
theorem dX5_suits_45 : decode cX5_suits 45 = .ok (.ireturn, 1) := by decide +kernel
theorem dX5_suits_46 : decode cX5_suits 46 = .ok (.iconst 0, 1) := by decide +kernel
theorem dX5_suits_47 : decode cX5_suits 47 = .ok (.istore_n 2, 1) := by decide +kernel
theorem dX5_suits_48 : decode cX5_suits 48 = .ok (.iload_n 2, 1) := by decide +kernel
theorem dX5_suits_49 : decode cX5_suits 49 = .ok (.iload_n 1, 1) := by decide +kernel
theorem dX5_suits_50 : decode cX5_suits 50 = .ok (.if_icmp .ge 44, 3) := by decide +kernel
theorem dX5_suits_53 : decode cX5_suits 53 = .ok (.aload_n 0, 1) := by decide +kernel
theorem dX5_suits_54 : decode cX5_suits 54 = .ok (.getfield 10, 3) := by decide +kernel
theorem dX5_suits_57 : decode cX5_suits 57 = .ok (.getfield 70, 3) := by decide +kernel
theorem dX5_suits_60 : decode cX5_suits 60 = .ok (.aload_n 0, 1) := by decide +kernel
theorem dX5_suits_61 : decode cX5_suits 61 = .ok (.getfield 40, 3) := by decide +kernel
theorem dX5_suits_64 : decode cX5_suits 64 = .ok (.getfield 138, 3) := by decide +kernel
theorem dX5_suits_67 : decode cX5_suits 67 = .ok (.iconst 2, 1) := by decide +kernel
theorem dX5_suits_68 : decode cX5_suits 68 = .ok (.iload_n 2, 1) := by decide +kernel
theorem dX5_suits_69 : decode cX5_suits 69 = .ok (.imul, 1) := by decide +kernel
theorem dX5_suits_70 : decode cX5_suits 70 = .ok (.iaload, 1) := by decide +kernel
theorem dX5_suits_71 : decode cX5_suits 71 = .ok (.aload_n 0, 1) := by decide +kernel
theorem dX5_suits_72 : decode cX5_suits 72 = .ok (.getfield 40, 3) := by decide +kernel
theorem dX5_suits_75 : decode cX5_suits 75 = .ok (.getfield 138, 3) := by decide +kernel
theorem dX5_suits_78 : decode cX5_suits 78 = .ok (.iconst 2, 1) := by decide +kernel
theorem dX5_suits_79 : decode cX5_suits 79 = .ok (.iload_n 2, 1) := by decide +kernel
theorem dX5_suits_80 : decode cX5_suits 80 = .ok (.imul, 1) := by decide +kernel
theorem dX5_suits_81 : decode cX5_suits 81 = .ok (.iconst 1, 1) := by decide +kernel
theorem dX5_suits_82 : decode cX5_suits 82 = .ok (.iadd, 1) := by decide +kernel
theorem dX5_suits_83 : decode cX5_suits 83 = .ok (.iaload, 1) := by decide +kernel
theorem dX5_suits_84 : decode cX5_suits 84 = .ok (.invokevirtual 100, 3) := by decide +kernel
theorem dX5_suits_87 : decode cX5_suits 87 = .ok (.pop, 1) := by decide +kernel
theorem dX5_suits_88 : decode cX5_suits 88 = .ok (.iinc 2 1, 3) := by decide +kernel
theorem dX5_suits_91 : decode cX5_suits 91 = .ok (.goto (-43), 3) := by decide +kernel
theorem dX5_suits_94 : decode cX5_suits 94 = .ok (.iload_n 1, 1) := by decide +kernel
theorem dX5_suits_95 : decode cX5_suits 95 = .ok (.ireturn, 1) := by decide +kernel
theorem dX5_count_0 : decode cX5_count 0 = .ok (.iload_n 1, 1) := by decide +kernel
theorem dX5_count_1 : decode cX5_count 1 = .ok (.tableswitch 97 0 4 #[35, 46, 57, 71, 89], 35) := by decide +kernel
theorem dX5_count_36 : decode cX5_count 36 = .ok (.aload_n 0, 1) := by decide +kernel
theorem dX5_count_37 : decode cX5_count 37 = .ok (.getfield 10, 3) := by decide +kernel
theorem dX5_count_40 : decode cX5_count 40 = .ok (.getfield 70, 3) := by decide +kernel
theorem dX5_count_43 : decode cX5_count 43 = .ok (.getfield 80, 3) := by decide +kernel
theorem dX5_count_46 : decode cX5_count 46 = .ok (.ireturn, 1) := by decide +kernel
theorem dX5_count_47 : decode cX5_count 47 = .ok (.aload_n 0, 1) := by decide +kernel
theorem dX5_count_48 : decode cX5_count 48 = .ok (.getfield 10, 3) := by decide +kernel
theorem dX5_count_51 : decode cX5_count 51 = .ok (.getfield 70, 3) := by decide +kernel
theorem dX5_count_54 : decode cX5_count 54 = .ok (.getfield 97, 3) := by decide +kernel
theorem dX5_count_57 : decode cX5_count 57 = .ok (.ireturn, 1) := by decide +kernel
theorem dX5_count_58 : decode cX5_count 58 = .ok (.aload_n 0, 1) := by decide +kernel
theorem dX5_count_59 : decode cX5_count 59 = .ok (.getfield 10, 3) := by decide +kernel
theorem dX5_count_62 : decode cX5_count 62 = .ok (.getfield 70, 3) := by decide +kernel
theorem dX5_count_65 : decode cX5_count 65 = .ok (.getfield 148, 3) := by decide +kernel
theorem dX5_count_68 : decode cX5_count 68 = .ok (.invokestatic 151, 3) := by decide +kernel
theorem dX5_count_71 : decode cX5_count 71 = .ok (.ireturn, 1) := by decide +kernel
theorem dX5_count_72 : decode cX5_count 72 = .ok (.aload_n 0, 1) := by decide +kernel
theorem dX5_count_73 : decode cX5_count 73 = .ok (.getfield 10, 3) := by decide +kernel
theorem dX5_count_76 : decode cX5_count 76 = .ok (.getfield 70, 3) := by decide +kernel
theorem dX5_count_79 : decode cX5_count 79 = .ok (.aload_n 0, 1) := by decide +kernel
theorem dX5_count_80 : decode cX5_count 80 = .ok (.getfield 10, 3) := by decide +kernel
theorem dX5_count_83 : decode cX5_count 83 = .ok (.getfield 67, 3) := by decide +kernel
theorem dX5_count_86 : decode cX5_count 86 = .ok (.invokevirtual 156, 3) := by decide +kernel
theorem dX5_count_89 : decode cX5_count 89 = .ok (.ireturn, 1) := by decide +kernel
theorem dX5_count_90 : decode cX5_count 90 = .ok (.aload_n 0, 1) := by decide +kernel
theorem dX5_count_91 : decode cX5_count 91 = .ok (.getfield 10, 3) := by decide +kernel
theorem dX5_count_94 : decode cX5_count 94 = .ok (.getfield 160, 3) := by decide +kernel
theorem dX5_count_97 : decode cX5_count 97 = .ok (.ireturn, 1) := by decide +kernel
theorem dX5_count_98 : decode cX5_count 98 = .ok (.iconst (-1), 1) := by decide +kernel
theorem dX5_count_99 : decode cX5_count 99 = .ok (.ireturn, 1) := by decide +kernel
theorem dX5_sale_0 : decode cX5_sale 0 = .ok (.aload_n 0, 1) := by decide +kernel
theorem dX5_sale_1 : decode cX5_sale 1 = .ok (.iload_n 1, 1) := by decide +kernel
theorem dX5_sale_2 : decode cX5_sale 2 = .ok (.invokevirtual 88, 3) := by decide +kernel
theorem dX5_sale_5 : decode cX5_sale 5 = .ok (.ifCond .eq 20, 3) := by decide +kernel
theorem dX5_sale_8 : decode cX5_sale 8 = .ok (.iload_n 2, 1) := by decide +kernel
theorem dX5_sale_9 : decode cX5_sale 9 = .ok (.invokestatic 51, 3) := by decide +kernel
theorem dX5_sale_12 : decode cX5_sale 12 = .ok (.ifCond .eq 13, 3) := by decide +kernel
theorem dX5_sale_15 : decode cX5_sale 15 = .ok (.iload_n 3, 1) := by decide +kernel
theorem dX5_sale_16 : decode cX5_sale 16 = .ok (.sipush 999, 3) := by decide +kernel
theorem dX5_sale_19 : decode cX5_sale 19 = .ok (.invokestatic 55, 3) := by decide +kernel
theorem dX5_sale_22 : decode cX5_sale 22 = .ok (.ifCond .ne 5, 3) := by decide +kernel
theorem dX5_sale_25 : decode cX5_sale 25 = .ok (.iconst (-1), 1) := by decide +kernel
theorem dX5_sale_26 : decode cX5_sale 26 = .ok (.ireturn, 1) := by decide +kernel
theorem dX5_sale_27 : decode cX5_sale 27 = .ok (.aload_n 0, 1) := by decide +kernel
theorem dX5_sale_28 : decode cX5_sale 28 = .ok (.getfield 10, 3) := by decide +kernel
theorem dX5_sale_31 : decode cX5_sale 31 = .ok (.getfield 70, 3) := by decide +kernel
theorem dX5_sale_34 : decode cX5_sale 34 = .ok (.getfield 116, 3) := by decide +kernel
theorem dX5_sale_37 : decode cX5_sale 37 = .ok (.iload_n 1, 1) := by decide +kernel
theorem dX5_sale_38 : decode cX5_sale 38 = .ok (.iaload, 1) := by decide +kernel
theorem dX5_sale_39 : decode cX5_sale 39 = .ok (.iload_n 2, 1) := by decide +kernel
theorem dX5_sale_40 : decode cX5_sale 40 = .ok (.if_icmp .eq 16, 3) := by decide +kernel
theorem dX5_sale_43 : decode cX5_sale 43 = .ok (.aload_n 0, 1) := by decide +kernel
theorem dX5_sale_44 : decode cX5_sale 44 = .ok (.getfield 10, 3) := by decide +kernel
theorem dX5_sale_47 : decode cX5_sale 47 = .ok (.getfield 59, 3) := by decide +kernel
theorem dX5_sale_50 : decode cX5_sale 50 = .ok (.iload_n 2, 1) := by decide +kernel
theorem dX5_sale_51 : decode cX5_sale 51 = .ok (.iaload, 1) := by decide +kernel
theorem dX5_sale_52 : decode cX5_sale 52 = .ok (.iload_n 3, 1) := by decide +kernel
theorem dX5_sale_53 : decode cX5_sale 53 = .ok (.if_icmp .ge 6, 3) := by decide +kernel
theorem dX5_sale_56 : decode cX5_sale 56 = .ok (.bipush (-2), 2) := by decide +kernel
theorem dX5_sale_58 : decode cX5_sale 58 = .ok (.ireturn, 1) := by decide +kernel
theorem dX5_sale_59 : decode cX5_sale 59 = .ok (.aload_n 0, 1) := by decide +kernel
theorem dX5_sale_60 : decode cX5_sale 60 = .ok (.getfield 10, 3) := by decide +kernel
theorem dX5_sale_63 : decode cX5_sale 63 = .ok (.iload_n 1, 1) := by decide +kernel
theorem dX5_sale_64 : decode cX5_sale 64 = .ok (.iload_n 2, 1) := by decide +kernel
theorem dX5_sale_65 : decode cX5_sale 65 = .ok (.iload_n 3, 1) := by decide +kernel
theorem dX5_sale_66 : decode cX5_sale 66 = .ok (.invokevirtual 163, 3) := by decide +kernel
theorem dX5_sale_69 : decode cX5_sale 69 = .ok (.ireturn, 1) := by decide +kernel
theorem dX5_swap_0 : decode cX5_swap 0 = .ok (.aload_n 0, 1) := by decide +kernel
theorem dX5_swap_1 : decode cX5_swap 1 = .ok (.iload_n 1, 1) := by decide +kernel
theorem dX5_swap_2 : decode cX5_swap 2 = .ok (.invokevirtual 88, 3) := by decide +kernel
theorem dX5_swap_5 : decode cX5_swap 5 = .ok (.ifCond .eq 11, 3) := by decide +kernel
theorem dX5_swap_8 : decode cX5_swap 8 = .ok (.aload_n 0, 1) := by decide +kernel
theorem dX5_swap_9 : decode cX5_swap 9 = .ok (.iload_n 2, 1) := by decide +kernel
theorem dX5_swap_10 : decode cX5_swap 10 = .ok (.invokevirtual 88, 3) := by decide +kernel
theorem dX5_swap_13 : decode cX5_swap 13 = .ok (.ifCond .ne 5, 3) := by decide +kernel
theorem dX5_swap_16 : decode cX5_swap 16 = .ok (.iconst (-1), 1) := by decide +kernel
theorem dX5_swap_17 : decode cX5_swap 17 = .ok (.ireturn, 1) := by decide +kernel
theorem dX5_swap_18 : decode cX5_swap 18 = .ok (.aload_n 0, 1) := by decide +kernel
theorem dX5_swap_19 : decode cX5_swap 19 = .ok (.getfield 10, 3) := by decide +kernel
theorem dX5_swap_22 : decode cX5_swap 22 = .ok (.getfield 70, 3) := by decide +kernel
theorem dX5_swap_25 : decode cX5_swap 25 = .ok (.getfield 116, 3) := by decide +kernel
theorem dX5_swap_28 : decode cX5_swap 28 = .ok (.iload_n 1, 1) := by decide +kernel
theorem dX5_swap_29 : decode cX5_swap 29 = .ok (.iaload, 1) := by decide +kernel
theorem dX5_swap_30 : decode cX5_swap 30 = .ok (.aload_n 0, 1) := by decide +kernel
theorem dX5_swap_31 : decode cX5_swap 31 = .ok (.getfield 10, 3) := by decide +kernel
theorem dX5_swap_34 : decode cX5_swap 34 = .ok (.getfield 70, 3) := by decide +kernel
theorem dX5_swap_37 : decode cX5_swap 37 = .ok (.getfield 116, 3) := by decide +kernel
theorem dX5_swap_40 : decode cX5_swap 40 = .ok (.iload_n 2, 1) := by decide +kernel
theorem dX5_swap_41 : decode cX5_swap 41 = .ok (.iaload, 1) := by decide +kernel
theorem dX5_swap_42 : decode cX5_swap 42 = .ok (.if_icmp .ne 6, 3) := by decide +kernel
theorem dX5_swap_45 : decode cX5_swap 45 = .ok (.bipush (-2), 2) := by decide +kernel
theorem dX5_swap_47 : decode cX5_swap 47 = .ok (.ireturn, 1) := by decide +kernel
theorem dX5_swap_48 : decode cX5_swap 48 = .ok (.aload_n 0, 1) := by decide +kernel
theorem dX5_swap_49 : decode cX5_swap 49 = .ok (.getfield 10, 3) := by decide +kernel
theorem dX5_swap_52 : decode cX5_swap 52 = .ok (.dup, 1) := by decide +kernel
theorem dX5_swap_53 : decode cX5_swap 53 = .ok (.getfield 160, 3) := by decide +kernel
theorem dX5_swap_56 : decode cX5_swap 56 = .ok (.iconst 2, 1) := by decide +kernel
theorem dX5_swap_57 : decode cX5_swap 57 = .ok (.iadd, 1) := by decide +kernel
theorem dX5_swap_58 : decode cX5_swap 58 = .ok (.putfield 160, 3) := by decide +kernel
theorem dX5_swap_61 : decode cX5_swap 61 = .ok (.aload_n 0, 1) := by decide +kernel
theorem dX5_swap_62 : decode cX5_swap 62 = .ok (.getfield 10, 3) := by decide +kernel
theorem dX5_swap_65 : decode cX5_swap 65 = .ok (.getfield 70, 3) := by decide +kernel
theorem dX5_swap_68 : decode cX5_swap 68 = .ok (.iload_n 1, 1) := by decide +kernel
theorem dX5_swap_69 : decode cX5_swap 69 = .ok (.iload_n 2, 1) := by decide +kernel
theorem dX5_swap_70 : decode cX5_swap 70 = .ok (.invokevirtual 167, 3) := by decide +kernel
theorem dX5_swap_73 : decode cX5_swap 73 = .ok (.ireturn, 1) := by decide +kernel
theorem dX5_give_0 : decode cX5_give 0 = .ok (.aload_n 0, 1) := by decide +kernel
theorem dX5_give_1 : decode cX5_give 1 = .ok (.iload_n 1, 1) := by decide +kernel
theorem dX5_give_2 : decode cX5_give 2 = .ok (.invokevirtual 88, 3) := by decide +kernel
theorem dX5_give_5 : decode cX5_give 5 = .ok (.ifCond .ne 5, 3) := by decide +kernel
theorem dX5_give_8 : decode cX5_give 8 = .ok (.iconst (-1), 1) := by decide +kernel
theorem dX5_give_9 : decode cX5_give 9 = .ok (.ireturn, 1) := by decide +kernel
theorem dX5_give_10 : decode cX5_give 10 = .ok (.aload_n 0, 1) := by decide +kernel
theorem dX5_give_11 : decode cX5_give 11 = .ok (.getfield 10, 3) := by decide +kernel
theorem dX5_give_14 : decode cX5_give 14 = .ok (.getfield 70, 3) := by decide +kernel
theorem dX5_give_17 : decode cX5_give 17 = .ok (.getfield 116, 3) := by decide +kernel
theorem dX5_give_20 : decode cX5_give 20 = .ok (.iload_n 1, 1) := by decide +kernel
theorem dX5_give_21 : decode cX5_give 21 = .ok (.iaload, 1) := by decide +kernel
theorem dX5_give_22 : decode cX5_give 22 = .ok (.bipush 6, 2) := by decide +kernel
theorem dX5_give_24 : decode cX5_give 24 = .ok (.if_icmp .ne 6, 3) := by decide +kernel
theorem dX5_give_27 : decode cX5_give 27 = .ok (.bipush (-2), 2) := by decide +kernel
theorem dX5_give_29 : decode cX5_give 29 = .ok (.ireturn, 1) := by decide +kernel
theorem dX5_give_30 : decode cX5_give 30 = .ok (.aload_n 0, 1) := by decide +kernel
theorem dX5_give_31 : decode cX5_give 31 = .ok (.getfield 10, 3) := by decide +kernel
theorem dX5_give_34 : decode cX5_give 34 = .ok (.dup, 1) := by decide +kernel
theorem dX5_give_35 : decode cX5_give 35 = .ok (.getfield 160, 3) := by decide +kernel
theorem dX5_give_38 : decode cX5_give 38 = .ok (.iconst 1, 1) := by decide +kernel
theorem dX5_give_39 : decode cX5_give 39 = .ok (.iadd, 1) := by decide +kernel
theorem dX5_give_40 : decode cX5_give 40 = .ok (.putfield 160, 3) := by decide +kernel
theorem dX5_give_43 : decode cX5_give 43 = .ok (.aload_n 0, 1) := by decide +kernel
theorem dX5_give_44 : decode cX5_give 44 = .ok (.getfield 10, 3) := by decide +kernel
theorem dX5_give_47 : decode cX5_give 47 = .ok (.getfield 70, 3) := by decide +kernel
theorem dX5_give_50 : decode cX5_give 50 = .ok (.iload_n 1, 1) := by decide +kernel
theorem dX5_give_51 : decode cX5_give 51 = .ok (.bipush 6, 2) := by decide +kernel
theorem dX5_give_53 : decode cX5_give 53 = .ok (.invokevirtual 170, 3) := by decide +kernel
theorem dX5_give_56 : decode cX5_give 56 = .ok (.ireturn, 1) := by decide +kernel
theorem dX5_wed_0 : decode cX5_wed 0 = .ok (.iload_n 1, 1) := by decide +kernel
theorem dX5_wed_1 : decode cX5_wed 1 = .ok (.invokestatic 51, 3) := by decide +kernel
theorem dX5_wed_4 : decode cX5_wed 4 = .ok (.ifCond .eq 15, 3) := by decide +kernel
theorem dX5_wed_7 : decode cX5_wed 7 = .ok (.iload_n 2, 1) := by decide +kernel
theorem dX5_wed_8 : decode cX5_wed 8 = .ok (.invokestatic 51, 3) := by decide +kernel
theorem dX5_wed_11 : decode cX5_wed 11 = .ok (.ifCond .eq 8, 3) := by decide +kernel
theorem dX5_wed_14 : decode cX5_wed 14 = .ok (.iload_n 1, 1) := by decide +kernel
theorem dX5_wed_15 : decode cX5_wed 15 = .ok (.iload_n 2, 1) := by decide +kernel
theorem dX5_wed_16 : decode cX5_wed 16 = .ok (.if_icmp .ne 5, 3) := by decide +kernel
theorem dX5_wed_19 : decode cX5_wed 19 = .ok (.iconst (-1), 1) := by decide +kernel
theorem dX5_wed_20 : decode cX5_wed 20 = .ok (.ireturn, 1) := by decide +kernel
theorem dX5_wed_21 : decode cX5_wed 21 = .ok (.aload_n 0, 1) := by decide +kernel
theorem dX5_wed_22 : decode cX5_wed 22 = .ok (.getfield 10, 3) := by decide +kernel
theorem dX5_wed_25 : decode cX5_wed 25 = .ok (.getfield 59, 3) := by decide +kernel
theorem dX5_wed_28 : decode cX5_wed 28 = .ok (.iload_n 1, 1) := by decide +kernel
theorem dX5_wed_29 : decode cX5_wed 29 = .ok (.sipush 9999, 3) := by decide +kernel
theorem dX5_wed_32 : decode cX5_wed 32 = .ok (.aload_n 0, 1) := by decide +kernel
theorem dX5_wed_33 : decode cX5_wed 33 = .ok (.getfield 10, 3) := by decide +kernel
theorem dX5_wed_36 : decode cX5_wed 36 = .ok (.getfield 59, 3) := by decide +kernel
theorem dX5_wed_39 : decode cX5_wed 39 = .ok (.iload_n 1, 1) := by decide +kernel
theorem dX5_wed_40 : decode cX5_wed 40 = .ok (.iaload, 1) := by decide +kernel
theorem dX5_wed_41 : decode cX5_wed 41 = .ok (.aload_n 0, 1) := by decide +kernel
theorem dX5_wed_42 : decode cX5_wed 42 = .ok (.getfield 10, 3) := by decide +kernel
theorem dX5_wed_45 : decode cX5_wed 45 = .ok (.getfield 59, 3) := by decide +kernel
theorem dX5_wed_48 : decode cX5_wed 48 = .ok (.iload_n 2, 1) := by decide +kernel
theorem dX5_wed_49 : decode cX5_wed 49 = .ok (.iaload, 1) := by decide +kernel
theorem dX5_wed_50 : decode cX5_wed 50 = .ok (.iadd, 1) := by decide +kernel
theorem dX5_wed_51 : decode cX5_wed 51 = .ok (.invokestatic 173, 3) := by decide +kernel
theorem dX5_wed_54 : decode cX5_wed 54 = .ok (.iastore, 1) := by decide +kernel
theorem dX5_wed_55 : decode cX5_wed 55 = .ok (.aload_n 0, 1) := by decide +kernel
theorem dX5_wed_56 : decode cX5_wed 56 = .ok (.getfield 10, 3) := by decide +kernel
theorem dX5_wed_59 : decode cX5_wed 59 = .ok (.getfield 59, 3) := by decide +kernel
theorem dX5_wed_62 : decode cX5_wed 62 = .ok (.iload_n 2, 1) := by decide +kernel
theorem dX5_wed_63 : decode cX5_wed 63 = .ok (.iconst 0, 1) := by decide +kernel
theorem dX5_wed_64 : decode cX5_wed 64 = .ok (.iastore, 1) := by decide +kernel
theorem dX5_wed_65 : decode cX5_wed 65 = .ok (.aload_n 0, 1) := by decide +kernel
theorem dX5_wed_66 : decode cX5_wed 66 = .ok (.getfield 10, 3) := by decide +kernel
theorem dX5_wed_69 : decode cX5_wed 69 = .ok (.getfield 70, 3) := by decide +kernel
theorem dX5_wed_72 : decode cX5_wed 72 = .ok (.iload_n 1, 1) := by decide +kernel
theorem dX5_wed_73 : decode cX5_wed 73 = .ok (.iload_n 2, 1) := by decide +kernel
theorem dX5_wed_74 : decode cX5_wed 74 = .ok (.invokevirtual 178, 3) := by decide +kernel
theorem dX5_wed_77 : decode cX5_wed 77 = .ok (.ireturn, 1) := by decide +kernel
theorem dX5_part_0 : decode cX5_part 0 = .ok (.aload_n 0, 1) := by decide +kernel
theorem dX5_part_1 : decode cX5_part 1 = .ok (.iload_n 1, 1) := by decide +kernel
theorem dX5_part_2 : decode cX5_part 2 = .ok (.invokevirtual 88, 3) := by decide +kernel
theorem dX5_part_5 : decode cX5_part 5 = .ok (.ifCond .eq 23, 3) := by decide +kernel
theorem dX5_part_8 : decode cX5_part 8 = .ok (.iload_n 2, 1) := by decide +kernel
theorem dX5_part_9 : decode cX5_part 9 = .ok (.ifCond .lt 19, 3) := by decide +kernel
theorem dX5_part_12 : decode cX5_part 12 = .ok (.iload_n 2, 1) := by decide +kernel
theorem dX5_part_13 : decode cX5_part 13 = .ok (.iconst 1, 1) := by decide +kernel
theorem dX5_part_14 : decode cX5_part 14 = .ok (.aload_n 0, 1) := by decide +kernel
theorem dX5_part_15 : decode cX5_part 15 = .ok (.getfield 10, 3) := by decide +kernel
theorem dX5_part_18 : decode cX5_part 18 = .ok (.getfield 70, 3) := by decide +kernel
theorem dX5_part_21 : decode cX5_part 21 = .ok (.getfield 97, 3) := by decide +kernel
theorem dX5_part_24 : decode cX5_part 24 = .ok (.ishl, 1) := by decide +kernel
theorem dX5_part_25 : decode cX5_part 25 = .ok (.if_icmp .lt 5, 3) := by decide +kernel
theorem dX5_part_28 : decode cX5_part 28 = .ok (.iconst (-1), 1) := by decide +kernel
theorem dX5_part_29 : decode cX5_part 29 = .ok (.ireturn, 1) := by decide +kernel
theorem dX5_part_30 : decode cX5_part 30 = .ok (.aload_n 0, 1) := by decide +kernel
theorem dX5_part_31 : decode cX5_part 31 = .ok (.getfield 10, 3) := by decide +kernel
theorem dX5_part_34 : decode cX5_part 34 = .ok (.getfield 70, 3) := by decide +kernel
theorem dX5_part_37 : decode cX5_part 37 = .ok (.getfield 80, 3) := by decide +kernel
theorem dX5_part_40 : decode cX5_part 40 = .ok (.bipush 8, 2) := by decide +kernel
theorem dX5_part_42 : decode cX5_part 42 = .ok (.if_icmp .lt 6, 3) := by decide +kernel
theorem dX5_part_45 : decode cX5_part 45 = .ok (.bipush (-3), 2) := by decide +kernel
theorem dX5_part_47 : decode cX5_part 47 = .ok (.ireturn, 1) := by decide +kernel
theorem dX5_part_48 : decode cX5_part 48 = .ok (.aload_n 0, 1) := by decide +kernel
theorem dX5_part_49 : decode cX5_part 49 = .ok (.getfield 10, 3) := by decide +kernel
theorem dX5_part_52 : decode cX5_part 52 = .ok (.iload_n 1, 1) := by decide +kernel
theorem dX5_part_53 : decode cX5_part 53 = .ok (.iload_n 2, 1) := by decide +kernel
theorem dX5_part_54 : decode cX5_part 54 = .ok (.invokevirtual 181, 3) := by decide +kernel
theorem dX5_part_57 : decode cX5_part 57 = .ok (.ireturn, 1) := by decide +kernel
theorem dX5_gain_0 : decode cX5_gain 0 = .ok (.aload_n 0, 1) := by decide +kernel
theorem dX5_gain_1 : decode cX5_gain 1 = .ok (.iload_n 1, 1) := by decide +kernel
theorem dX5_gain_2 : decode cX5_gain 2 = .ok (.invokevirtual 88, 3) := by decide +kernel
theorem dX5_gain_5 : decode cX5_gain 5 = .ok (.ifCond .eq 18, 3) := by decide +kernel
theorem dX5_gain_8 : decode cX5_gain 8 = .ok (.iload_n 2, 1) := by decide +kernel
theorem dX5_gain_9 : decode cX5_gain 9 = .ok (.invokestatic 51, 3) := by decide +kernel
theorem dX5_gain_12 : decode cX5_gain 12 = .ok (.ifCond .eq 11, 3) := by decide +kernel
theorem dX5_gain_15 : decode cX5_gain 15 = .ok (.iload_n 3, 1) := by decide +kernel
theorem dX5_gain_16 : decode cX5_gain 16 = .ok (.iconst 1, 1) := by decide +kernel
theorem dX5_gain_17 : decode cX5_gain 17 = .ok (.invokestatic 55, 3) := by decide +kernel
theorem dX5_gain_20 : decode cX5_gain 20 = .ok (.ifCond .ne 6, 3) := by decide +kernel
theorem dX5_gain_23 : decode cX5_gain 23 = .ok (.ldc 123, 2) := by decide +kernel
theorem dX5_gain_25 : decode cX5_gain 25 = .ok (.ireturn, 1) := by decide +kernel
theorem dX5_gain_26 : decode cX5_gain 26 = .ok (.aload_n 0, 1) := by decide +kernel
theorem dX5_gain_27 : decode cX5_gain 27 = .ok (.getfield 10, 3) := by decide +kernel
theorem dX5_gain_30 : decode cX5_gain 30 = .ok (.getfield 70, 3) := by decide +kernel
theorem dX5_gain_33 : decode cX5_gain 33 = .ok (.getfield 116, 3) := by decide +kernel
theorem dX5_gain_36 : decode cX5_gain 36 = .ok (.iload_n 1, 1) := by decide +kernel
theorem dX5_gain_37 : decode cX5_gain 37 = .ok (.iaload, 1) := by decide +kernel
theorem dX5_gain_38 : decode cX5_gain 38 = .ok (.istore 4, 2) := by decide +kernel
theorem dX5_gain_40 : decode cX5_gain 40 = .ok (.iload 4, 2) := by decide +kernel
theorem dX5_gain_42 : decode cX5_gain 42 = .ok (.iload_n 2, 1) := by decide +kernel
theorem dX5_gain_43 : decode cX5_gain 43 = .ok (.if_icmp .ne 6, 3) := by decide +kernel
theorem dX5_gain_46 : decode cX5_gain 46 = .ok (.ldc 184, 2) := by decide +kernel
theorem dX5_gain_48 : decode cX5_gain 48 = .ok (.ireturn, 1) := by decide +kernel
theorem dX5_gain_49 : decode cX5_gain 49 = .ok (.aload_n 0, 1) := by decide +kernel
theorem dX5_gain_50 : decode cX5_gain 50 = .ok (.iload_n 1, 1) := by decide +kernel
theorem dX5_gain_51 : decode cX5_gain 51 = .ok (.iload_n 2, 1) := by decide +kernel
theorem dX5_gain_52 : decode cX5_gain 52 = .ok (.invokevirtual 185, 3) := by decide +kernel
theorem dX5_gain_55 : decode cX5_gain 55 = .ok (.aload_n 0, 1) := by decide +kernel
theorem dX5_gain_56 : decode cX5_gain 56 = .ok (.iload_n 3, 1) := by decide +kernel
theorem dX5_gain_57 : decode cX5_gain 57 = .ok (.ifCond .ne 8, 3) := by decide +kernel
theorem dX5_gain_60 : decode cX5_gain 60 = .ok (.iload 4, 2) := by decide +kernel
theorem dX5_gain_62 : decode cX5_gain 62 = .ok (.goto 4, 3) := by decide +kernel
theorem dX5_gain_65 : decode cX5_gain 65 = .ok (.iload_n 2, 1) := by decide +kernel
theorem dX5_gain_66 : decode cX5_gain 66 = .ok (.invokevirtual 189, 3) := by decide +kernel
theorem dX5_gain_69 : decode cX5_gain 69 = .ok (.ireturn, 1) := by decide +kernel
theorem dX5_agreed_0 : decode cX5_agreed 0 = .ok (.aload_n 0, 1) := by decide +kernel
theorem dX5_agreed_1 : decode cX5_agreed 1 = .ok (.iload_n 1, 1) := by decide +kernel
theorem dX5_agreed_2 : decode cX5_agreed 2 = .ok (.invokevirtual 88, 3) := by decide +kernel
theorem dX5_agreed_5 : decode cX5_agreed 5 = .ok (.ifCond .eq 10, 3) := by decide +kernel
theorem dX5_agreed_8 : decode cX5_agreed 8 = .ok (.iload_n 2, 1) := by decide +kernel
theorem dX5_agreed_9 : decode cX5_agreed 9 = .ok (.invokestatic 51, 3) := by decide +kernel
theorem dX5_agreed_12 : decode cX5_agreed 12 = .ok (.ifCond .ne 5, 3) := by decide +kernel
theorem dX5_agreed_15 : decode cX5_agreed 15 = .ok (.iconst (-1), 1) := by decide +kernel
theorem dX5_agreed_16 : decode cX5_agreed 16 = .ok (.ireturn, 1) := by decide +kernel
theorem dX5_agreed_17 : decode cX5_agreed 17 = .ok (.aload_n 0, 1) := by decide +kernel
theorem dX5_agreed_18 : decode cX5_agreed 18 = .ok (.getfield 10, 3) := by decide +kernel
theorem dX5_agreed_21 : decode cX5_agreed 21 = .ok (.getfield 70, 3) := by decide +kernel
theorem dX5_agreed_24 : decode cX5_agreed 24 = .ok (.getfield 116, 3) := by decide +kernel
theorem dX5_agreed_27 : decode cX5_agreed 27 = .ok (.iload_n 1, 1) := by decide +kernel
theorem dX5_agreed_28 : decode cX5_agreed 28 = .ok (.iaload, 1) := by decide +kernel
theorem dX5_agreed_29 : decode cX5_agreed 29 = .ok (.istore_n 3, 1) := by decide +kernel
theorem dX5_agreed_30 : decode cX5_agreed 30 = .ok (.iload_n 3, 1) := by decide +kernel
theorem dX5_agreed_31 : decode cX5_agreed 31 = .ok (.bipush 6, 2) := by decide +kernel
theorem dX5_agreed_33 : decode cX5_agreed 33 = .ok (.if_icmp .eq 8, 3) := by decide +kernel
theorem dX5_agreed_36 : decode cX5_agreed 36 = .ok (.iload_n 3, 1) := by decide +kernel
theorem dX5_agreed_37 : decode cX5_agreed 37 = .ok (.iload_n 2, 1) := by decide +kernel
theorem dX5_agreed_38 : decode cX5_agreed 38 = .ok (.if_icmp .ne 6, 3) := by decide +kernel
theorem dX5_agreed_41 : decode cX5_agreed 41 = .ok (.bipush (-2), 2) := by decide +kernel
theorem dX5_agreed_43 : decode cX5_agreed 43 = .ok (.ireturn, 1) := by decide +kernel
theorem dX5_agreed_44 : decode cX5_agreed 44 = .ok (.aload_n 0, 1) := by decide +kernel
theorem dX5_agreed_45 : decode cX5_agreed 45 = .ok (.iload_n 1, 1) := by decide +kernel
theorem dX5_agreed_46 : decode cX5_agreed 46 = .ok (.iload_n 2, 1) := by decide +kernel
theorem dX5_agreed_47 : decode cX5_agreed 47 = .ok (.invokevirtual 185, 3) := by decide +kernel
theorem dX5_agreed_50 : decode cX5_agreed 50 = .ok (.iconst 0, 1) := by decide +kernel
theorem dX5_agreed_51 : decode cX5_agreed 51 = .ok (.iconst 1, 1) := by decide +kernel
theorem dX5_agreed_52 : decode cX5_agreed 52 = .ok (.aload_n 0, 1) := by decide +kernel
theorem dX5_agreed_53 : decode cX5_agreed 53 = .ok (.iload_n 3, 1) := by decide +kernel
theorem dX5_agreed_54 : decode cX5_agreed 54 = .ok (.invokevirtual 189, 3) := by decide +kernel
theorem dX5_agreed_57 : decode cX5_agreed 57 = .ok (.isub, 1) := by decide +kernel
theorem dX5_agreed_58 : decode cX5_agreed 58 = .ok (.invokestatic 192, 3) := by decide +kernel
theorem dX5_agreed_61 : decode cX5_agreed 61 = .ok (.istore 4, 2) := by decide +kernel
theorem dX5_agreed_63 : decode cX5_agreed 63 = .ok (.iload 4, 2) := by decide +kernel
theorem dX5_agreed_65 : decode cX5_agreed 65 = .ok (.sipush 999, 3) := by decide +kernel
theorem dX5_agreed_68 : decode cX5_agreed 68 = .ok (.if_icmp .gt 31, 3) := by decide +kernel
theorem dX5_agreed_71 : decode cX5_agreed 71 = .ok (.iload 4, 2) := by decide +kernel
theorem dX5_agreed_73 : decode cX5_agreed 73 = .ok (.aload_n 0, 1) := by decide +kernel
theorem dX5_agreed_74 : decode cX5_agreed 74 = .ok (.getfield 10, 3) := by decide +kernel
theorem dX5_agreed_77 : decode cX5_agreed 77 = .ok (.getfield 59, 3) := by decide +kernel
theorem dX5_agreed_80 : decode cX5_agreed 80 = .ok (.iload_n 2, 1) := by decide +kernel
theorem dX5_agreed_81 : decode cX5_agreed 81 = .ok (.iaload, 1) := by decide +kernel
theorem dX5_agreed_82 : decode cX5_agreed 82 = .ok (.if_icmp .gt 17, 3) := by decide +kernel
theorem dX5_agreed_85 : decode cX5_agreed 85 = .ok (.aload_n 0, 1) := by decide +kernel
theorem dX5_agreed_86 : decode cX5_agreed 86 = .ok (.iload_n 2, 1) := by decide +kernel
theorem dX5_agreed_87 : decode cX5_agreed 87 = .ok (.invokevirtual 189, 3) := by decide +kernel
theorem dX5_agreed_90 : decode cX5_agreed 90 = .ok (.iload 4, 2) := by decide +kernel
theorem dX5_agreed_92 : decode cX5_agreed 92 = .ok (.if_icmp .le 7, 3) := by decide +kernel
theorem dX5_agreed_95 : decode cX5_agreed 95 = .ok (.iconst 1, 1) := by decide +kernel
theorem dX5_agreed_96 : decode cX5_agreed 96 = .ok (.goto 4, 3) := by decide +kernel
theorem dX5_agreed_99 : decode cX5_agreed 99 = .ok (.iconst 0, 1) := by decide +kernel
theorem dX5_agreed_100 : decode cX5_agreed 100 = .ok (.istore 5, 2) := by decide +kernel
theorem dX5_agreed_102 : decode cX5_agreed 102 = .ok (.iload 5, 2) := by decide +kernel
theorem dX5_agreed_104 : decode cX5_agreed 104 = .ok (.ifCond .eq 8, 3) := by decide +kernel
theorem dX5_agreed_107 : decode cX5_agreed 107 = .ok (.iload 4, 2) := by decide +kernel
theorem dX5_agreed_109 : decode cX5_agreed 109 = .ok (.goto 5, 3) := by decide +kernel
theorem dX5_agreed_112 : decode cX5_agreed 112 = .ok (.bipush (-4), 2) := by decide +kernel
theorem dX5_agreed_114 : decode cX5_agreed 114 = .ok (.ireturn, 1) := by decide +kernel
theorem dX5_rest_0 : decode cX5_rest 0 = .ok (.iload_n 1, 1) := by decide +kernel
theorem dX5_rest_1 : decode cX5_rest 1 = .ok (.iconst 1, 1) := by decide +kernel
theorem dX5_rest_2 : decode cX5_rest 2 = .ok (.if_icmp .lt 9, 3) := by decide +kernel
theorem dX5_rest_5 : decode cX5_rest 5 = .ok (.iload_n 1, 1) := by decide +kernel
theorem dX5_rest_6 : decode cX5_rest 6 = .ok (.bipush 60, 2) := by decide +kernel
theorem dX5_rest_8 : decode cX5_rest 8 = .ok (.if_icmp .le 5, 3) := by decide +kernel
theorem dX5_rest_11 : decode cX5_rest 11 = .ok (.iconst (-1), 1) := by decide +kernel
theorem dX5_rest_12 : decode cX5_rest 12 = .ok (.ireturn, 1) := by decide +kernel
theorem dX5_rest_13 : decode cX5_rest 13 = .ok (.iconst 0, 1) := by decide +kernel
theorem dX5_rest_14 : decode cX5_rest 14 = .ok (.istore_n 2, 1) := by decide +kernel
theorem dX5_rest_15 : decode cX5_rest 15 = .ok (.iload_n 2, 1) := by decide +kernel
theorem dX5_rest_16 : decode cX5_rest 16 = .ok (.iload_n 1, 1) := by decide +kernel
theorem dX5_rest_17 : decode cX5_rest 17 = .ok (.if_icmp .ge 16, 3) := by decide +kernel
theorem dX5_rest_20 : decode cX5_rest 20 = .ok (.aload_n 0, 1) := by decide +kernel
theorem dX5_rest_21 : decode cX5_rest 21 = .ok (.invokevirtual 195, 3) := by decide +kernel
theorem dX5_rest_24 : decode cX5_rest 24 = .ok (.ifCond .eq 9, 3) := by decide +kernel
theorem dX5_rest_27 : decode cX5_rest 27 = .ok (.iinc 2 1, 3) := by decide +kernel
theorem dX5_rest_30 : decode cX5_rest 30 = .ok (.goto (-15), 3) := by decide +kernel
theorem dX5_rest_33 : decode cX5_rest 33 = .ok (.iload_n 2, 1) := by decide +kernel
theorem dX5_rest_34 : decode cX5_rest 34 = .ok (.ireturn, 1) := by decide +kernel
theorem dX5_group_0 : decode cX5_group 0 = .ok (.iload_n 1, 1) := by decide +kernel
theorem dX5_group_1 : decode cX5_group 1 = .ok (.iconst (-1), 1) := by decide +kernel
theorem dX5_group_2 : decode cX5_group 2 = .ok (.if_icmp .ne 14, 3) := by decide +kernel
theorem dX5_group_5 : decode cX5_group 5 = .ok (.aload_n 0, 1) := by decide +kernel
theorem dX5_group_6 : decode cX5_group 6 = .ok (.getfield 10, 3) := by decide +kernel
theorem dX5_group_9 : decode cX5_group 9 = .ok (.getfield 70, 3) := by decide +kernel
theorem dX5_group_12 : decode cX5_group 12 = .ok (.invokevirtual 199, 3) := by decide +kernel
theorem dX5_group_15 : decode cX5_group 15 = .ok (.ireturn, 1) := by decide +kernel
theorem dX5_group_16 : decode cX5_group 16 = .ok (.aload_n 0, 1) := by decide +kernel
theorem dX5_group_17 : decode cX5_group 17 = .ok (.iload_n 1, 1) := by decide +kernel
theorem dX5_group_18 : decode cX5_group 18 = .ok (.invokevirtual 88, 3) := by decide +kernel
theorem dX5_group_21 : decode cX5_group 21 = .ok (.ifCond .eq 17, 3) := by decide +kernel
theorem dX5_group_24 : decode cX5_group 24 = .ok (.aload_n 0, 1) := by decide +kernel
theorem dX5_group_25 : decode cX5_group 25 = .ok (.getfield 10, 3) := by decide +kernel
theorem dX5_group_28 : decode cX5_group 28 = .ok (.getfield 70, 3) := by decide +kernel
theorem dX5_group_31 : decode cX5_group 31 = .ok (.iload_n 1, 1) := by decide +kernel
theorem dX5_group_32 : decode cX5_group 32 = .ok (.invokevirtual 202, 3) := by decide +kernel
theorem dX5_group_35 : decode cX5_group 35 = .ok (.goto 4, 3) := by decide +kernel
theorem dX5_group_38 : decode cX5_group 38 = .ok (.iconst (-1), 1) := by decide +kernel
theorem dX5_group_39 : decode cX5_group 39 = .ok (.ireturn, 1) := by decide +kernel
theorem dX5_never_0 : decode cX5_never 0 = .ok (.aload_n 0, 1) := by decide +kernel
theorem dX5_never_1 : decode cX5_never 1 = .ok (.getfield 10, 3) := by decide +kernel
theorem dX5_never_4 : decode cX5_never 4 = .ok (.getfield 70, 3) := by decide +kernel
theorem dX5_never_7 : decode cX5_never 7 = .ok (.invokevirtual 205, 3) := by decide +kernel
theorem dX5_never_10 : decode cX5_never 10 = .ok (.ireturn, 1) := by decide +kernel
theorem dX5_fewest_0 : decode cX5_fewest 0 = .ok (.iload_n 1, 1) := by decide +kernel
theorem dX5_fewest_1 : decode cX5_fewest 1 = .ok (.iconst (-1), 1) := by decide +kernel
theorem dX5_fewest_2 : decode cX5_fewest 2 = .ok (.if_icmp .lt 8, 3) := by decide +kernel
theorem dX5_fewest_5 : decode cX5_fewest 5 = .ok (.iload_n 1, 1) := by decide +kernel
theorem dX5_fewest_6 : decode cX5_fewest 6 = .ok (.iconst 3, 1) := by decide +kernel
theorem dX5_fewest_7 : decode cX5_fewest 7 = .ok (.if_icmp .lt 5, 3) := by decide +kernel
theorem dX5_fewest_10 : decode cX5_fewest 10 = .ok (.iconst (-1), 1) := by decide +kernel
theorem dX5_fewest_11 : decode cX5_fewest 11 = .ok (.ireturn, 1) := by decide +kernel
theorem dX5_fewest_12 : decode cX5_fewest 12 = .ok (.aload_n 0, 1) := by decide +kernel
theorem dX5_fewest_13 : decode cX5_fewest 13 = .ok (.getfield 33, 3) := by decide +kernel
theorem dX5_fewest_16 : decode cX5_fewest 16 = .ok (.aload_n 0, 1) := by decide +kernel
theorem dX5_fewest_17 : decode cX5_fewest 17 = .ok (.getfield 10, 3) := by decide +kernel
theorem dX5_fewest_20 : decode cX5_fewest 20 = .ok (.getfield 70, 3) := by decide +kernel
theorem dX5_fewest_23 : decode cX5_fewest 23 = .ok (.invokevirtual 208, 3) := by decide +kernel
theorem dX5_fewest_26 : decode cX5_fewest 26 = .ok (.istore_n 2, 1) := by decide +kernel
theorem dX5_fewest_27 : decode cX5_fewest 27 = .ok (.iload_n 1, 1) := by decide +kernel
theorem dX5_fewest_28 : decode cX5_fewest 28 = .ok (.iconst (-1), 1) := by decide +kernel
theorem dX5_fewest_29 : decode cX5_fewest 29 = .ok (.if_icmp .ne 5, 3) := by decide +kernel
theorem dX5_fewest_32 : decode cX5_fewest 32 = .ok (.iload_n 2, 1) := by decide +kernel
theorem dX5_fewest_33 : decode cX5_fewest 33 = .ok (.ireturn, 1) := by decide +kernel
theorem dX5_fewest_34 : decode cX5_fewest 34 = .ok (.iload_n 1, 1) := by decide +kernel
theorem dX5_fewest_35 : decode cX5_fewest 35 = .ok (.iload_n 2, 1) := by decide +kernel
theorem dX5_fewest_36 : decode cX5_fewest 36 = .ok (.if_icmp .ge 15, 3) := by decide +kernel
theorem dX5_fewest_39 : decode cX5_fewest 39 = .ok (.aload_n 0, 1) := by decide +kernel
theorem dX5_fewest_40 : decode cX5_fewest 40 = .ok (.getfield 33, 3) := by decide +kernel
theorem dX5_fewest_43 : decode cX5_fewest 43 = .ok (.getfield 212, 3) := by decide +kernel
theorem dX5_fewest_46 : decode cX5_fewest 46 = .ok (.iload_n 1, 1) := by decide +kernel
theorem dX5_fewest_47 : decode cX5_fewest 47 = .ok (.iaload, 1) := by decide +kernel
theorem dX5_fewest_48 : decode cX5_fewest 48 = .ok (.goto 5, 3) := by decide +kernel
theorem dX5_fewest_51 : decode cX5_fewest 51 = .ok (.bipush (-4), 2) := by decide +kernel
theorem dX5_fewest_53 : decode cX5_fewest 53 = .ok (.ireturn, 1) := by decide +kernel
theorem dX5_best_0 : decode cX5_best 0 = .ok (.iload_n 1, 1) := by decide +kernel
theorem dX5_best_1 : decode cX5_best 1 = .ok (.iconst 1, 1) := by decide +kernel
theorem dX5_best_2 : decode cX5_best 2 = .ok (.if_icmp .lt 20, 3) := by decide +kernel
theorem dX5_best_5 : decode cX5_best 5 = .ok (.iload_n 1, 1) := by decide +kernel
theorem dX5_best_6 : decode cX5_best 6 = .ok (.bipush 9, 2) := by decide +kernel
theorem dX5_best_8 : decode cX5_best 8 = .ok (.if_icmp .gt 14, 3) := by decide +kernel
theorem dX5_best_11 : decode cX5_best 11 = .ok (.iload_n 2, 1) := by decide +kernel
theorem dX5_best_12 : decode cX5_best 12 = .ok (.bipush (-2), 2) := by decide +kernel
theorem dX5_best_14 : decode cX5_best 14 = .ok (.if_icmp .lt 8, 3) := by decide +kernel
theorem dX5_best_17 : decode cX5_best 17 = .ok (.iload_n 2, 1) := by decide +kernel
theorem dX5_best_18 : decode cX5_best 18 = .ok (.iconst 2, 1) := by decide +kernel
theorem dX5_best_19 : decode cX5_best 19 = .ok (.if_icmp .lt 5, 3) := by decide +kernel
theorem dX5_best_22 : decode cX5_best 22 = .ok (.iconst (-1), 1) := by decide +kernel
theorem dX5_best_23 : decode cX5_best 23 = .ok (.ireturn, 1) := by decide +kernel
theorem dX5_best_24 : decode cX5_best 24 = .ok (.aload_n 0, 1) := by decide +kernel
theorem dX5_best_25 : decode cX5_best 25 = .ok (.getfield 33, 3) := by decide +kernel
theorem dX5_best_28 : decode cX5_best 28 = .ok (.aload_n 0, 1) := by decide +kernel
theorem dX5_best_29 : decode cX5_best 29 = .ok (.getfield 10, 3) := by decide +kernel
theorem dX5_best_32 : decode cX5_best 32 = .ok (.getfield 70, 3) := by decide +kernel
theorem dX5_best_35 : decode cX5_best 35 = .ok (.aload_n 0, 1) := by decide +kernel
theorem dX5_best_36 : decode cX5_best 36 = .ok (.getfield 10, 3) := by decide +kernel
theorem dX5_best_39 : decode cX5_best 39 = .ok (.getfield 67, 3) := by decide +kernel
theorem dX5_best_42 : decode cX5_best 42 = .ok (.iload_n 1, 1) := by decide +kernel
theorem dX5_best_43 : decode cX5_best 43 = .ok (.invokevirtual 215, 3) := by decide +kernel
theorem dX5_best_46 : decode cX5_best 46 = .ok (.iload_n 2, 1) := by decide +kernel
theorem dX5_best_47 : decode cX5_best 47 = .ok (.bipush (-2), 2) := by decide +kernel
theorem dX5_best_49 : decode cX5_best 49 = .ok (.if_icmp .ne 11, 3) := by decide +kernel
theorem dX5_best_52 : decode cX5_best 52 = .ok (.aload_n 0, 1) := by decide +kernel
theorem dX5_best_53 : decode cX5_best 53 = .ok (.getfield 33, 3) := by decide +kernel
theorem dX5_best_56 : decode cX5_best 56 = .ok (.getfield 219, 3) := by decide +kernel
theorem dX5_best_59 : decode cX5_best 59 = .ok (.ireturn, 1) := by decide +kernel
theorem dX5_best_60 : decode cX5_best 60 = .ok (.iload_n 2, 1) := by decide +kernel
theorem dX5_best_61 : decode cX5_best 61 = .ok (.iconst (-1), 1) := by decide +kernel
theorem dX5_best_62 : decode cX5_best 62 = .ok (.if_icmp .ne 11, 3) := by decide +kernel
theorem dX5_best_65 : decode cX5_best 65 = .ok (.aload_n 0, 1) := by decide +kernel
theorem dX5_best_66 : decode cX5_best 66 = .ok (.getfield 33, 3) := by decide +kernel
theorem dX5_best_69 : decode cX5_best 69 = .ok (.getfield 222, 3) := by decide +kernel
theorem dX5_best_72 : decode cX5_best 72 = .ok (.ireturn, 1) := by decide +kernel
theorem dX5_best_73 : decode cX5_best 73 = .ok (.iload_n 2, 1) := by decide +kernel
theorem dX5_best_74 : decode cX5_best 74 = .ok (.aload_n 0, 1) := by decide +kernel
theorem dX5_best_75 : decode cX5_best 75 = .ok (.getfield 33, 3) := by decide +kernel
theorem dX5_best_78 : decode cX5_best 78 = .ok (.getfield 222, 3) := by decide +kernel
theorem dX5_best_81 : decode cX5_best 81 = .ok (.if_icmp .ge 15, 3) := by decide +kernel
theorem dX5_best_84 : decode cX5_best 84 = .ok (.aload_n 0, 1) := by decide +kernel
theorem dX5_best_85 : decode cX5_best 85 = .ok (.getfield 33, 3) := by decide +kernel
theorem dX5_best_88 : decode cX5_best 88 = .ok (.getfield 212, 3) := by decide +kernel
theorem dX5_best_91 : decode cX5_best 91 = .ok (.iload_n 2, 1) := by decide +kernel
theorem dX5_best_92 : decode cX5_best 92 = .ok (.iaload, 1) := by decide +kernel
theorem dX5_best_93 : decode cX5_best 93 = .ok (.goto 5, 3) := by decide +kernel
theorem dX5_best_96 : decode cX5_best 96 = .ok (.bipush (-4), 2) := by decide +kernel
theorem dX5_best_98 : decode cX5_best 98 = .ok (.ireturn, 1) := by decide +kernel
theorem dX5_saves_0 : decode cX5_saves 0 = .ok (.iload_n 1, 1) := by decide +kernel
theorem dX5_saves_1 : decode cX5_saves 1 = .ok (.invokestatic 51, 3) := by decide +kernel
theorem dX5_saves_4 : decode cX5_saves 4 = .ok (.ifCond .eq 15, 3) := by decide +kernel
theorem dX5_saves_7 : decode cX5_saves 7 = .ok (.iload_n 2, 1) := by decide +kernel
theorem dX5_saves_8 : decode cX5_saves 8 = .ok (.invokestatic 51, 3) := by decide +kernel
theorem dX5_saves_11 : decode cX5_saves 11 = .ok (.ifCond .eq 8, 3) := by decide +kernel
theorem dX5_saves_14 : decode cX5_saves 14 = .ok (.iload_n 1, 1) := by decide +kernel
theorem dX5_saves_15 : decode cX5_saves 15 = .ok (.iload_n 2, 1) := by decide +kernel
theorem dX5_saves_16 : decode cX5_saves 16 = .ok (.if_icmp .ne 6, 3) := by decide +kernel
theorem dX5_saves_19 : decode cX5_saves 19 = .ok (.ldc 123, 2) := by decide +kernel
theorem dX5_saves_21 : decode cX5_saves 21 = .ok (.ireturn, 1) := by decide +kernel
theorem dX5_saves_22 : decode cX5_saves 22 = .ok (.aload_n 0, 1) := by decide +kernel
theorem dX5_saves_23 : decode cX5_saves 23 = .ok (.getfield 26, 3) := by decide +kernel
theorem dX5_saves_26 : decode cX5_saves 26 = .ok (.aload_n 0, 1) := by decide +kernel
theorem dX5_saves_27 : decode cX5_saves 27 = .ok (.getfield 10, 3) := by decide +kernel
theorem dX5_saves_30 : decode cX5_saves 30 = .ok (.getfield 70, 3) := by decide +kernel
theorem dX5_saves_33 : decode cX5_saves 33 = .ok (.invokevirtual 225, 3) := by decide +kernel
theorem dX5_saves_36 : decode cX5_saves 36 = .ok (.aload_n 0, 1) := by decide +kernel
theorem dX5_saves_37 : decode cX5_saves 37 = .ok (.getfield 26, 3) := by decide +kernel
theorem dX5_saves_40 : decode cX5_saves 40 = .ok (.iload_n 1, 1) := by decide +kernel
theorem dX5_saves_41 : decode cX5_saves 41 = .ok (.iload_n 2, 1) := by decide +kernel
theorem dX5_saves_42 : decode cX5_saves 42 = .ok (.invokevirtual 178, 3) := by decide +kernel
theorem dX5_saves_45 : decode cX5_saves 45 = .ok (.pop, 1) := by decide +kernel
theorem dX5_saves_46 : decode cX5_saves 46 = .ok (.aload_n 0, 1) := by decide +kernel
theorem dX5_saves_47 : decode cX5_saves 47 = .ok (.getfield 10, 3) := by decide +kernel
theorem dX5_saves_50 : decode cX5_saves 50 = .ok (.getfield 70, 3) := by decide +kernel
theorem dX5_saves_53 : decode cX5_saves 53 = .ok (.aload_n 0, 1) := by decide +kernel
theorem dX5_saves_54 : decode cX5_saves 54 = .ok (.getfield 10, 3) := by decide +kernel
theorem dX5_saves_57 : decode cX5_saves 57 = .ok (.getfield 67, 3) := by decide +kernel
theorem dX5_saves_60 : decode cX5_saves 60 = .ok (.invokevirtual 156, 3) := by decide +kernel
theorem dX5_saves_63 : decode cX5_saves 63 = .ok (.aload_n 0, 1) := by decide +kernel
theorem dX5_saves_64 : decode cX5_saves 64 = .ok (.getfield 26, 3) := by decide +kernel
theorem dX5_saves_67 : decode cX5_saves 67 = .ok (.aload_n 0, 1) := by decide +kernel
theorem dX5_saves_68 : decode cX5_saves 68 = .ok (.getfield 10, 3) := by decide +kernel
theorem dX5_saves_71 : decode cX5_saves 71 = .ok (.getfield 67, 3) := by decide +kernel
theorem dX5_saves_74 : decode cX5_saves 74 = .ok (.invokevirtual 156, 3) := by decide +kernel
theorem dX5_saves_77 : decode cX5_saves 77 = .ok (.isub, 1) := by decide +kernel
theorem dX5_saves_78 : decode cX5_saves 78 = .ok (.ireturn, 1) := by decide +kernel
theorem dX5_match_0 : decode cX5_match 0 = .ok (.iconst 1, 1) := by decide +kernel
theorem dX5_match_1 : decode cX5_match 1 = .ok (.istore_n 1, 1) := by decide +kernel
theorem dX5_match_2 : decode cX5_match 2 = .ok (.aload_n 0, 1) := by decide +kernel
theorem dX5_match_3 : decode cX5_match 3 = .ok (.iconst 0, 1) := by decide +kernel
theorem dX5_match_4 : decode cX5_match 4 = .ok (.iconst 1, 1) := by decide +kernel
theorem dX5_match_5 : decode cX5_match 5 = .ok (.invokevirtual 229, 3) := by decide +kernel
theorem dX5_match_8 : decode cX5_match 8 = .ok (.istore_n 2, 1) := by decide +kernel
theorem dX5_match_9 : decode cX5_match 9 = .ok (.iconst 0, 1) := by decide +kernel
theorem dX5_match_10 : decode cX5_match 10 = .ok (.istore_n 3, 1) := by decide +kernel
theorem dX5_match_11 : decode cX5_match 11 = .ok (.iload_n 3, 1) := by decide +kernel
theorem dX5_match_12 : decode cX5_match 12 = .ok (.bipush 6, 2) := by decide +kernel
theorem dX5_match_14 : decode cX5_match 14 = .ok (.if_icmp .ge 53, 3) := by decide +kernel
theorem dX5_match_17 : decode cX5_match 17 = .ok (.iload_n 3, 1) := by decide +kernel
theorem dX5_match_18 : decode cX5_match 18 = .ok (.iconst 1, 1) := by decide +kernel
theorem dX5_match_19 : decode cX5_match 19 = .ok (.iadd, 1) := by decide +kernel
theorem dX5_match_20 : decode cX5_match 20 = .ok (.istore 4, 2) := by decide +kernel
theorem dX5_match_22 : decode cX5_match 22 = .ok (.iload 4, 2) := by decide +kernel
theorem dX5_match_24 : decode cX5_match 24 = .ok (.bipush 6, 2) := by decide +kernel
theorem dX5_match_26 : decode cX5_match 26 = .ok (.if_icmp .ge 35, 3) := by decide +kernel
theorem dX5_match_29 : decode cX5_match 29 = .ok (.aload_n 0, 1) := by decide +kernel
theorem dX5_match_30 : decode cX5_match 30 = .ok (.iload_n 3, 1) := by decide +kernel
theorem dX5_match_31 : decode cX5_match 31 = .ok (.iload 4, 2) := by decide +kernel
theorem dX5_match_33 : decode cX5_match 33 = .ok (.invokevirtual 229, 3) := by decide +kernel
theorem dX5_match_36 : decode cX5_match 36 = .ok (.istore 5, 2) := by decide +kernel
theorem dX5_match_38 : decode cX5_match 38 = .ok (.iload 5, 2) := by decide +kernel
theorem dX5_match_40 : decode cX5_match 40 = .ok (.iload_n 2, 1) := by decide +kernel
theorem dX5_match_41 : decode cX5_match 41 = .ok (.if_icmp .le 14, 3) := by decide +kernel
theorem dX5_match_44 : decode cX5_match 44 = .ok (.iload 5, 2) := by decide +kernel
theorem dX5_match_46 : decode cX5_match 46 = .ok (.istore_n 2, 1) := by decide +kernel
theorem dX5_match_47 : decode cX5_match 47 = .ok (.bipush 10, 2) := by decide +kernel
theorem dX5_match_49 : decode cX5_match 49 = .ok (.iload_n 3, 1) := by decide +kernel
theorem dX5_match_50 : decode cX5_match 50 = .ok (.imul, 1) := by decide +kernel
theorem dX5_match_51 : decode cX5_match 51 = .ok (.iload 4, 2) := by decide +kernel
theorem dX5_match_53 : decode cX5_match 53 = .ok (.iadd, 1) := by decide +kernel
theorem dX5_match_54 : decode cX5_match 54 = .ok (.istore_n 1, 1) := by decide +kernel
theorem dX5_match_55 : decode cX5_match 55 = .ok (.iinc 4 1, 3) := by decide +kernel
theorem dX5_match_58 : decode cX5_match 58 = .ok (.goto (-36), 3) := by decide +kernel
theorem dX5_match_61 : decode cX5_match 61 = .ok (.iinc 3 1, 3) := by decide +kernel
theorem dX5_match_64 : decode cX5_match 64 = .ok (.goto (-53), 3) := by decide +kernel
theorem dX5_match_67 : decode cX5_match 67 = .ok (.iload_n 1, 1) := by decide +kernel
theorem dX5_match_68 : decode cX5_match 68 = .ok (.ireturn, 1) := by decide +kernel
theorem dX5_against_0 : decode cX5_against 0 = .ok (.aload_n 0, 1) := by decide +kernel
theorem dX5_against_1 : decode cX5_against 1 = .ok (.iload_n 1, 1) := by decide +kernel
theorem dX5_against_2 : decode cX5_against 2 = .ok (.invokevirtual 88, 3) := by decide +kernel
theorem dX5_against_5 : decode cX5_against 5 = .ok (.ifCond .eq 17, 3) := by decide +kernel
theorem dX5_against_8 : decode cX5_against 8 = .ok (.iload_n 2, 1) := by decide +kernel
theorem dX5_against_9 : decode cX5_against 9 = .ok (.invokestatic 51, 3) := by decide +kernel
theorem dX5_against_12 : decode cX5_against 12 = .ok (.ifCond .eq 10, 3) := by decide +kernel
theorem dX5_against_15 : decode cX5_against 15 = .ok (.iload_n 3, 1) := by decide +kernel
theorem dX5_against_16 : decode cX5_against 16 = .ok (.invokestatic 51, 3) := by decide +kernel
theorem dX5_against_19 : decode cX5_against 19 = .ok (.ifCond .ne 6, 3) := by decide +kernel
theorem dX5_against_22 : decode cX5_against 22 = .ok (.ldc 123, 2) := by decide +kernel
theorem dX5_against_24 : decode cX5_against 24 = .ok (.ireturn, 1) := by decide +kernel
theorem dX5_against_25 : decode cX5_against 25 = .ok (.aload_n 0, 1) := by decide +kernel
theorem dX5_against_26 : decode cX5_against 26 = .ok (.getfield 10, 3) := by decide +kernel
theorem dX5_against_29 : decode cX5_against 29 = .ok (.getfield 70, 3) := by decide +kernel
theorem dX5_against_32 : decode cX5_against 32 = .ok (.getfield 116, 3) := by decide +kernel
theorem dX5_against_35 : decode cX5_against 35 = .ok (.iload_n 1, 1) := by decide +kernel
theorem dX5_against_36 : decode cX5_against 36 = .ok (.iaload, 1) := by decide +kernel
theorem dX5_against_37 : decode cX5_against 37 = .ok (.istore 4, 2) := by decide +kernel
theorem dX5_against_39 : decode cX5_against 39 = .ok (.iload_n 3, 1) := by decide +kernel
theorem dX5_against_40 : decode cX5_against 40 = .ok (.iload 4, 2) := by decide +kernel
theorem dX5_against_42 : decode cX5_against 42 = .ok (.if_icmp .eq 8, 3) := by decide +kernel
theorem dX5_against_45 : decode cX5_against 45 = .ok (.iload_n 3, 1) := by decide +kernel
theorem dX5_against_46 : decode cX5_against 46 = .ok (.iload_n 2, 1) := by decide +kernel
theorem dX5_against_47 : decode cX5_against 47 = .ok (.if_icmp .ne 6, 3) := by decide +kernel
theorem dX5_against_50 : decode cX5_against 50 = .ok (.ldc 123, 2) := by decide +kernel
theorem dX5_against_52 : decode cX5_against 52 = .ok (.ireturn, 1) := by decide +kernel
theorem dX5_against_53 : decode cX5_against 53 = .ok (.iload 4, 2) := by decide +kernel
theorem dX5_against_55 : decode cX5_against 55 = .ok (.iload_n 2, 1) := by decide +kernel
theorem dX5_against_56 : decode cX5_against 56 = .ok (.if_icmp .ne 6, 3) := by decide +kernel
theorem dX5_against_59 : decode cX5_against 59 = .ok (.ldc 184, 2) := by decide +kernel
theorem dX5_against_61 : decode cX5_against 61 = .ok (.ireturn, 1) := by decide +kernel
theorem dX5_against_62 : decode cX5_against 62 = .ok (.aload_n 0, 1) := by decide +kernel
theorem dX5_against_63 : decode cX5_against 63 = .ok (.iload_n 1, 1) := by decide +kernel
theorem dX5_against_64 : decode cX5_against 64 = .ok (.iload_n 2, 1) := by decide +kernel
theorem dX5_against_65 : decode cX5_against 65 = .ok (.invokevirtual 185, 3) := by decide +kernel
theorem dX5_against_68 : decode cX5_against 68 = .ok (.aload_n 0, 1) := by decide +kernel
theorem dX5_against_69 : decode cX5_against 69 = .ok (.iload_n 3, 1) := by decide +kernel
theorem dX5_against_70 : decode cX5_against 70 = .ok (.invokevirtual 189, 3) := by decide +kernel
theorem dX5_against_73 : decode cX5_against 73 = .ok (.ineg, 1) := by decide +kernel
theorem dX5_against_74 : decode cX5_against 74 = .ok (.ireturn, 1) := by decide +kernel
theorem dX5_pays_0 : decode cX5_pays 0 = .ok (.aload_n 0, 1) := by decide +kernel
theorem dX5_pays_1 : decode cX5_pays 1 = .ok (.iload_n 1, 1) := by decide +kernel
theorem dX5_pays_2 : decode cX5_pays 2 = .ok (.invokevirtual 88, 3) := by decide +kernel
theorem dX5_pays_5 : decode cX5_pays 5 = .ok (.ifCond .eq 20, 3) := by decide +kernel
theorem dX5_pays_8 : decode cX5_pays 8 = .ok (.iload_n 2, 1) := by decide +kernel
theorem dX5_pays_9 : decode cX5_pays 9 = .ok (.invokestatic 51, 3) := by decide +kernel
theorem dX5_pays_12 : decode cX5_pays 12 = .ok (.ifCond .eq 13, 3) := by decide +kernel
theorem dX5_pays_15 : decode cX5_pays 15 = .ok (.iload_n 3, 1) := by decide +kernel
theorem dX5_pays_16 : decode cX5_pays 16 = .ok (.sipush 999, 3) := by decide +kernel
theorem dX5_pays_19 : decode cX5_pays 19 = .ok (.invokestatic 55, 3) := by decide +kernel
theorem dX5_pays_22 : decode cX5_pays 22 = .ok (.ifCond .ne 6, 3) := by decide +kernel
theorem dX5_pays_25 : decode cX5_pays 25 = .ok (.ldc 123, 2) := by decide +kernel
theorem dX5_pays_27 : decode cX5_pays 27 = .ok (.ireturn, 1) := by decide +kernel
theorem dX5_pays_28 : decode cX5_pays 28 = .ok (.iload 4, 2) := by decide +kernel
theorem dX5_pays_30 : decode cX5_pays 30 = .ok (.iconst 1, 1) := by decide +kernel
theorem dX5_pays_31 : decode cX5_pays 31 = .ok (.if_icmp .lt 20, 3) := by decide +kernel
theorem dX5_pays_34 : decode cX5_pays 34 = .ok (.iload 4, 2) := by decide +kernel
theorem dX5_pays_36 : decode cX5_pays 36 = .ok (.bipush 9, 2) := by decide +kernel
theorem dX5_pays_38 : decode cX5_pays 38 = .ok (.if_icmp .gt 13, 3) := by decide +kernel
theorem dX5_pays_41 : decode cX5_pays 41 = .ok (.iload 5, 2) := by decide +kernel
theorem dX5_pays_43 : decode cX5_pays 43 = .ok (.bipush 16, 2) := by decide +kernel
theorem dX5_pays_45 : decode cX5_pays 45 = .ok (.invokestatic 55, 3) := by decide +kernel
theorem dX5_pays_48 : decode cX5_pays 48 = .ok (.ifCond .ne 6, 3) := by decide +kernel
theorem dX5_pays_51 : decode cX5_pays 51 = .ok (.ldc 123, 2) := by decide +kernel
theorem dX5_pays_53 : decode cX5_pays 53 = .ok (.ireturn, 1) := by decide +kernel
theorem dX5_pays_54 : decode cX5_pays 54 = .ok (.aload_n 0, 1) := by decide +kernel
theorem dX5_pays_55 : decode cX5_pays 55 = .ok (.getfield 10, 3) := by decide +kernel
theorem dX5_pays_58 : decode cX5_pays 58 = .ok (.getfield 70, 3) := by decide +kernel
theorem dX5_pays_61 : decode cX5_pays 61 = .ok (.getfield 116, 3) := by decide +kernel
theorem dX5_pays_64 : decode cX5_pays 64 = .ok (.iload_n 1, 1) := by decide +kernel
theorem dX5_pays_65 : decode cX5_pays 65 = .ok (.iaload, 1) := by decide +kernel
theorem dX5_pays_66 : decode cX5_pays 66 = .ok (.iload_n 2, 1) := by decide +kernel
theorem dX5_pays_67 : decode cX5_pays 67 = .ok (.if_icmp .ne 6, 3) := by decide +kernel
theorem dX5_pays_70 : decode cX5_pays 70 = .ok (.ldc 184, 2) := by decide +kernel
theorem dX5_pays_72 : decode cX5_pays 72 = .ok (.ireturn, 1) := by decide +kernel
theorem dX5_pays_73 : decode cX5_pays 73 = .ok (.aload_n 0, 1) := by decide +kernel
theorem dX5_pays_74 : decode cX5_pays 74 = .ok (.iload_n 1, 1) := by decide +kernel
theorem dX5_pays_75 : decode cX5_pays 75 = .ok (.iload_n 2, 1) := by decide +kernel
theorem dX5_pays_76 : decode cX5_pays 76 = .ok (.invokevirtual 185, 3) := by decide +kernel
theorem dX5_pays_79 : decode cX5_pays 79 = .ok (.aload_n 0, 1) := by decide +kernel
theorem dX5_pays_80 : decode cX5_pays 80 = .ok (.getfield 26, 3) := by decide +kernel
theorem dX5_pays_83 : decode cX5_pays 83 = .ok (.iload_n 2, 1) := by decide +kernel
theorem dX5_pays_84 : decode cX5_pays 84 = .ok (.invokevirtual 232, 3) := by decide +kernel
theorem dX5_pays_87 : decode cX5_pays 87 = .ok (.aload_n 0, 1) := by decide +kernel
theorem dX5_pays_88 : decode cX5_pays 88 = .ok (.getfield 10, 3) := by decide +kernel
theorem dX5_pays_91 : decode cX5_pays 91 = .ok (.getfield 70, 3) := by decide +kernel
theorem dX5_pays_94 : decode cX5_pays 94 = .ok (.iload_n 2, 1) := by decide +kernel
theorem dX5_pays_95 : decode cX5_pays 95 = .ok (.invokevirtual 232, 3) := by decide +kernel
theorem dX5_pays_98 : decode cX5_pays 98 = .ok (.isub, 1) := by decide +kernel
theorem dX5_pays_99 : decode cX5_pays 99 = .ok (.istore 6, 2) := by decide +kernel
theorem dX5_pays_101 : decode cX5_pays 101 = .ok (.iload 4, 2) := by decide +kernel
theorem dX5_pays_103 : decode cX5_pays 103 = .ok (.aload_n 0, 1) := by decide +kernel
theorem dX5_pays_104 : decode cX5_pays 104 = .ok (.getfield 10, 3) := by decide +kernel
theorem dX5_pays_107 : decode cX5_pays 107 = .ok (.getfield 67, 3) := by decide +kernel
theorem dX5_pays_110 : decode cX5_pays 110 = .ok (.iload_n 2, 1) := by decide +kernel
theorem dX5_pays_111 : decode cX5_pays 111 = .ok (.iaload, 1) := by decide +kernel
theorem dX5_pays_112 : decode cX5_pays 112 = .ok (.imul, 1) := by decide +kernel
theorem dX5_pays_113 : decode cX5_pays 113 = .ok (.istore 7, 2) := by decide +kernel
theorem dX5_pays_115 : decode cX5_pays 115 = .ok (.aload_n 0, 1) := by decide +kernel
theorem dX5_pays_116 : decode cX5_pays 116 = .ok (.getfield 10, 3) := by decide +kernel
theorem dX5_pays_119 : decode cX5_pays 119 = .ok (.getfield 91, 3) := by decide +kernel
theorem dX5_pays_122 : decode cX5_pays 122 = .ok (.iload_n 1, 1) := by decide +kernel
theorem dX5_pays_123 : decode cX5_pays 123 = .ok (.bipush 6, 2) := by decide +kernel
theorem dX5_pays_125 : decode cX5_pays 125 = .ok (.imul, 1) := by decide +kernel
theorem dX5_pays_126 : decode cX5_pays 126 = .ok (.iload_n 2, 1) := by decide +kernel
theorem dX5_pays_127 : decode cX5_pays 127 = .ok (.iadd, 1) := by decide +kernel
theorem dX5_pays_128 : decode cX5_pays 128 = .ok (.iaload, 1) := by decide +kernel
theorem dX5_pays_129 : decode cX5_pays 129 = .ok (.iload_n 3, 1) := by decide +kernel
theorem dX5_pays_130 : decode cX5_pays 130 = .ok (.isub, 1) := by decide +kernel
theorem dX5_pays_131 : decode cX5_pays 131 = .ok (.istore 8, 2) := by decide +kernel
theorem dX5_pays_133 : decode cX5_pays 133 = .ok (.bipush 16, 2) := by decide +kernel
theorem dX5_pays_135 : decode cX5_pays 135 = .ok (.iload 8, 2) := by decide +kernel
theorem dX5_pays_137 : decode cX5_pays 137 = .ok (.imul, 1) := by decide +kernel
theorem dX5_pays_138 : decode cX5_pays 138 = .ok (.bipush 16, 2) := by decide +kernel
theorem dX5_pays_140 : decode cX5_pays 140 = .ok (.iload 7, 2) := by decide +kernel
theorem dX5_pays_142 : decode cX5_pays 142 = .ok (.imul, 1) := by decide +kernel
theorem dX5_pays_143 : decode cX5_pays 143 = .ok (.iload 6, 2) := by decide +kernel
theorem dX5_pays_145 : decode cX5_pays 145 = .ok (.imul, 1) := by decide +kernel
theorem dX5_pays_146 : decode cX5_pays 146 = .ok (.isub, 1) := by decide +kernel
theorem dX5_pays_147 : decode cX5_pays 147 = .ok (.iload 5, 2) := by decide +kernel
theorem dX5_pays_149 : decode cX5_pays 149 = .ok (.iload 7, 2) := by decide +kernel
theorem dX5_pays_151 : decode cX5_pays 151 = .ok (.imul, 1) := by decide +kernel
theorem dX5_pays_152 : decode cX5_pays 152 = .ok (.isub, 1) := by decide +kernel
theorem dX5_pays_153 : decode cX5_pays 153 = .ok (.ireturn, 1) := by decide +kernel
theorem dX5_image_0 : decode cX5_image 0 = .ok (.aload_n 0, 1) := by decide +kernel
theorem dX5_image_1 : decode cX5_image 1 = .ok (.getfield 16, 3) := by decide +kernel
theorem dX5_image_4 : decode cX5_image 4 = .ok (.aload_n 0, 1) := by decide +kernel
theorem dX5_image_5 : decode cX5_image 5 = .ok (.getfield 10, 3) := by decide +kernel
theorem dX5_image_8 : decode cX5_image 8 = .ok (.invokevirtual 235, 3) := by decide +kernel
theorem dX5_image_11 : decode cX5_image 11 = .ok (.aload_n 0, 1) := by decide +kernel
theorem dX5_image_12 : decode cX5_image 12 = .ok (.iconst 1, 1) := by decide +kernel
theorem dX5_image_13 : decode cX5_image 13 = .ok (.putfield 19, 3) := by decide +kernel
theorem dX5_image_16 : decode cX5_image 16 = .ok (.iconst 1, 1) := by decide +kernel
theorem dX5_image_17 : decode cX5_image 17 = .ok (.ireturn, 1) := by decide +kernel
theorem dX5_restore_0 : decode cX5_restore 0 = .ok (.aload_n 0, 1) := by decide +kernel
theorem dX5_restore_1 : decode cX5_restore 1 = .ok (.getfield 19, 3) := by decide +kernel
theorem dX5_restore_4 : decode cX5_restore 4 = .ok (.ifCond .ne 6, 3) := by decide +kernel
theorem dX5_restore_7 : decode cX5_restore 7 = .ok (.bipush (-4), 2) := by decide +kernel
theorem dX5_restore_9 : decode cX5_restore 9 = .ok (.ireturn, 1) := by decide +kernel
theorem dX5_restore_10 : decode cX5_restore 10 = .ok (.aload_n 0, 1) := by decide +kernel
theorem dX5_restore_11 : decode cX5_restore 11 = .ok (.getfield 10, 3) := by decide +kernel
theorem dX5_restore_14 : decode cX5_restore 14 = .ok (.aload_n 0, 1) := by decide +kernel
theorem dX5_restore_15 : decode cX5_restore 15 = .ok (.getfield 16, 3) := by decide +kernel
theorem dX5_restore_18 : decode cX5_restore 18 = .ok (.invokevirtual 235, 3) := by decide +kernel
theorem dX5_restore_21 : decode cX5_restore 21 = .ok (.iconst 1, 1) := by decide +kernel
theorem dX5_restore_22 : decode cX5_restore 22 = .ok (.ireturn, 1) := by decide +kernel
theorem dX5_deal_0 : decode cX5_deal 0 = .ok (.iload_n 1, 1) := by decide +kernel
theorem dX5_deal_1 : decode cX5_deal 1 = .ok (.invokestatic 238, 3) := by decide +kernel
theorem dX5_deal_4 : decode cX5_deal 4 = .ok (.ifCond .eq 23, 3) := by decide +kernel
theorem dX5_deal_7 : decode cX5_deal 7 = .ok (.iload_n 2, 1) := by decide +kernel
theorem dX5_deal_8 : decode cX5_deal 8 = .ok (.invokestatic 241, 3) := by decide +kernel
theorem dX5_deal_11 : decode cX5_deal 11 = .ok (.ifCond .eq 16, 3) := by decide +kernel
theorem dX5_deal_14 : decode cX5_deal 14 = .ok (.iload 4, 2) := by decide +kernel
theorem dX5_deal_16 : decode cX5_deal 16 = .ok (.iconst 1, 1) := by decide +kernel
theorem dX5_deal_17 : decode cX5_deal 17 = .ok (.if_icmp .lt 10, 3) := by decide +kernel
theorem dX5_deal_20 : decode cX5_deal 20 = .ok (.iload 4, 2) := by decide +kernel
theorem dX5_deal_22 : decode cX5_deal 22 = .ok (.bipush 8, 2) := by decide +kernel
theorem dX5_deal_24 : decode cX5_deal 24 = .ok (.if_icmp .le 5, 3) := by decide +kernel
theorem dX5_deal_27 : decode cX5_deal 27 = .ok (.iconst (-1), 1) := by decide +kernel
theorem dX5_deal_28 : decode cX5_deal 28 = .ok (.ireturn, 1) := by decide +kernel
theorem dX5_deal_29 : decode cX5_deal 29 = .ok (.aload_n 0, 1) := by decide +kernel
theorem dX5_deal_30 : decode cX5_deal 30 = .ok (.getfield 46, 3) := by decide +kernel
theorem dX5_deal_33 : decode cX5_deal 33 = .ok (.iload_n 1, 1) := by decide +kernel
theorem dX5_deal_34 : decode cX5_deal 34 = .ok (.aaload, 1) := by decide +kernel
theorem dX5_deal_35 : decode cX5_deal 35 = .ok (.astore 5, 2) := by decide +kernel
theorem dX5_deal_37 : decode cX5_deal 37 = .ok (.aload 5, 2) := by decide +kernel
theorem dX5_deal_39 : decode cX5_deal 39 = .ok (.iload_n 2, 1) := by decide +kernel
theorem dX5_deal_40 : decode cX5_deal 40 = .ok (.invokevirtual 244, 3) := by decide +kernel
theorem dX5_deal_43 : decode cX5_deal 43 = .ok (.istore 6, 2) := by decide +kernel
theorem dX5_deal_45 : decode cX5_deal 45 = .ok (.iload 6, 2) := by decide +kernel
theorem dX5_deal_47 : decode cX5_deal 47 = .ok (.ifCond .eq 6, 3) := by decide +kernel
theorem dX5_deal_50 : decode cX5_deal 50 = .ok (.iload 6, 2) := by decide +kernel
theorem dX5_deal_52 : decode cX5_deal 52 = .ok (.ireturn, 1) := by decide +kernel
theorem dX5_deal_53 : decode cX5_deal 53 = .ok (.aload 5, 2) := by decide +kernel
theorem dX5_deal_55 : decode cX5_deal 55 = .ok (.iload_n 3, 1) := by decide +kernel
theorem dX5_deal_56 : decode cX5_deal 56 = .ok (.iconst 3, 1) := by decide +kernel
theorem dX5_deal_57 : decode cX5_deal 57 = .ok (.iload 4, 2) := by decide +kernel
theorem dX5_deal_59 : decode cX5_deal 59 = .ok (.imul, 1) := by decide +kernel
theorem dX5_deal_60 : decode cX5_deal 60 = .ok (.invokevirtual 247, 3) := by decide +kernel
theorem dX5_deal_63 : decode cX5_deal 63 = .ok (.ifCond .ne 6, 3) := by decide +kernel
theorem dX5_deal_66 : decode cX5_deal 66 = .ok (.bipush (-13), 2) := by decide +kernel
theorem dX5_deal_68 : decode cX5_deal 68 = .ok (.ireturn, 1) := by decide +kernel
theorem dX5_deal_69 : decode cX5_deal 69 = .ok (.iconst 0, 1) := by decide +kernel
theorem dX5_deal_70 : decode cX5_deal 70 = .ok (.istore 7, 2) := by decide +kernel
theorem dX5_deal_72 : decode cX5_deal 72 = .ok (.iload 7, 2) := by decide +kernel
theorem dX5_deal_74 : decode cX5_deal 74 = .ok (.iload 4, 2) := by decide +kernel
theorem dX5_deal_76 : decode cX5_deal 76 = .ok (.if_icmp .ge 24, 3) := by decide +kernel
theorem dX5_deal_79 : decode cX5_deal 79 = .ok (.aload_n 0, 1) := by decide +kernel
theorem dX5_deal_80 : decode cX5_deal 80 = .ok (.aload 5, 2) := by decide +kernel
theorem dX5_deal_82 : decode cX5_deal 82 = .ok (.iload_n 3, 1) := by decide +kernel
theorem dX5_deal_83 : decode cX5_deal 83 = .ok (.iconst 3, 1) := by decide +kernel
theorem dX5_deal_84 : decode cX5_deal 84 = .ok (.iload 7, 2) := by decide +kernel
theorem dX5_deal_86 : decode cX5_deal 86 = .ok (.imul, 1) := by decide +kernel
theorem dX5_deal_87 : decode cX5_deal 87 = .ok (.iadd, 1) := by decide +kernel
theorem dX5_deal_88 : decode cX5_deal 88 = .ok (.invokevirtual 250, 3) := by decide +kernel
theorem dX5_deal_91 : decode cX5_deal 91 = .ok (.ifCond .eq 9, 3) := by decide +kernel
theorem dX5_deal_94 : decode cX5_deal 94 = .ok (.iinc 7 1, 3) := by decide +kernel
theorem dX5_deal_97 : decode cX5_deal 97 = .ok (.goto (-25), 3) := by decide +kernel
theorem dX5_deal_100 : decode cX5_deal 100 = .ok (.iload 7, 2) := by decide +kernel
theorem dX5_deal_102 : decode cX5_deal 102 = .ok (.ireturn, 1) := by decide +kernel
theorem dX5_sheet_0 : decode cX5_sheet 0 = .ok (.iload_n 1, 1) := by decide +kernel
theorem dX5_sheet_1 : decode cX5_sheet 1 = .ok (.invokestatic 238, 3) := by decide +kernel
theorem dX5_sheet_4 : decode cX5_sheet 4 = .ok (.ifCond .eq 16, 3) := by decide +kernel
theorem dX5_sheet_7 : decode cX5_sheet 7 = .ok (.iload_n 2, 1) := by decide +kernel
theorem dX5_sheet_8 : decode cX5_sheet 8 = .ok (.invokestatic 241, 3) := by decide +kernel
theorem dX5_sheet_11 : decode cX5_sheet 11 = .ok (.ifCond .eq 9, 3) := by decide +kernel
theorem dX5_sheet_14 : decode cX5_sheet 14 = .ok (.iload_n 3, 1) := by decide +kernel
theorem dX5_sheet_15 : decode cX5_sheet 15 = .ok (.bipush 24, 2) := by decide +kernel
theorem dX5_sheet_17 : decode cX5_sheet 17 = .ok (.if_icmp .le 5, 3) := by decide +kernel
theorem dX5_sheet_20 : decode cX5_sheet 20 = .ok (.iconst (-1), 1) := by decide +kernel
theorem dX5_sheet_21 : decode cX5_sheet 21 = .ok (.ireturn, 1) := by decide +kernel
theorem dX5_sheet_22 : decode cX5_sheet 22 = .ok (.iload_n 3, 1) := by decide +kernel
theorem dX5_sheet_23 : decode cX5_sheet 23 = .ok (.ifCond .ge 6, 3) := by decide +kernel
theorem dX5_sheet_26 : decode cX5_sheet 26 = .ok (.bipush (-14), 2) := by decide +kernel
theorem dX5_sheet_28 : decode cX5_sheet 28 = .ok (.ireturn, 1) := by decide +kernel
theorem dX5_sheet_29 : decode cX5_sheet 29 = .ok (.aload_n 0, 1) := by decide +kernel
theorem dX5_sheet_30 : decode cX5_sheet 30 = .ok (.getfield 46, 3) := by decide +kernel
theorem dX5_sheet_33 : decode cX5_sheet 33 = .ok (.iload_n 1, 1) := by decide +kernel
theorem dX5_sheet_34 : decode cX5_sheet 34 = .ok (.aaload, 1) := by decide +kernel
theorem dX5_sheet_35 : decode cX5_sheet 35 = .ok (.iload_n 2, 1) := by decide +kernel
theorem dX5_sheet_36 : decode cX5_sheet 36 = .ok (.iload_n 3, 1) := by decide +kernel
theorem dX5_sheet_37 : decode cX5_sheet 37 = .ok (.invokevirtual 254, 3) := by decide +kernel
theorem dX5_sheet_40 : decode cX5_sheet 40 = .ok (.iload_n 3, 1) := by decide +kernel
theorem dX5_sheet_41 : decode cX5_sheet 41 = .ok (.ireturn, 1) := by decide +kernel
theorem dX5_drop_0 : decode cX5_drop 0 = .ok (.iload_n 1, 1) := by decide +kernel
theorem dX5_drop_1 : decode cX5_drop 1 = .ok (.invokestatic 238, 3) := by decide +kernel
theorem dX5_drop_4 : decode cX5_drop 4 = .ok (.ifCond .ne 5, 3) := by decide +kernel
theorem dX5_drop_7 : decode cX5_drop 7 = .ok (.iconst (-1), 1) := by decide +kernel
theorem dX5_drop_8 : decode cX5_drop 8 = .ok (.ireturn, 1) := by decide +kernel
theorem dX5_drop_9 : decode cX5_drop 9 = .ok (.aload_n 0, 1) := by decide +kernel
theorem dX5_drop_10 : decode cX5_drop 10 = .ok (.getfield 46, 3) := by decide +kernel
theorem dX5_drop_13 : decode cX5_drop 13 = .ok (.iload_n 1, 1) := by decide +kernel
theorem dX5_drop_14 : decode cX5_drop 14 = .ok (.aaload, 1) := by decide +kernel
theorem dX5_drop_15 : decode cX5_drop 15 = .ok (.astore_n 2, 1) := by decide +kernel
theorem dX5_drop_16 : decode cX5_drop 16 = .ok (.aload_n 2, 1) := by decide +kernel
theorem dX5_drop_17 : decode cX5_drop 17 = .ok (.getfield 257, 3) := by decide +kernel
theorem dX5_drop_20 : decode cX5_drop 20 = .ok (.ifCond .eq 6, 3) := by decide +kernel
theorem dX5_drop_23 : decode cX5_drop 23 = .ok (.bipush (-11), 2) := by decide +kernel
theorem dX5_drop_25 : decode cX5_drop 25 = .ok (.ireturn, 1) := by decide +kernel
theorem dX5_drop_26 : decode cX5_drop 26 = .ok (.aload_n 2, 1) := by decide +kernel
theorem dX5_drop_27 : decode cX5_drop 27 = .ok (.iconst 1, 1) := by decide +kernel
theorem dX5_drop_28 : decode cX5_drop 28 = .ok (.putfield 257, 3) := by decide +kernel
theorem dX5_drop_31 : decode cX5_drop 31 = .ok (.aload_n 2, 1) := by decide +kernel
theorem dX5_drop_32 : decode cX5_drop 32 = .ok (.getfield 260, 3) := by decide +kernel
theorem dX5_drop_35 : decode cX5_drop 35 = .ok (.ireturn, 1) := by decide +kernel
theorem dX5_item_0 : decode cX5_item 0 = .ok (.iload_n 1, 1) := by decide +kernel
theorem dX5_item_1 : decode cX5_item 1 = .ok (.invokestatic 238, 3) := by decide +kernel
theorem dX5_item_4 : decode cX5_item 4 = .ok (.ifCond .eq 10, 3) := by decide +kernel
theorem dX5_item_7 : decode cX5_item 7 = .ok (.iload_n 2, 1) := by decide +kernel
theorem dX5_item_8 : decode cX5_item 8 = .ok (.invokestatic 241, 3) := by decide +kernel
theorem dX5_item_11 : decode cX5_item 11 = .ok (.ifCond .ne 5, 3) := by decide +kernel
theorem dX5_item_14 : decode cX5_item 14 = .ok (.iconst (-1), 1) := by decide +kernel
theorem dX5_item_15 : decode cX5_item 15 = .ok (.ireturn, 1) := by decide +kernel
theorem dX5_item_16 : decode cX5_item 16 = .ok (.aload_n 0, 1) := by decide +kernel
theorem dX5_item_17 : decode cX5_item 17 = .ok (.getfield 46, 3) := by decide +kernel
theorem dX5_item_20 : decode cX5_item 20 = .ok (.iload_n 1, 1) := by decide +kernel
theorem dX5_item_21 : decode cX5_item 21 = .ok (.aaload, 1) := by decide +kernel
theorem dX5_item_22 : decode cX5_item 22 = .ok (.astore 5, 2) := by decide +kernel
theorem dX5_item_24 : decode cX5_item 24 = .ok (.aload 5, 2) := by decide +kernel
theorem dX5_item_26 : decode cX5_item 26 = .ok (.iload_n 2, 1) := by decide +kernel
theorem dX5_item_27 : decode cX5_item 27 = .ok (.invokevirtual 244, 3) := by decide +kernel
theorem dX5_item_30 : decode cX5_item 30 = .ok (.istore 6, 2) := by decide +kernel
theorem dX5_item_32 : decode cX5_item 32 = .ok (.iload 6, 2) := by decide +kernel
theorem dX5_item_34 : decode cX5_item 34 = .ok (.ifCond .eq 6, 3) := by decide +kernel
theorem dX5_item_37 : decode cX5_item 37 = .ok (.iload 6, 2) := by decide +kernel
theorem dX5_item_39 : decode cX5_item 39 = .ok (.ireturn, 1) := by decide +kernel
theorem dX5_item_40 : decode cX5_item 40 = .ok (.aload 5, 2) := by decide +kernel
theorem dX5_item_42 : decode cX5_item 42 = .ok (.iload_n 3, 1) := by decide +kernel
theorem dX5_item_43 : decode cX5_item 43 = .ok (.iconst 1, 1) := by decide +kernel
theorem dX5_item_44 : decode cX5_item 44 = .ok (.invokevirtual 247, 3) := by decide +kernel
theorem dX5_item_47 : decode cX5_item 47 = .ok (.ifCond .ne 6, 3) := by decide +kernel
theorem dX5_item_50 : decode cX5_item 50 = .ok (.bipush (-13), 2) := by decide +kernel
theorem dX5_item_52 : decode cX5_item 52 = .ok (.ireturn, 1) := by decide +kernel
theorem dX5_item_53 : decode cX5_item 53 = .ok (.aload 5, 2) := by decide +kernel
theorem dX5_item_55 : decode cX5_item 55 = .ok (.getfield 261, 3) := by decide +kernel
theorem dX5_item_58 : decode cX5_item 58 = .ok (.iload_n 3, 1) := by decide +kernel
theorem dX5_item_59 : decode cX5_item 59 = .ok (.iload_n 2, 1) := by decide +kernel
theorem dX5_item_60 : decode cX5_item 60 = .ok (.iload 4, 2) := by decide +kernel
theorem dX5_item_62 : decode cX5_item 62 = .ok (.invokestatic 264, 3) := by decide +kernel
theorem dX5_item_65 : decode cX5_item 65 = .ok (.iastore, 1) := by decide +kernel
theorem dX5_item_66 : decode cX5_item 66 = .ok (.iconst 1, 1) := by decide +kernel
theorem dX5_item_67 : decode cX5_item 67 = .ok (.ireturn, 1) := by decide +kernel
theorem dX5_copy_0 : decode cX5_copy 0 = .ok (.iload_n 1, 1) := by decide +kernel
theorem dX5_copy_1 : decode cX5_copy 1 = .ok (.invokestatic 238, 3) := by decide +kernel
theorem dX5_copy_4 : decode cX5_copy 4 = .ok (.ifCond .eq 10, 3) := by decide +kernel
theorem dX5_copy_7 : decode cX5_copy 7 = .ok (.iload_n 3, 1) := by decide +kernel
theorem dX5_copy_8 : decode cX5_copy 8 = .ok (.invokestatic 238, 3) := by decide +kernel
theorem dX5_copy_11 : decode cX5_copy 11 = .ok (.ifCond .ne 5, 3) := by decide +kernel
theorem dX5_copy_14 : decode cX5_copy 14 = .ok (.iconst (-1), 1) := by decide +kernel
theorem dX5_copy_15 : decode cX5_copy 15 = .ok (.ireturn, 1) := by decide +kernel
theorem dX5_copy_16 : decode cX5_copy 16 = .ok (.aload_n 0, 1) := by decide +kernel
theorem dX5_copy_17 : decode cX5_copy 17 = .ok (.getfield 46, 3) := by decide +kernel
theorem dX5_copy_20 : decode cX5_copy 20 = .ok (.iload_n 1, 1) := by decide +kernel
theorem dX5_copy_21 : decode cX5_copy 21 = .ok (.aaload, 1) := by decide +kernel
theorem dX5_copy_22 : decode cX5_copy 22 = .ok (.astore 6, 2) := by decide +kernel
theorem dX5_copy_24 : decode cX5_copy 24 = .ok (.aload_n 0, 1) := by decide +kernel
theorem dX5_copy_25 : decode cX5_copy 25 = .ok (.getfield 46, 3) := by decide +kernel
theorem dX5_copy_28 : decode cX5_copy 28 = .ok (.iload_n 3, 1) := by decide +kernel
theorem dX5_copy_29 : decode cX5_copy 29 = .ok (.aaload, 1) := by decide +kernel
theorem dX5_copy_30 : decode cX5_copy 30 = .ok (.astore 7, 2) := by decide +kernel
theorem dX5_copy_32 : decode cX5_copy 32 = .ok (.aload 6, 2) := by decide +kernel
theorem dX5_copy_34 : decode cX5_copy 34 = .ok (.getfield 257, 3) := by decide +kernel
theorem dX5_copy_37 : decode cX5_copy 37 = .ok (.ifCond .ne 11, 3) := by decide +kernel
theorem dX5_copy_40 : decode cX5_copy 40 = .ok (.aload 7, 2) := by decide +kernel
theorem dX5_copy_42 : decode cX5_copy 42 = .ok (.getfield 257, 3) := by decide +kernel
theorem dX5_copy_45 : decode cX5_copy 45 = .ok (.ifCond .eq 6, 3) := by decide +kernel
theorem dX5_copy_48 : decode cX5_copy 48 = .ok (.bipush (-11), 2) := by decide +kernel
theorem dX5_copy_50 : decode cX5_copy 50 = .ok (.ireturn, 1) := by decide +kernel
theorem dX5_copy_51 : decode cX5_copy 51 = .ok (.aload 6, 2) := by decide +kernel
theorem dX5_copy_53 : decode cX5_copy 53 = .ok (.getfield 267, 3) := by decide +kernel
theorem dX5_copy_56 : decode cX5_copy 56 = .ok (.aload 7, 2) := by decide +kernel
theorem dX5_copy_58 : decode cX5_copy 58 = .ok (.getfield 267, 3) := by decide +kernel
theorem dX5_copy_61 : decode cX5_copy 61 = .ok (.if_icmp .eq 6, 3) := by decide +kernel
theorem dX5_copy_64 : decode cX5_copy 64 = .ok (.bipush (-12), 2) := by decide +kernel
theorem dX5_copy_66 : decode cX5_copy 66 = .ok (.ireturn, 1) := by decide +kernel
theorem dX5_copy_67 : decode cX5_copy 67 = .ok (.aload 6, 2) := by decide +kernel
theorem dX5_copy_69 : decode cX5_copy 69 = .ok (.iload_n 2, 1) := by decide +kernel
theorem dX5_copy_70 : decode cX5_copy 70 = .ok (.iload 5, 2) := by decide +kernel
theorem dX5_copy_72 : decode cX5_copy 72 = .ok (.invokevirtual 247, 3) := by decide +kernel
theorem dX5_copy_75 : decode cX5_copy 75 = .ok (.ifCond .eq 15, 3) := by decide +kernel
theorem dX5_copy_78 : decode cX5_copy 78 = .ok (.aload 7, 2) := by decide +kernel
theorem dX5_copy_80 : decode cX5_copy 80 = .ok (.iload 4, 2) := by decide +kernel
theorem dX5_copy_82 : decode cX5_copy 82 = .ok (.iload 5, 2) := by decide +kernel
theorem dX5_copy_84 : decode cX5_copy 84 = .ok (.invokevirtual 247, 3) := by decide +kernel
theorem dX5_copy_87 : decode cX5_copy 87 = .ok (.ifCond .ne 6, 3) := by decide +kernel
theorem dX5_copy_90 : decode cX5_copy 90 = .ok (.bipush (-13), 2) := by decide +kernel
theorem dX5_copy_92 : decode cX5_copy 92 = .ok (.ireturn, 1) := by decide +kernel
theorem dX5_copy_93 : decode cX5_copy 93 = .ok (.aload 6, 2) := by decide +kernel
theorem dX5_copy_95 : decode cX5_copy 95 = .ok (.getfield 261, 3) := by decide +kernel
theorem dX5_copy_98 : decode cX5_copy 98 = .ok (.iload_n 2, 1) := by decide +kernel
theorem dX5_copy_99 : decode cX5_copy 99 = .ok (.aload 7, 2) := by decide +kernel
theorem dX5_copy_101 : decode cX5_copy 101 = .ok (.getfield 261, 3) := by decide +kernel
theorem dX5_copy_104 : decode cX5_copy 104 = .ok (.iload 4, 2) := by decide +kernel
theorem dX5_copy_106 : decode cX5_copy 106 = .ok (.iload 5, 2) := by decide +kernel
theorem dX5_copy_108 : decode cX5_copy 108 = .ok (.invokestatic 270, 3) := by decide +kernel
theorem dX5_copy_111 : decode cX5_copy 111 = .ok (.iload 5, 2) := by decide +kernel
theorem dX5_copy_113 : decode cX5_copy 113 = .ok (.ireturn, 1) := by decide +kernel
theorem dX5_isWithin_0 : decode cX5_isWithin 0 = .ok (.iload_n 0, 1) := by decide +kernel
theorem dX5_isWithin_1 : decode cX5_isWithin 1 = .ok (.ifCond .lt 12, 3) := by decide +kernel
theorem dX5_isWithin_4 : decode cX5_isWithin 4 = .ok (.iload_n 0, 1) := by decide +kernel
theorem dX5_isWithin_5 : decode cX5_isWithin 5 = .ok (.iload_n 1, 1) := by decide +kernel
theorem dX5_isWithin_6 : decode cX5_isWithin 6 = .ok (.if_icmp .gt 7, 3) := by decide +kernel
theorem dX5_isWithin_9 : decode cX5_isWithin 9 = .ok (.iconst 1, 1) := by decide +kernel
theorem dX5_isWithin_10 : decode cX5_isWithin 10 = .ok (.goto 4, 3) := by decide +kernel
theorem dX5_isWithin_13 : decode cX5_isWithin 13 = .ok (.iconst 0, 1) := by decide +kernel
theorem dX5_isWithin_14 : decode cX5_isWithin 14 = .ok (.ireturn, 1) := by decide +kernel
theorem dX5_isPerson_0 : decode cX5_isPerson 0 = .ok (.iload_n 0, 1) := by decide +kernel
theorem dX5_isPerson_1 : decode cX5_isPerson 1 = .ok (.ifCond .lt 13, 3) := by decide +kernel
theorem dX5_isPerson_4 : decode cX5_isPerson 4 = .ok (.iload_n 0, 1) := by decide +kernel
theorem dX5_isPerson_5 : decode cX5_isPerson 5 = .ok (.bipush 6, 2) := by decide +kernel
theorem dX5_isPerson_7 : decode cX5_isPerson 7 = .ok (.if_icmp .ge 7, 3) := by decide +kernel
theorem dX5_isPerson_10 : decode cX5_isPerson 10 = .ok (.iconst 1, 1) := by decide +kernel
theorem dX5_isPerson_11 : decode cX5_isPerson 11 = .ok (.goto 4, 3) := by decide +kernel
theorem dX5_isPerson_14 : decode cX5_isPerson 14 = .ok (.iconst 0, 1) := by decide +kernel
theorem dX5_isPerson_15 : decode cX5_isPerson 15 = .ok (.ireturn, 1) := by decide +kernel
theorem dX5_isSheet_0 : decode cX5_isSheet 0 = .ok (.iload_n 0, 1) := by decide +kernel
theorem dX5_isSheet_1 : decode cX5_isSheet 1 = .ok (.ifCond .lt 12, 3) := by decide +kernel
theorem dX5_isSheet_4 : decode cX5_isSheet 4 = .ok (.iload_n 0, 1) := by decide +kernel
theorem dX5_isSheet_5 : decode cX5_isSheet 5 = .ok (.iconst 4, 1) := by decide +kernel
theorem dX5_isSheet_6 : decode cX5_isSheet 6 = .ok (.if_icmp .ge 7, 3) := by decide +kernel
theorem dX5_isSheet_9 : decode cX5_isSheet 9 = .ok (.iconst 1, 1) := by decide +kernel
theorem dX5_isSheet_10 : decode cX5_isSheet 10 = .ok (.goto 4, 3) := by decide +kernel
theorem dX5_isSheet_13 : decode cX5_isSheet 13 = .ok (.iconst 0, 1) := by decide +kernel
theorem dX5_isSheet_14 : decode cX5_isSheet 14 = .ok (.ireturn, 1) := by decide +kernel
theorem dX5_isLane_0 : decode cX5_isLane 0 = .ok (.iload_n 0, 1) := by decide +kernel
theorem dX5_isLane_1 : decode cX5_isLane 1 = .ok (.ifCond .lt 12, 3) := by decide +kernel
theorem dX5_isLane_4 : decode cX5_isLane 4 = .ok (.iload_n 0, 1) := by decide +kernel
theorem dX5_isLane_5 : decode cX5_isLane 5 = .ok (.iconst 3, 1) := by decide +kernel
theorem dX5_isLane_6 : decode cX5_isLane 6 = .ok (.if_icmp .ge 7, 3) := by decide +kernel
theorem dX5_isLane_9 : decode cX5_isLane 9 = .ok (.iconst 1, 1) := by decide +kernel
theorem dX5_isLane_10 : decode cX5_isLane 10 = .ok (.goto 4, 3) := by decide +kernel
theorem dX5_isLane_13 : decode cX5_isLane 13 = .ok (.iconst 0, 1) := by decide +kernel
theorem dX5_isLane_14 : decode cX5_isLane 14 = .ok (.ireturn, 1) := by decide +kernel
theorem dX5_isThing_0 : decode cX5_isThing 0 = .ok (.iload_n 1, 1) := by decide +kernel
theorem dX5_isThing_1 : decode cX5_isThing 1 = .ok (.ifCond .lt 21, 3) := by decide +kernel
theorem dX5_isThing_4 : decode cX5_isThing 4 = .ok (.iload_n 1, 1) := by decide +kernel
theorem dX5_isThing_5 : decode cX5_isThing 5 = .ok (.aload_n 0, 1) := by decide +kernel
theorem dX5_isThing_6 : decode cX5_isThing 6 = .ok (.getfield 10, 3) := by decide +kernel
theorem dX5_isThing_9 : decode cX5_isThing 9 = .ok (.getfield 70, 3) := by decide +kernel
theorem dX5_isThing_12 : decode cX5_isThing 12 = .ok (.getfield 80, 3) := by decide +kernel
theorem dX5_isThing_15 : decode cX5_isThing 15 = .ok (.if_icmp .ge 7, 3) := by decide +kernel
theorem dX5_isThing_18 : decode cX5_isThing 18 = .ok (.iconst 1, 1) := by decide +kernel
theorem dX5_isThing_19 : decode cX5_isThing 19 = .ok (.goto 4, 3) := by decide +kernel
theorem dX5_isThing_22 : decode cX5_isThing 22 = .ok (.iconst 0, 1) := by decide +kernel
theorem dX5_isThing_23 : decode cX5_isThing 23 = .ok (.ireturn, 1) := by decide +kernel
theorem dX5_isSide_0 : decode cX5_isSide 0 = .ok (.aload_n 0, 1) := by decide +kernel
theorem dX5_isSide_1 : decode cX5_isSide 1 = .ok (.iload_n 1, 1) := by decide +kernel
theorem dX5_isSide_2 : decode cX5_isSide 2 = .ok (.invokevirtual 88, 3) := by decide +kernel
theorem dX5_isSide_5 : decode cX5_isSide 5 = .ok (.ifCond .ne 13, 3) := by decide +kernel
theorem dX5_isSide_8 : decode cX5_isSide 8 = .ok (.iload_n 1, 1) := by decide +kernel
theorem dX5_isSide_9 : decode cX5_isSide 9 = .ok (.bipush 10, 2) := by decide +kernel
theorem dX5_isSide_11 : decode cX5_isSide 11 = .ok (.isub, 1) := by decide +kernel
theorem dX5_isSide_12 : decode cX5_isSide 12 = .ok (.invokestatic 51, 3) := by decide +kernel
theorem dX5_isSide_15 : decode cX5_isSide 15 = .ok (.ifCond .eq 7, 3) := by decide +kernel
theorem dX5_isSide_18 : decode cX5_isSide 18 = .ok (.iconst 1, 1) := by decide +kernel
theorem dX5_isSide_19 : decode cX5_isSide 19 = .ok (.goto 4, 3) := by decide +kernel
theorem dX5_isSide_22 : decode cX5_isSide 22 = .ok (.iconst 0, 1) := by decide +kernel
theorem dX5_isSide_23 : decode cX5_isSide 23 = .ok (.ireturn, 1) := by decide +kernel
theorem dX5_put_0 : decode cX5_put 0 = .ok (.iload_n 1, 1) := by decide +kernel
theorem dX5_put_1 : decode cX5_put 1 = .ok (.ifCond .lt 9, 3) := by decide +kernel
theorem dX5_put_4 : decode cX5_put 4 = .ok (.iload_n 1, 1) := by decide +kernel
theorem dX5_put_5 : decode cX5_put 5 = .ok (.aload_n 0, 1) := by decide +kernel
theorem dX5_put_6 : decode cX5_put 6 = .ok (.arraylength, 1) := by decide +kernel
theorem dX5_put_7 : decode cX5_put 7 = .ok (.if_icmp .lt 5, 3) := by decide +kernel
theorem dX5_put_10 : decode cX5_put 10 = .ok (.iconst (-1), 1) := by decide +kernel
theorem dX5_put_11 : decode cX5_put 11 = .ok (.ireturn, 1) := by decide +kernel
theorem dX5_put_12 : decode cX5_put 12 = .ok (.aload_n 0, 1) := by decide +kernel
theorem dX5_put_13 : decode cX5_put 13 = .ok (.iload_n 1, 1) := by decide +kernel
theorem dX5_put_14 : decode cX5_put 14 = .ok (.iaload, 1) := by decide +kernel
theorem dX5_put_15 : decode cX5_put 15 = .ok (.istore_n 3, 1) := by decide +kernel
theorem dX5_put_16 : decode cX5_put 16 = .ok (.aload_n 0, 1) := by decide +kernel
theorem dX5_put_17 : decode cX5_put 17 = .ok (.iload_n 1, 1) := by decide +kernel
theorem dX5_put_18 : decode cX5_put 18 = .ok (.iload_n 2, 1) := by decide +kernel
theorem dX5_put_19 : decode cX5_put 19 = .ok (.iastore, 1) := by decide +kernel
theorem dX5_put_20 : decode cX5_put 20 = .ok (.iload_n 3, 1) := by decide +kernel
theorem dX5_put_21 : decode cX5_put 21 = .ok (.ireturn, 1) := by decide +kernel
theorem dX5_trySale_0 : decode cX5_trySale 0 = .ok (.aload_n 0, 1) := by decide +kernel
theorem dX5_trySale_1 : decode cX5_trySale 1 = .ok (.getfield 26, 3) := by decide +kernel
theorem dX5_trySale_4 : decode cX5_trySale 4 = .ok (.aload_n 0, 1) := by decide +kernel
theorem dX5_trySale_5 : decode cX5_trySale 5 = .ok (.getfield 10, 3) := by decide +kernel
theorem dX5_trySale_8 : decode cX5_trySale 8 = .ok (.getfield 70, 3) := by decide +kernel
theorem dX5_trySale_11 : decode cX5_trySale 11 = .ok (.invokevirtual 225, 3) := by decide +kernel
theorem dX5_trySale_14 : decode cX5_trySale 14 = .ok (.aload_n 0, 1) := by decide +kernel
theorem dX5_trySale_15 : decode cX5_trySale 15 = .ok (.getfield 26, 3) := by decide +kernel
theorem dX5_trySale_18 : decode cX5_trySale 18 = .ok (.iload_n 1, 1) := by decide +kernel
theorem dX5_trySale_19 : decode cX5_trySale 19 = .ok (.iload_n 2, 1) := by decide +kernel
theorem dX5_trySale_20 : decode cX5_trySale 20 = .ok (.invokevirtual 170, 3) := by decide +kernel
theorem dX5_trySale_23 : decode cX5_trySale 23 = .ok (.pop, 1) := by decide +kernel
theorem dX5_trySale_24 : decode cX5_trySale 24 = .ok (.return_, 1) := by decide +kernel
theorem dX5_gainOf_0 : decode cX5_gainOf 0 = .ok (.iload_n 1, 1) := by decide +kernel
theorem dX5_gainOf_1 : decode cX5_gainOf 1 = .ok (.bipush 6, 2) := by decide +kernel
theorem dX5_gainOf_3 : decode cX5_gainOf 3 = .ok (.if_icmp .ne 7, 3) := by decide +kernel
theorem dX5_gainOf_6 : decode cX5_gainOf 6 = .ok (.iconst 0, 1) := by decide +kernel
theorem dX5_gainOf_7 : decode cX5_gainOf 7 = .ok (.goto 31, 3) := by decide +kernel
theorem dX5_gainOf_10 : decode cX5_gainOf 10 = .ok (.aload_n 0, 1) := by decide +kernel
theorem dX5_gainOf_11 : decode cX5_gainOf 11 = .ok (.getfield 10, 3) := by decide +kernel
theorem dX5_gainOf_14 : decode cX5_gainOf 14 = .ok (.iload_n 1, 1) := by decide +kernel
theorem dX5_gainOf_15 : decode cX5_gainOf 15 = .ok (.aload_n 0, 1) := by decide +kernel
theorem dX5_gainOf_16 : decode cX5_gainOf 16 = .ok (.getfield 26, 3) := by decide +kernel
theorem dX5_gainOf_19 : decode cX5_gainOf 19 = .ok (.invokevirtual 119, 3) := by decide +kernel
theorem dX5_gainOf_22 : decode cX5_gainOf 22 = .ok (.aload_n 0, 1) := by decide +kernel
theorem dX5_gainOf_23 : decode cX5_gainOf 23 = .ok (.getfield 10, 3) := by decide +kernel
theorem dX5_gainOf_26 : decode cX5_gainOf 26 = .ok (.iload_n 1, 1) := by decide +kernel
theorem dX5_gainOf_27 : decode cX5_gainOf 27 = .ok (.aload_n 0, 1) := by decide +kernel
theorem dX5_gainOf_28 : decode cX5_gainOf 28 = .ok (.getfield 10, 3) := by decide +kernel
theorem dX5_gainOf_31 : decode cX5_gainOf 31 = .ok (.getfield 70, 3) := by decide +kernel
theorem dX5_gainOf_34 : decode cX5_gainOf 34 = .ok (.invokevirtual 119, 3) := by decide +kernel
theorem dX5_gainOf_37 : decode cX5_gainOf 37 = .ok (.isub, 1) := by decide +kernel
theorem dX5_gainOf_38 : decode cX5_gainOf 38 = .ok (.ireturn, 1) := by decide +kernel
theorem dX5_makeFirstAgreed_0 : decode cX5_makeFirstAgreed 0 = .ok (.iconst 0, 1) := by decide +kernel
theorem dX5_makeFirstAgreed_1 : decode cX5_makeFirstAgreed 1 = .ok (.istore_n 1, 1) := by decide +kernel
theorem dX5_makeFirstAgreed_2 : decode cX5_makeFirstAgreed 2 = .ok (.iload_n 1, 1) := by decide +kernel
theorem dX5_makeFirstAgreed_3 : decode cX5_makeFirstAgreed 3 = .ok (.aload_n 0, 1) := by decide +kernel
theorem dX5_makeFirstAgreed_4 : decode cX5_makeFirstAgreed 4 = .ok (.getfield 10, 3) := by decide +kernel
theorem dX5_makeFirstAgreed_7 : decode cX5_makeFirstAgreed 7 = .ok (.getfield 70, 3) := by decide +kernel
theorem dX5_makeFirstAgreed_10 : decode cX5_makeFirstAgreed 10 = .ok (.getfield 80, 3) := by decide +kernel
theorem dX5_makeFirstAgreed_13 : decode cX5_makeFirstAgreed 13 = .ok (.if_icmp .ge 47, 3) := by decide +kernel
theorem dX5_makeFirstAgreed_16 : decode cX5_makeFirstAgreed 16 = .ok (.iconst 0, 1) := by decide +kernel
theorem dX5_makeFirstAgreed_17 : decode cX5_makeFirstAgreed 17 = .ok (.istore_n 2, 1) := by decide +kernel
theorem dX5_makeFirstAgreed_18 : decode cX5_makeFirstAgreed 18 = .ok (.iload_n 2, 1) := by decide +kernel
theorem dX5_makeFirstAgreed_19 : decode cX5_makeFirstAgreed 19 = .ok (.bipush 6, 2) := by decide +kernel
theorem dX5_makeFirstAgreed_21 : decode cX5_makeFirstAgreed 21 = .ok (.if_icmp .ge 33, 3) := by decide +kernel
theorem dX5_makeFirstAgreed_24 : decode cX5_makeFirstAgreed 24 = .ok (.aload_n 0, 1) := by decide +kernel
theorem dX5_makeFirstAgreed_25 : decode cX5_makeFirstAgreed 25 = .ok (.iload_n 1, 1) := by decide +kernel
theorem dX5_makeFirstAgreed_26 : decode cX5_makeFirstAgreed 26 = .ok (.iload_n 2, 1) := by decide +kernel
theorem dX5_makeFirstAgreed_27 : decode cX5_makeFirstAgreed 27 = .ok (.invokevirtual 276, 3) := by decide +kernel
theorem dX5_makeFirstAgreed_30 : decode cX5_makeFirstAgreed 30 = .ok (.istore_n 3, 1) := by decide +kernel
theorem dX5_makeFirstAgreed_31 : decode cX5_makeFirstAgreed 31 = .ok (.iload_n 3, 1) := by decide +kernel
theorem dX5_makeFirstAgreed_32 : decode cX5_makeFirstAgreed 32 = .ok (.ifCond .lt 16, 3) := by decide +kernel
theorem dX5_makeFirstAgreed_35 : decode cX5_makeFirstAgreed 35 = .ok (.aload_n 0, 1) := by decide +kernel
theorem dX5_makeFirstAgreed_36 : decode cX5_makeFirstAgreed 36 = .ok (.getfield 10, 3) := by decide +kernel
theorem dX5_makeFirstAgreed_39 : decode cX5_makeFirstAgreed 39 = .ok (.iload_n 1, 1) := by decide +kernel
theorem dX5_makeFirstAgreed_40 : decode cX5_makeFirstAgreed 40 = .ok (.iload_n 2, 1) := by decide +kernel
theorem dX5_makeFirstAgreed_41 : decode cX5_makeFirstAgreed 41 = .ok (.iload_n 3, 1) := by decide +kernel
theorem dX5_makeFirstAgreed_42 : decode cX5_makeFirstAgreed 42 = .ok (.invokevirtual 163, 3) := by decide +kernel
theorem dX5_makeFirstAgreed_45 : decode cX5_makeFirstAgreed 45 = .ok (.pop, 1) := by decide +kernel
theorem dX5_makeFirstAgreed_46 : decode cX5_makeFirstAgreed 46 = .ok (.iconst 1, 1) := by decide +kernel
theorem dX5_makeFirstAgreed_47 : decode cX5_makeFirstAgreed 47 = .ok (.ireturn, 1) := by decide +kernel
theorem dX5_makeFirstAgreed_48 : decode cX5_makeFirstAgreed 48 = .ok (.iinc 2 1, 3) := by decide +kernel
theorem dX5_makeFirstAgreed_51 : decode cX5_makeFirstAgreed 51 = .ok (.goto (-33), 3) := by decide +kernel
theorem dX5_makeFirstAgreed_54 : decode cX5_makeFirstAgreed 54 = .ok (.iinc 1 1, 3) := by decide +kernel
theorem dX5_makeFirstAgreed_57 : decode cX5_makeFirstAgreed 57 = .ok (.goto (-55), 3) := by decide +kernel
theorem dX5_makeFirstAgreed_60 : decode cX5_makeFirstAgreed 60 = .ok (.iconst 0, 1) := by decide +kernel
theorem dX5_makeFirstAgreed_61 : decode cX5_makeFirstAgreed 61 = .ok (.ireturn, 1) := by decide +kernel
theorem dX5_dealOne_0 : decode cX5_dealOne 0 = .ok (.aload_n 1, 1) := by decide +kernel
theorem dX5_dealOne_1 : decode cX5_dealOne 1 = .ok (.iload_n 2, 1) := by decide +kernel
theorem dX5_dealOne_2 : decode cX5_dealOne 2 = .ok (.iconst 3, 1) := by decide +kernel
theorem dX5_dealOne_3 : decode cX5_dealOne 3 = .ok (.invokevirtual 247, 3) := by decide +kernel
theorem dX5_dealOne_6 : decode cX5_dealOne 6 = .ok (.ifCond .eq 36, 3) := by decide +kernel
theorem dX5_dealOne_9 : decode cX5_dealOne 9 = .ok (.aload_n 0, 1) := by decide +kernel
theorem dX5_dealOne_10 : decode cX5_dealOne 10 = .ok (.aload_n 1, 1) := by decide +kernel
theorem dX5_dealOne_11 : decode cX5_dealOne 11 = .ok (.getfield 261, 3) := by decide +kernel
theorem dX5_dealOne_14 : decode cX5_dealOne 14 = .ok (.iload_n 2, 1) := by decide +kernel
theorem dX5_dealOne_15 : decode cX5_dealOne 15 = .ok (.iaload, 1) := by decide +kernel
theorem dX5_dealOne_16 : decode cX5_dealOne 16 = .ok (.aload_n 1, 1) := by decide +kernel
theorem dX5_dealOne_17 : decode cX5_dealOne 17 = .ok (.getfield 261, 3) := by decide +kernel
theorem dX5_dealOne_20 : decode cX5_dealOne 20 = .ok (.iload_n 2, 1) := by decide +kernel
theorem dX5_dealOne_21 : decode cX5_dealOne 21 = .ok (.iconst 1, 1) := by decide +kernel
theorem dX5_dealOne_22 : decode cX5_dealOne 22 = .ok (.iadd, 1) := by decide +kernel
theorem dX5_dealOne_23 : decode cX5_dealOne 23 = .ok (.iaload, 1) := by decide +kernel
theorem dX5_dealOne_24 : decode cX5_dealOne 24 = .ok (.aload_n 1, 1) := by decide +kernel
theorem dX5_dealOne_25 : decode cX5_dealOne 25 = .ok (.getfield 261, 3) := by decide +kernel
theorem dX5_dealOne_28 : decode cX5_dealOne 28 = .ok (.iload_n 2, 1) := by decide +kernel
theorem dX5_dealOne_29 : decode cX5_dealOne 29 = .ok (.iconst 2, 1) := by decide +kernel
theorem dX5_dealOne_30 : decode cX5_dealOne 30 = .ok (.iadd, 1) := by decide +kernel
theorem dX5_dealOne_31 : decode cX5_dealOne 31 = .ok (.iaload, 1) := by decide +kernel
theorem dX5_dealOne_32 : decode cX5_dealOne 32 = .ok (.invokevirtual 279, 3) := by decide +kernel
theorem dX5_dealOne_35 : decode cX5_dealOne 35 = .ok (.ifCond .lt 7, 3) := by decide +kernel
theorem dX5_dealOne_38 : decode cX5_dealOne 38 = .ok (.iconst 1, 1) := by decide +kernel
theorem dX5_dealOne_39 : decode cX5_dealOne 39 = .ok (.goto 4, 3) := by decide +kernel
theorem dX5_dealOne_42 : decode cX5_dealOne 42 = .ok (.iconst 0, 1) := by decide +kernel
theorem dX5_dealOne_43 : decode cX5_dealOne 43 = .ok (.ireturn, 1) := by decide +kernel
theorem dX6_in_0 : decode cX6_in 0 = .ok (.lload_n 0, 1) := by decide +kernel
theorem dX6_in_1 : decode cX6_in 1 = .ok (.lload_n 2, 1) := by decide +kernel
theorem dX6_in_2 : decode cX6_in 2 = .ok (.lcmp, 1) := by decide +kernel
theorem dX6_in_3 : decode cX6_in 3 = .ok (.ifCond .lt 14, 3) := by decide +kernel
theorem dX6_in_6 : decode cX6_in 6 = .ok (.lload_n 0, 1) := by decide +kernel
theorem dX6_in_7 : decode cX6_in 7 = .ok (.lload 4, 2) := by decide +kernel
theorem dX6_in_9 : decode cX6_in 9 = .ok (.lcmp, 1) := by decide +kernel
theorem dX6_in_10 : decode cX6_in 10 = .ok (.ifCond .gt 7, 3) := by decide +kernel
theorem dX6_in_13 : decode cX6_in 13 = .ok (.iconst 1, 1) := by decide +kernel
theorem dX6_in_14 : decode cX6_in 14 = .ok (.goto 4, 3) := by decide +kernel
theorem dX6_in_17 : decode cX6_in 17 = .ok (.iconst 0, 1) := by decide +kernel
theorem dX6_in_18 : decode cX6_in 18 = .ok (.ireturn, 1) := by decide +kernel
theorem dX6_init_0 : decode cX6_init 0 = .ok (.aload_n 0, 1) := by decide +kernel
theorem dX6_init_1 : decode cX6_init 1 = .ok (.invokespecial 1, 3) := by decide +kernel
theorem dX6_init_4 : decode cX6_init 4 = .ok (.aload_n 0, 1) := by decide +kernel
theorem dX6_init_5 : decode cX6_init 5 = .ok (.bipush 6, 2) := by decide +kernel
theorem dX6_init_7 : decode cX6_init 7 = .ok (.newarray .int, 2) := by decide +kernel
theorem dX6_init_9 : decode cX6_init 9 = .ok (.putfield 7, 3) := by decide +kernel
theorem dX6_init_12 : decode cX6_init 12 = .ok (.aload_n 0, 1) := by decide +kernel
theorem dX6_init_13 : decode cX6_init 13 = .ok (.bipush 6, 2) := by decide +kernel
theorem dX6_init_15 : decode cX6_init 15 = .ok (.newarray .int, 2) := by decide +kernel
theorem dX6_init_17 : decode cX6_init 17 = .ok (.putfield 13, 3) := by decide +kernel
theorem dX6_init_20 : decode cX6_init 20 = .ok (.aload_n 0, 1) := by decide +kernel
theorem dX6_init_21 : decode cX6_init 21 = .ok (.iconst 2, 1) := by decide +kernel
theorem dX6_init_22 : decode cX6_init 22 = .ok (.newarray .int, 2) := by decide +kernel
theorem dX6_init_24 : decode cX6_init 24 = .ok (.putfield 16, 3) := by decide +kernel
theorem dX6_init_27 : decode cX6_init 27 = .ok (.aload_n 0, 1) := by decide +kernel
theorem dX6_init_28 : decode cX6_init 28 = .ok (.bipush 8, 2) := by decide +kernel
theorem dX6_init_30 : decode cX6_init 30 = .ok (.newarray .int, 2) := by decide +kernel
theorem dX6_init_32 : decode cX6_init 32 = .ok (.putfield 19, 3) := by decide +kernel
theorem dX6_init_35 : decode cX6_init 35 = .ok (.aload_n 0, 1) := by decide +kernel
theorem dX6_init_36 : decode cX6_init 36 = .ok (.bipush 48, 2) := by decide +kernel
theorem dX6_init_38 : decode cX6_init 38 = .ok (.newarray .int, 2) := by decide +kernel
theorem dX6_init_40 : decode cX6_init 40 = .ok (.putfield 22, 3) := by decide +kernel
theorem dX6_init_43 : decode cX6_init 43 = .ok (.aload_n 0, 1) := by decide +kernel
theorem dX6_init_44 : decode cX6_init 44 = .ok (.bipush 12, 2) := by decide +kernel
theorem dX6_init_46 : decode cX6_init 46 = .ok (.newarray .int, 2) := by decide +kernel
theorem dX6_init_48 : decode cX6_init 48 = .ok (.putfield 25, 3) := by decide +kernel
theorem dX6_init_51 : decode cX6_init 51 = .ok (.aload_n 0, 1) := by decide +kernel
theorem dX6_init_52 : decode cX6_init 52 = .ok (.bipush 12, 2) := by decide +kernel
theorem dX6_init_54 : decode cX6_init 54 = .ok (.newarray .int, 2) := by decide +kernel
theorem dX6_init_56 : decode cX6_init 56 = .ok (.putfield 28, 3) := by decide +kernel
theorem dX6_init_59 : decode cX6_init 59 = .ok (.aload_n 0, 1) := by decide +kernel
theorem dX6_init_60 : decode cX6_init 60 = .ok (.bipush 80, 2) := by decide +kernel
theorem dX6_init_62 : decode cX6_init 62 = .ok (.newarray .int, 2) := by decide +kernel
theorem dX6_init_64 : decode cX6_init 64 = .ok (.putfield 31, 3) := by decide +kernel
theorem dX6_init_67 : decode cX6_init 67 = .ok (.aload_n 0, 1) := by decide +kernel
theorem dX6_init_68 : decode cX6_init 68 = .ok (.bipush 56, 2) := by decide +kernel
theorem dX6_init_70 : decode cX6_init 70 = .ok (.newarray .int, 2) := by decide +kernel
theorem dX6_init_72 : decode cX6_init 72 = .ok (.putfield 34, 3) := by decide +kernel
theorem dX6_init_75 : decode cX6_init 75 = .ok (.aload_n 0, 1) := by decide +kernel
theorem dX6_init_76 : decode cX6_init 76 = .ok (.bipush 8, 2) := by decide +kernel
theorem dX6_init_78 : decode cX6_init 78 = .ok (.newarray .int, 2) := by decide +kernel
theorem dX6_init_80 : decode cX6_init 80 = .ok (.putfield 37, 3) := by decide +kernel
theorem dX6_init_83 : decode cX6_init 83 = .ok (.aload_n 0, 1) := by decide +kernel
theorem dX6_init_84 : decode cX6_init 84 = .ok (.bipush 12, 2) := by decide +kernel
theorem dX6_init_86 : decode cX6_init 86 = .ok (.newarray .int, 2) := by decide +kernel
theorem dX6_init_88 : decode cX6_init 88 = .ok (.putfield 40, 3) := by decide +kernel
theorem dX6_init_91 : decode cX6_init 91 = .ok (.aload_n 0, 1) := by decide +kernel
theorem dX6_init_92 : decode cX6_init 92 = .ok (.bipush 12, 2) := by decide +kernel
theorem dX6_init_94 : decode cX6_init 94 = .ok (.newarray .int, 2) := by decide +kernel
theorem dX6_init_96 : decode cX6_init 96 = .ok (.putfield 43, 3) := by decide +kernel
theorem dX6_init_99 : decode cX6_init 99 = .ok (.aload_n 0, 1) := by decide +kernel
theorem dX6_init_100 : decode cX6_init 100 = .ok (.iconst 3, 1) := by decide +kernel
theorem dX6_init_101 : decode cX6_init 101 = .ok (.newarray .int, 2) := by decide +kernel
theorem dX6_init_103 : decode cX6_init 103 = .ok (.putfield 46, 3) := by decide +kernel
theorem dX6_init_106 : decode cX6_init 106 = .ok (.aload_n 0, 1) := by decide +kernel
theorem dX6_init_107 : decode cX6_init 107 = .ok (.iconst 3, 1) := by decide +kernel
theorem dX6_init_108 : decode cX6_init 108 = .ok (.newarray .int, 2) := by decide +kernel
theorem dX6_init_110 : decode cX6_init 110 = .ok (.putfield 49, 3) := by decide +kernel
theorem dX6_init_113 : decode cX6_init 113 = .ok (.aload_n 0, 1) := by decide +kernel
theorem dX6_init_114 : decode cX6_init 114 = .ok (.bipush 110, 2) := by decide +kernel
theorem dX6_init_116 : decode cX6_init 116 = .ok (.newarray .int, 2) := by decide +kernel
theorem dX6_init_118 : decode cX6_init 118 = .ok (.putfield 52, 3) := by decide +kernel
theorem dX6_init_121 : decode cX6_init 121 = .ok (.aload_n 0, 1) := by decide +kernel
theorem dX6_init_122 : decode cX6_init 122 = .ok (.iconst 4, 1) := by decide +kernel
theorem dX6_init_123 : decode cX6_init 123 = .ok (.newarray .int, 2) := by decide +kernel
theorem dX6_init_125 : decode cX6_init 125 = .ok (.putfield 55, 3) := by decide +kernel
theorem dX6_init_128 : decode cX6_init 128 = .ok (.aload_n 0, 1) := by decide +kernel
theorem dX6_init_129 : decode cX6_init 129 = .ok (.iconst 4, 1) := by decide +kernel
theorem dX6_init_130 : decode cX6_init 130 = .ok (.newarray .int, 2) := by decide +kernel
theorem dX6_init_132 : decode cX6_init 132 = .ok (.putfield 58, 3) := by decide +kernel
theorem dX6_init_135 : decode cX6_init 135 = .ok (.aload_n 0, 1) := by decide +kernel
theorem dX6_init_136 : decode cX6_init 136 = .ok (.bipush 96, 2) := by decide +kernel
theorem dX6_init_138 : decode cX6_init 138 = .ok (.newarray .int, 2) := by decide +kernel
theorem dX6_init_140 : decode cX6_init 140 = .ok (.putfield 61, 3) := by decide +kernel
theorem dX6_init_143 : decode cX6_init 143 = .ok (.aload_n 0, 1) := by decide +kernel
theorem dX6_init_144 : decode cX6_init 144 = .ok (.bipush 24, 2) := by decide +kernel
theorem dX6_init_146 : decode cX6_init 146 = .ok (.newarray .int, 2) := by decide +kernel
theorem dX6_init_148 : decode cX6_init 148 = .ok (.putfield 64, 3) := by decide +kernel
theorem dX6_init_151 : decode cX6_init 151 = .ok (.iconst 0, 1) := by decide +kernel
theorem dX6_init_152 : decode cX6_init 152 = .ok (.istore_n 1, 1) := by decide +kernel
theorem dX6_init_153 : decode cX6_init 153 = .ok (.iload_n 1, 1) := by decide +kernel
theorem dX6_init_154 : decode cX6_init 154 = .ok (.iconst 4, 1) := by decide +kernel
theorem dX6_init_155 : decode cX6_init 155 = .ok (.if_icmp .ge 16, 3) := by decide +kernel
theorem dX6_init_158 : decode cX6_init 158 = .ok (.aload_n 0, 1) := by decide +kernel
theorem dX6_init_159 : decode cX6_init 159 = .ok (.getfield 55, 3) := by decide +kernel
theorem dX6_init_162 : decode cX6_init 162 = .ok (.iload_n 1, 1) := by decide +kernel
theorem dX6_init_163 : decode cX6_init 163 = .ok (.iconst (-1), 1) := by decide +kernel
theorem dX6_init_164 : decode cX6_init 164 = .ok (.iastore, 1) := by decide +kernel
theorem dX6_init_165 : decode cX6_init 165 = .ok (.iinc 1 1, 3) := by decide +kernel
theorem dX6_init_168 : decode cX6_init 168 = .ok (.goto (-15), 3) := by decide +kernel
theorem dX6_init_171 : decode cX6_init 171 = .ok (.iconst 0, 1) := by decide +kernel
theorem dX6_init_172 : decode cX6_init 172 = .ok (.istore_n 1, 1) := by decide +kernel
theorem dX6_init_173 : decode cX6_init 173 = .ok (.iload_n 1, 1) := by decide +kernel
theorem dX6_init_174 : decode cX6_init 174 = .ok (.bipush 6, 2) := by decide +kernel
theorem dX6_init_176 : decode cX6_init 176 = .ok (.if_icmp .ge 24, 3) := by decide +kernel
theorem dX6_init_179 : decode cX6_init 179 = .ok (.aload_n 0, 1) := by decide +kernel
theorem dX6_init_180 : decode cX6_init 180 = .ok (.getfield 7, 3) := by decide +kernel
theorem dX6_init_183 : decode cX6_init 183 = .ok (.iload_n 1, 1) := by decide +kernel
theorem dX6_init_184 : decode cX6_init 184 = .ok (.bipush 50, 2) := by decide +kernel
theorem dX6_init_186 : decode cX6_init 186 = .ok (.iastore, 1) := by decide +kernel
theorem dX6_init_187 : decode cX6_init 187 = .ok (.aload_n 0, 1) := by decide +kernel
theorem dX6_init_188 : decode cX6_init 188 = .ok (.getfield 13, 3) := by decide +kernel
theorem dX6_init_191 : decode cX6_init 191 = .ok (.iload_n 1, 1) := by decide +kernel
theorem dX6_init_192 : decode cX6_init 192 = .ok (.iconst 3, 1) := by decide +kernel
theorem dX6_init_193 : decode cX6_init 193 = .ok (.iastore, 1) := by decide +kernel
theorem dX6_init_194 : decode cX6_init 194 = .ok (.iinc 1 1, 3) := by decide +kernel
theorem dX6_init_197 : decode cX6_init 197 = .ok (.goto (-24), 3) := by decide +kernel
theorem dX6_init_200 : decode cX6_init 200 = .ok (.return_, 1) := by decide +kernel
theorem dX6_isPerson_0 : decode cX6_isPerson 0 = .ok (.iload_n 0, 1) := by decide +kernel
theorem dX6_isPerson_1 : decode cX6_isPerson 1 = .ok (.i2l, 1) := by decide +kernel
theorem dX6_isPerson_2 : decode cX6_isPerson 2 = .ok (.lconst 0, 1) := by decide +kernel
theorem dX6_isPerson_3 : decode cX6_isPerson 3 = .ok (.ldc2_w 67, 3) := by decide +kernel
theorem dX6_isPerson_6 : decode cX6_isPerson 6 = .ok (.invokestatic 69, 3) := by decide +kernel
theorem dX6_isPerson_9 : decode cX6_isPerson 9 = .ok (.ireturn, 1) := by decide +kernel
theorem dX6_isThing_0 : decode cX6_isThing 0 = .ok (.iload_n 1, 1) := by decide +kernel
theorem dX6_isThing_1 : decode cX6_isThing 1 = .ok (.i2l, 1) := by decide +kernel
theorem dX6_isThing_2 : decode cX6_isThing 2 = .ok (.lconst 0, 1) := by decide +kernel
theorem dX6_isThing_3 : decode cX6_isThing 3 = .ok (.aload_n 0, 1) := by decide +kernel
theorem dX6_isThing_4 : decode cX6_isThing 4 = .ok (.getfield 73, 3) := by decide +kernel
theorem dX6_isThing_7 : decode cX6_isThing 7 = .ok (.iconst 1, 1) := by decide +kernel
theorem dX6_isThing_8 : decode cX6_isThing 8 = .ok (.isub, 1) := by decide +kernel
theorem dX6_isThing_9 : decode cX6_isThing 9 = .ok (.i2l, 1) := by decide +kernel
theorem dX6_isThing_10 : decode cX6_isThing 10 = .ok (.invokestatic 69, 3) := by decide +kernel
theorem dX6_isThing_13 : decode cX6_isThing 13 = .ok (.ireturn, 1) := by decide +kernel
theorem dX6_isSide_0 : decode cX6_isSide 0 = .ok (.aload_n 0, 1) := by decide +kernel
theorem dX6_isSide_1 : decode cX6_isSide 1 = .ok (.iload_n 1, 1) := by decide +kernel
theorem dX6_isSide_2 : decode cX6_isSide 2 = .ok (.invokevirtual 77, 3) := by decide +kernel
theorem dX6_isSide_5 : decode cX6_isSide 5 = .ok (.ifCond .ne 17, 3) := by decide +kernel
theorem dX6_isSide_8 : decode cX6_isSide 8 = .ok (.iload_n 1, 1) := by decide +kernel
theorem dX6_isSide_9 : decode cX6_isSide 9 = .ok (.i2l, 1) := by decide +kernel
theorem dX6_isSide_10 : decode cX6_isSide 10 = .ok (.ldc2_w 81, 3) := by decide +kernel
theorem dX6_isSide_13 : decode cX6_isSide 13 = .ok (.ldc2_w 83, 3) := by decide +kernel
theorem dX6_isSide_16 : decode cX6_isSide 16 = .ok (.invokestatic 69, 3) := by decide +kernel
theorem dX6_isSide_19 : decode cX6_isSide 19 = .ok (.ifCond .eq 7, 3) := by decide +kernel
theorem dX6_isSide_22 : decode cX6_isSide 22 = .ok (.iconst 1, 1) := by decide +kernel
theorem dX6_isSide_23 : decode cX6_isSide 23 = .ok (.goto 4, 3) := by decide +kernel
theorem dX6_isSide_26 : decode cX6_isSide 26 = .ok (.iconst 0, 1) := by decide +kernel
theorem dX6_isSide_27 : decode cX6_isSide 27 = .ok (.ireturn, 1) := by decide +kernel
theorem dX6_stands_0 : decode cX6_stands 0 = .ok (.iload_n 1, 1) := by decide +kernel
theorem dX6_stands_1 : decode cX6_stands 1 = .ok (.bipush 10, 2) := by decide +kernel
theorem dX6_stands_3 : decode cX6_stands 3 = .ok (.if_icmp .ge 12, 3) := by decide +kernel
theorem dX6_stands_6 : decode cX6_stands 6 = .ok (.aload_n 0, 1) := by decide +kernel
theorem dX6_stands_7 : decode cX6_stands 7 = .ok (.getfield 19, 3) := by decide +kernel
theorem dX6_stands_10 : decode cX6_stands 10 = .ok (.iload_n 1, 1) := by decide +kernel
theorem dX6_stands_11 : decode cX6_stands 11 = .ok (.iaload, 1) := by decide +kernel
theorem dX6_stands_12 : decode cX6_stands 12 = .ok (.goto 7, 3) := by decide +kernel
theorem dX6_stands_15 : decode cX6_stands 15 = .ok (.iload_n 1, 1) := by decide +kernel
theorem dX6_stands_16 : decode cX6_stands 16 = .ok (.bipush 10, 2) := by decide +kernel
theorem dX6_stands_18 : decode cX6_stands 18 = .ok (.isub, 1) := by decide +kernel
theorem dX6_stands_19 : decode cX6_stands 19 = .ok (.ireturn, 1) := by decide +kernel
theorem dX6_isOver_0 : decode cX6_isOver 0 = .ok (.aload_n 0, 1) := by decide +kernel
theorem dX6_isOver_1 : decode cX6_isOver 1 = .ok (.getfield 85, 3) := by decide +kernel
theorem dX6_isOver_4 : decode cX6_isOver 4 = .ok (.iload_n 1, 1) := by decide +kernel
theorem dX6_isOver_5 : decode cX6_isOver 5 = .ok (.ishr, 1) := by decide +kernel
theorem dX6_isOver_6 : decode cX6_isOver 6 = .ok (.iconst 1, 1) := by decide +kernel
theorem dX6_isOver_7 : decode cX6_isOver 7 = .ok (.iand, 1) := by decide +kernel
theorem dX6_isOver_8 : decode cX6_isOver 8 = .ok (.iconst 1, 1) := by decide +kernel
theorem dX6_isOver_9 : decode cX6_isOver 9 = .ok (.if_icmp .ne 7, 3) := by decide +kernel
theorem dX6_isOver_12 : decode cX6_isOver 12 = .ok (.iconst 1, 1) := by decide +kernel
theorem dX6_isOver_13 : decode cX6_isOver 13 = .ok (.goto 4, 3) := by decide +kernel
theorem dX6_isOver_16 : decode cX6_isOver 16 = .ok (.iconst 0, 1) := by decide +kernel
theorem dX6_isOver_17 : decode cX6_isOver 17 = .ok (.ireturn, 1) := by decide +kernel
theorem dX6_ends_0 : decode cX6_ends 0 = .ok (.iconst 0, 1) := by decide +kernel
theorem dX6_ends_1 : decode cX6_ends 1 = .ok (.istore_n 1, 1) := by decide +kernel
theorem dX6_ends_2 : decode cX6_ends 2 = .ok (.iconst 0, 1) := by decide +kernel
theorem dX6_ends_3 : decode cX6_ends 3 = .ok (.istore_n 2, 1) := by decide +kernel
theorem dX6_ends_4 : decode cX6_ends 4 = .ok (.iload_n 2, 1) := by decide +kernel
theorem dX6_ends_5 : decode cX6_ends 5 = .ok (.aload_n 0, 1) := by decide +kernel
theorem dX6_ends_6 : decode cX6_ends 6 = .ok (.getfield 88, 3) := by decide +kernel
theorem dX6_ends_9 : decode cX6_ends 9 = .ok (.if_icmp .ge 116, 3) := by decide +kernel
theorem dX6_ends_12 : decode cX6_ends 12 = .ok (.aload_n 0, 1) := by decide +kernel
theorem dX6_ends_13 : decode cX6_ends 13 = .ok (.aload_n 0, 1) := by decide +kernel
theorem dX6_ends_14 : decode cX6_ends 14 = .ok (.getfield 25, 3) := by decide +kernel
theorem dX6_ends_17 : decode cX6_ends 17 = .ok (.iload_n 2, 1) := by decide +kernel
theorem dX6_ends_18 : decode cX6_ends 18 = .ok (.iaload, 1) := by decide +kernel
theorem dX6_ends_19 : decode cX6_ends 19 = .ok (.invokevirtual 91, 3) := by decide +kernel
theorem dX6_ends_22 : decode cX6_ends 22 = .ok (.istore_n 3, 1) := by decide +kernel
theorem dX6_ends_23 : decode cX6_ends 23 = .ok (.aload_n 0, 1) := by decide +kernel
theorem dX6_ends_24 : decode cX6_ends 24 = .ok (.aload_n 0, 1) := by decide +kernel
theorem dX6_ends_25 : decode cX6_ends 25 = .ok (.getfield 28, 3) := by decide +kernel
theorem dX6_ends_28 : decode cX6_ends 28 = .ok (.iload_n 2, 1) := by decide +kernel
theorem dX6_ends_29 : decode cX6_ends 29 = .ok (.iaload, 1) := by decide +kernel
theorem dX6_ends_30 : decode cX6_ends 30 = .ok (.invokevirtual 91, 3) := by decide +kernel
theorem dX6_ends_33 : decode cX6_ends 33 = .ok (.istore 4, 2) := by decide +kernel
theorem dX6_ends_35 : decode cX6_ends 35 = .ok (.iload_n 3, 1) := by decide +kernel
theorem dX6_ends_36 : decode cX6_ends 36 = .ok (.iload 4, 2) := by decide +kernel
theorem dX6_ends_38 : decode cX6_ends 38 = .ok (.if_icmp .ne 9, 3) := by decide +kernel
theorem dX6_ends_41 : decode cX6_ends 41 = .ok (.iload_n 3, 1) := by decide +kernel
theorem dX6_ends_42 : decode cX6_ends 42 = .ok (.bipush 6, 2) := by decide +kernel
theorem dX6_ends_44 : decode cX6_ends 44 = .ok (.if_icmp .lt 26, 3) := by decide +kernel
theorem dX6_ends_47 : decode cX6_ends 47 = .ok (.aload_n 0, 1) := by decide +kernel
theorem dX6_ends_48 : decode cX6_ends 48 = .ok (.getfield 16, 3) := by decide +kernel
theorem dX6_ends_51 : decode cX6_ends 51 = .ok (.iconst 1, 1) := by decide +kernel
theorem dX6_ends_52 : decode cX6_ends 52 = .ok (.iaload, 1) := by decide +kernel
theorem dX6_ends_53 : decode cX6_ends 53 = .ok (.iconst 1, 1) := by decide +kernel
theorem dX6_ends_54 : decode cX6_ends 54 = .ok (.if_icmp .ne 20, 3) := by decide +kernel
theorem dX6_ends_57 : decode cX6_ends 57 = .ok (.iload_n 3, 1) := by decide +kernel
theorem dX6_ends_58 : decode cX6_ends 58 = .ok (.bipush 6, 2) := by decide +kernel
theorem dX6_ends_60 : decode cX6_ends 60 = .ok (.if_icmp .eq 10, 3) := by decide +kernel
theorem dX6_ends_63 : decode cX6_ends 63 = .ok (.iload 4, 2) := by decide +kernel
theorem dX6_ends_65 : decode cX6_ends 65 = .ok (.bipush 6, 2) := by decide +kernel
theorem dX6_ends_67 : decode cX6_ends 67 = .ok (.if_icmp .ne 7, 3) := by decide +kernel
theorem dX6_ends_70 : decode cX6_ends 70 = .ok (.iconst 1, 1) := by decide +kernel
theorem dX6_ends_71 : decode cX6_ends 71 = .ok (.goto 4, 3) := by decide +kernel
theorem dX6_ends_74 : decode cX6_ends 74 = .ok (.iconst 0, 1) := by decide +kernel
theorem dX6_ends_75 : decode cX6_ends 75 = .ok (.istore 5, 2) := by decide +kernel
theorem dX6_ends_77 : decode cX6_ends 77 = .ok (.iload_n 1, 1) := by decide +kernel
theorem dX6_ends_78 : decode cX6_ends 78 = .ok (.iload 5, 2) := by decide +kernel
theorem dX6_ends_80 : decode cX6_ends 80 = .ok (.ifCond .eq 15, 3) := by decide +kernel
theorem dX6_ends_83 : decode cX6_ends 83 = .ok (.aload_n 0, 1) := by decide +kernel
theorem dX6_ends_84 : decode cX6_ends 84 = .ok (.iload_n 2, 1) := by decide +kernel
theorem dX6_ends_85 : decode cX6_ends 85 = .ok (.invokevirtual 95, 3) := by decide +kernel
theorem dX6_ends_88 : decode cX6_ends 88 = .ok (.ifCond .ne 7, 3) := by decide +kernel
theorem dX6_ends_91 : decode cX6_ends 91 = .ok (.iconst 1, 1) := by decide +kernel
theorem dX6_ends_92 : decode cX6_ends 92 = .ok (.goto 4, 3) := by decide +kernel
theorem dX6_ends_95 : decode cX6_ends 95 = .ok (.iconst 0, 1) := by decide +kernel
theorem dX6_ends_96 : decode cX6_ends 96 = .ok (.iadd, 1) := by decide +kernel
theorem dX6_ends_97 : decode cX6_ends 97 = .ok (.istore_n 1, 1) := by decide +kernel
theorem dX6_ends_98 : decode cX6_ends 98 = .ok (.aload_n 0, 1) := by decide +kernel
theorem dX6_ends_99 : decode cX6_ends 99 = .ok (.dup, 1) := by decide +kernel
theorem dX6_ends_100 : decode cX6_ends 100 = .ok (.getfield 85, 3) := by decide +kernel
theorem dX6_ends_103 : decode cX6_ends 103 = .ok (.iload 5, 2) := by decide +kernel
theorem dX6_ends_105 : decode cX6_ends 105 = .ok (.ifCond .eq 9, 3) := by decide +kernel
theorem dX6_ends_108 : decode cX6_ends 108 = .ok (.iconst 1, 1) := by decide +kernel
theorem dX6_ends_109 : decode cX6_ends 109 = .ok (.iload_n 2, 1) := by decide +kernel
theorem dX6_ends_110 : decode cX6_ends 110 = .ok (.ishl, 1) := by decide +kernel
theorem dX6_ends_111 : decode cX6_ends 111 = .ok (.goto 4, 3) := by decide +kernel
theorem dX6_ends_114 : decode cX6_ends 114 = .ok (.iconst 0, 1) := by decide +kernel
theorem dX6_ends_115 : decode cX6_ends 115 = .ok (.ior, 1) := by decide +kernel
theorem dX6_ends_116 : decode cX6_ends 116 = .ok (.putfield 85, 3) := by decide +kernel
theorem dX6_ends_119 : decode cX6_ends 119 = .ok (.iinc 2 1, 3) := by decide +kernel
theorem dX6_ends_122 : decode cX6_ends 122 = .ok (.goto (-118), 3) := by decide +kernel
theorem dX6_ends_125 : decode cX6_ends 125 = .ok (.iload_n 1, 1) := by decide +kernel
theorem dX6_ends_126 : decode cX6_ends 126 = .ok (.ireturn, 1) := by decide +kernel
theorem dX6_person_0 : decode cX6_person 0 = .ok (.iload_n 1, 1) := by decide +kernel
theorem dX6_person_1 : decode cX6_person 1 = .ok (.invokestatic 98, 3) := by decide +kernel
theorem dX6_person_4 : decode cX6_person 4 = .ok (.ifCond .eq 35, 3) := by decide +kernel
theorem dX6_person_7 : decode cX6_person 7 = .ok (.iload_n 2, 1) := by decide +kernel
theorem dX6_person_8 : decode cX6_person 8 = .ok (.i2l, 1) := by decide +kernel
theorem dX6_person_9 : decode cX6_person 9 = .ok (.lconst 0, 1) := by decide +kernel
theorem dX6_person_10 : decode cX6_person 10 = .ok (.lconst 1, 1) := by decide +kernel
theorem dX6_person_11 : decode cX6_person 11 = .ok (.invokestatic 69, 3) := by decide +kernel
theorem dX6_person_14 : decode cX6_person 14 = .ok (.ifCond .eq 25, 3) := by decide +kernel
theorem dX6_person_17 : decode cX6_person 17 = .ok (.iload_n 3, 1) := by decide +kernel
theorem dX6_person_18 : decode cX6_person 18 = .ok (.i2l, 1) := by decide +kernel
theorem dX6_person_19 : decode cX6_person 19 = .ok (.lconst 0, 1) := by decide +kernel
theorem dX6_person_20 : decode cX6_person 20 = .ok (.iload_n 2, 1) := by decide +kernel
theorem dX6_person_21 : decode cX6_person 21 = .ok (.ifCond .ne 9, 3) := by decide +kernel
theorem dX6_person_24 : decode cX6_person 24 = .ok (.ldc2_w 101, 3) := by decide +kernel
theorem dX6_person_27 : decode cX6_person 27 = .ok (.goto 6, 3) := by decide +kernel
theorem dX6_person_30 : decode cX6_person 30 = .ok (.ldc2_w 103, 3) := by decide +kernel
theorem dX6_person_33 : decode cX6_person 33 = .ok (.invokestatic 69, 3) := by decide +kernel
theorem dX6_person_36 : decode cX6_person 36 = .ok (.ifCond .ne 5, 3) := by decide +kernel
theorem dX6_person_39 : decode cX6_person 39 = .ok (.iconst (-1), 1) := by decide +kernel
theorem dX6_person_40 : decode cX6_person 40 = .ok (.ireturn, 1) := by decide +kernel
theorem dX6_person_41 : decode cX6_person 41 = .ok (.iload_n 2, 1) := by decide +kernel
theorem dX6_person_42 : decode cX6_person 42 = .ok (.ifCond .ne 12, 3) := by decide +kernel
theorem dX6_person_45 : decode cX6_person 45 = .ok (.aload_n 0, 1) := by decide +kernel
theorem dX6_person_46 : decode cX6_person 46 = .ok (.getfield 7, 3) := by decide +kernel
theorem dX6_person_49 : decode cX6_person 49 = .ok (.iload_n 1, 1) := by decide +kernel
theorem dX6_person_50 : decode cX6_person 50 = .ok (.iaload, 1) := by decide +kernel
theorem dX6_person_51 : decode cX6_person 51 = .ok (.goto 9, 3) := by decide +kernel
theorem dX6_person_54 : decode cX6_person 54 = .ok (.aload_n 0, 1) := by decide +kernel
theorem dX6_person_55 : decode cX6_person 55 = .ok (.getfield 13, 3) := by decide +kernel
theorem dX6_person_58 : decode cX6_person 58 = .ok (.iload_n 1, 1) := by decide +kernel
theorem dX6_person_59 : decode cX6_person 59 = .ok (.iaload, 1) := by decide +kernel
theorem dX6_person_60 : decode cX6_person 60 = .ok (.istore 4, 2) := by decide +kernel
theorem dX6_person_62 : decode cX6_person 62 = .ok (.iload_n 2, 1) := by decide +kernel
theorem dX6_person_63 : decode cX6_person 63 = .ok (.ifCond .ne 13, 3) := by decide +kernel
theorem dX6_person_66 : decode cX6_person 66 = .ok (.aload_n 0, 1) := by decide +kernel
theorem dX6_person_67 : decode cX6_person 67 = .ok (.getfield 7, 3) := by decide +kernel
theorem dX6_person_70 : decode cX6_person 70 = .ok (.iload_n 1, 1) := by decide +kernel
theorem dX6_person_71 : decode cX6_person 71 = .ok (.iload_n 3, 1) := by decide +kernel
theorem dX6_person_72 : decode cX6_person 72 = .ok (.iastore, 1) := by decide +kernel
theorem dX6_person_73 : decode cX6_person 73 = .ok (.goto 10, 3) := by decide +kernel
theorem dX6_person_76 : decode cX6_person 76 = .ok (.aload_n 0, 1) := by decide +kernel
theorem dX6_person_77 : decode cX6_person 77 = .ok (.getfield 13, 3) := by decide +kernel
theorem dX6_person_80 : decode cX6_person 80 = .ok (.iload_n 1, 1) := by decide +kernel
theorem dX6_person_81 : decode cX6_person 81 = .ok (.iload_n 3, 1) := by decide +kernel
theorem dX6_person_82 : decode cX6_person 82 = .ok (.iastore, 1) := by decide +kernel
theorem dX6_person_83 : decode cX6_person 83 = .ok (.iload 4, 2) := by decide +kernel
theorem dX6_person_85 : decode cX6_person 85 = .ok (.ireturn, 1) := by decide +kernel
theorem dX6_rule_0 : decode cX6_rule 0 = .ok (.iload_n 1, 1) := by decide +kernel
theorem dX6_rule_1 : decode cX6_rule 1 = .ok (.i2l, 1) := by decide +kernel
theorem dX6_rule_2 : decode cX6_rule 2 = .ok (.lconst 0, 1) := by decide +kernel
theorem dX6_rule_3 : decode cX6_rule 3 = .ok (.lconst 1, 1) := by decide +kernel
theorem dX6_rule_4 : decode cX6_rule 4 = .ok (.invokestatic 69, 3) := by decide +kernel
theorem dX6_rule_7 : decode cX6_rule 7 = .ok (.ifCond .eq 13, 3) := by decide +kernel
theorem dX6_rule_10 : decode cX6_rule 10 = .ok (.iload_n 2, 1) := by decide +kernel
theorem dX6_rule_11 : decode cX6_rule 11 = .ok (.i2l, 1) := by decide +kernel
theorem dX6_rule_12 : decode cX6_rule 12 = .ok (.lconst 0, 1) := by decide +kernel
theorem dX6_rule_13 : decode cX6_rule 13 = .ok (.lconst 1, 1) := by decide +kernel
theorem dX6_rule_14 : decode cX6_rule 14 = .ok (.invokestatic 69, 3) := by decide +kernel
theorem dX6_rule_17 : decode cX6_rule 17 = .ok (.ifCond .ne 5, 3) := by decide +kernel
theorem dX6_rule_20 : decode cX6_rule 20 = .ok (.iconst (-1), 1) := by decide +kernel
theorem dX6_rule_21 : decode cX6_rule 21 = .ok (.ireturn, 1) := by decide +kernel
theorem dX6_rule_22 : decode cX6_rule 22 = .ok (.aload_n 0, 1) := by decide +kernel
theorem dX6_rule_23 : decode cX6_rule 23 = .ok (.getfield 16, 3) := by decide +kernel
theorem dX6_rule_26 : decode cX6_rule 26 = .ok (.iload_n 1, 1) := by decide +kernel
theorem dX6_rule_27 : decode cX6_rule 27 = .ok (.iaload, 1) := by decide +kernel
theorem dX6_rule_28 : decode cX6_rule 28 = .ok (.istore_n 3, 1) := by decide +kernel
theorem dX6_rule_29 : decode cX6_rule 29 = .ok (.aload_n 0, 1) := by decide +kernel
theorem dX6_rule_30 : decode cX6_rule 30 = .ok (.getfield 16, 3) := by decide +kernel
theorem dX6_rule_33 : decode cX6_rule 33 = .ok (.iload_n 1, 1) := by decide +kernel
theorem dX6_rule_34 : decode cX6_rule 34 = .ok (.iload_n 2, 1) := by decide +kernel
theorem dX6_rule_35 : decode cX6_rule 35 = .ok (.iastore, 1) := by decide +kernel
theorem dX6_rule_36 : decode cX6_rule 36 = .ok (.aload_n 0, 1) := by decide +kernel
theorem dX6_rule_37 : decode cX6_rule 37 = .ok (.invokevirtual 105, 3) := by decide +kernel
theorem dX6_rule_40 : decode cX6_rule 40 = .ok (.pop, 1) := by decide +kernel
theorem dX6_rule_41 : decode cX6_rule 41 = .ok (.iload_n 3, 1) := by decide +kernel
theorem dX6_rule_42 : decode cX6_rule 42 = .ok (.ireturn, 1) := by decide +kernel
theorem dX6_thing_0 : decode cX6_thing 0 = .ok (.iload_n 1, 1) := by decide +kernel
theorem dX6_thing_1 : decode cX6_thing 1 = .ok (.i2l, 1) := by decide +kernel
theorem dX6_thing_2 : decode cX6_thing 2 = .ok (.lconst 0, 1) := by decide +kernel
theorem dX6_thing_3 : decode cX6_thing 3 = .ok (.ldc2_w 109, 3) := by decide +kernel
theorem dX6_thing_6 : decode cX6_thing 6 = .ok (.invokestatic 69, 3) := by decide +kernel
theorem dX6_thing_9 : decode cX6_thing 9 = .ok (.ifCond .ne 5, 3) := by decide +kernel
theorem dX6_thing_12 : decode cX6_thing 12 = .ok (.iconst (-1), 1) := by decide +kernel
theorem dX6_thing_13 : decode cX6_thing 13 = .ok (.ireturn, 1) := by decide +kernel
theorem dX6_thing_14 : decode cX6_thing 14 = .ok (.aload_n 0, 1) := by decide +kernel
theorem dX6_thing_15 : decode cX6_thing 15 = .ok (.getfield 73, 3) := by decide +kernel
theorem dX6_thing_18 : decode cX6_thing 18 = .ok (.bipush 8, 2) := by decide +kernel
theorem dX6_thing_20 : decode cX6_thing 20 = .ok (.if_icmp .ne 6, 3) := by decide +kernel
theorem dX6_thing_23 : decode cX6_thing 23 = .ok (.bipush (-3), 2) := by decide +kernel
theorem dX6_thing_25 : decode cX6_thing 25 = .ok (.ireturn, 1) := by decide +kernel
theorem dX6_thing_26 : decode cX6_thing 26 = .ok (.aload_n 0, 1) := by decide +kernel
theorem dX6_thing_27 : decode cX6_thing 27 = .ok (.getfield 19, 3) := by decide +kernel
theorem dX6_thing_30 : decode cX6_thing 30 = .ok (.aload_n 0, 1) := by decide +kernel
theorem dX6_thing_31 : decode cX6_thing 31 = .ok (.getfield 73, 3) := by decide +kernel
theorem dX6_thing_34 : decode cX6_thing 34 = .ok (.iload_n 1, 1) := by decide +kernel
theorem dX6_thing_35 : decode cX6_thing 35 = .ok (.iastore, 1) := by decide +kernel
theorem dX6_thing_36 : decode cX6_thing 36 = .ok (.iconst 0, 1) := by decide +kernel
theorem dX6_thing_37 : decode cX6_thing 37 = .ok (.istore_n 2, 1) := by decide +kernel
theorem dX6_thing_38 : decode cX6_thing 38 = .ok (.iload_n 2, 1) := by decide +kernel
theorem dX6_thing_39 : decode cX6_thing 39 = .ok (.bipush 6, 2) := by decide +kernel
theorem dX6_thing_41 : decode cX6_thing 41 = .ok (.if_icmp .ge 24, 3) := by decide +kernel
theorem dX6_thing_44 : decode cX6_thing 44 = .ok (.aload_n 0, 1) := by decide +kernel
theorem dX6_thing_45 : decode cX6_thing 45 = .ok (.getfield 22, 3) := by decide +kernel
theorem dX6_thing_48 : decode cX6_thing 48 = .ok (.bipush 6, 2) := by decide +kernel
theorem dX6_thing_50 : decode cX6_thing 50 = .ok (.aload_n 0, 1) := by decide +kernel
theorem dX6_thing_51 : decode cX6_thing 51 = .ok (.getfield 73, 3) := by decide +kernel
theorem dX6_thing_54 : decode cX6_thing 54 = .ok (.imul, 1) := by decide +kernel
theorem dX6_thing_55 : decode cX6_thing 55 = .ok (.iload_n 2, 1) := by decide +kernel
theorem dX6_thing_56 : decode cX6_thing 56 = .ok (.iadd, 1) := by decide +kernel
theorem dX6_thing_57 : decode cX6_thing 57 = .ok (.iconst 5, 1) := by decide +kernel
theorem dX6_thing_58 : decode cX6_thing 58 = .ok (.iastore, 1) := by decide +kernel
theorem dX6_thing_59 : decode cX6_thing 59 = .ok (.iinc 2 1, 3) := by decide +kernel
theorem dX6_thing_62 : decode cX6_thing 62 = .ok (.goto (-24), 3) := by decide +kernel
theorem dX6_thing_65 : decode cX6_thing 65 = .ok (.aload_n 0, 1) := by decide +kernel
theorem dX6_thing_66 : decode cX6_thing 66 = .ok (.dup, 1) := by decide +kernel
theorem dX6_thing_67 : decode cX6_thing 67 = .ok (.getfield 73, 3) := by decide +kernel
theorem dX6_thing_70 : decode cX6_thing 70 = .ok (.iconst 1, 1) := by decide +kernel
theorem dX6_thing_71 : decode cX6_thing 71 = .ok (.iadd, 1) := by decide +kernel
theorem dX6_thing_72 : decode cX6_thing 72 = .ok (.putfield 73, 3) := by decide +kernel
theorem dX6_thing_75 : decode cX6_thing 75 = .ok (.aload_n 0, 1) := by decide +kernel
theorem dX6_thing_76 : decode cX6_thing 76 = .ok (.getfield 73, 3) := by decide +kernel
theorem dX6_thing_79 : decode cX6_thing 79 = .ok (.iconst 1, 1) := by decide +kernel
theorem dX6_thing_80 : decode cX6_thing 80 = .ok (.isub, 1) := by decide +kernel
theorem dX6_thing_81 : decode cX6_thing 81 = .ok (.ireturn, 1) := by decide +kernel
theorem dX6_worth_0 : decode cX6_worth 0 = .ok (.aload_n 0, 1) := by decide +kernel
theorem dX6_worth_1 : decode cX6_worth 1 = .ok (.iload_n 1, 1) := by decide +kernel
theorem dX6_worth_2 : decode cX6_worth 2 = .ok (.invokevirtual 77, 3) := by decide +kernel
theorem dX6_worth_5 : decode cX6_worth 5 = .ok (.ifCond .eq 22, 3) := by decide +kernel
theorem dX6_worth_8 : decode cX6_worth 8 = .ok (.iload_n 2, 1) := by decide +kernel
theorem dX6_worth_9 : decode cX6_worth 9 = .ok (.invokestatic 98, 3) := by decide +kernel
theorem dX6_worth_12 : decode cX6_worth 12 = .ok (.ifCond .eq 15, 3) := by decide +kernel
theorem dX6_worth_15 : decode cX6_worth 15 = .ok (.iload_n 3, 1) := by decide +kernel
theorem dX6_worth_16 : decode cX6_worth 16 = .ok (.i2l, 1) := by decide +kernel
theorem dX6_worth_17 : decode cX6_worth 17 = .ok (.lconst 0, 1) := by decide +kernel
theorem dX6_worth_18 : decode cX6_worth 18 = .ok (.ldc2_w 103, 3) := by decide +kernel
theorem dX6_worth_21 : decode cX6_worth 21 = .ok (.invokestatic 69, 3) := by decide +kernel
theorem dX6_worth_24 : decode cX6_worth 24 = .ok (.ifCond .ne 5, 3) := by decide +kernel
theorem dX6_worth_27 : decode cX6_worth 27 = .ok (.iconst (-1), 1) := by decide +kernel
theorem dX6_worth_28 : decode cX6_worth 28 = .ok (.ireturn, 1) := by decide +kernel
theorem dX6_worth_29 : decode cX6_worth 29 = .ok (.aload_n 0, 1) := by decide +kernel
theorem dX6_worth_30 : decode cX6_worth 30 = .ok (.getfield 22, 3) := by decide +kernel
theorem dX6_worth_33 : decode cX6_worth 33 = .ok (.bipush 6, 2) := by decide +kernel
theorem dX6_worth_35 : decode cX6_worth 35 = .ok (.iload_n 1, 1) := by decide +kernel
theorem dX6_worth_36 : decode cX6_worth 36 = .ok (.imul, 1) := by decide +kernel
theorem dX6_worth_37 : decode cX6_worth 37 = .ok (.iload_n 2, 1) := by decide +kernel
theorem dX6_worth_38 : decode cX6_worth 38 = .ok (.iadd, 1) := by decide +kernel
theorem dX6_worth_39 : decode cX6_worth 39 = .ok (.iaload, 1) := by decide +kernel
theorem dX6_worth_40 : decode cX6_worth 40 = .ok (.istore 4, 2) := by decide +kernel
theorem dX6_worth_42 : decode cX6_worth 42 = .ok (.aload_n 0, 1) := by decide +kernel
theorem dX6_worth_43 : decode cX6_worth 43 = .ok (.getfield 22, 3) := by decide +kernel
theorem dX6_worth_46 : decode cX6_worth 46 = .ok (.bipush 6, 2) := by decide +kernel
theorem dX6_worth_48 : decode cX6_worth 48 = .ok (.iload_n 1, 1) := by decide +kernel
theorem dX6_worth_49 : decode cX6_worth 49 = .ok (.imul, 1) := by decide +kernel
theorem dX6_worth_50 : decode cX6_worth 50 = .ok (.iload_n 2, 1) := by decide +kernel
theorem dX6_worth_51 : decode cX6_worth 51 = .ok (.iadd, 1) := by decide +kernel
theorem dX6_worth_52 : decode cX6_worth 52 = .ok (.iload_n 3, 1) := by decide +kernel
theorem dX6_worth_53 : decode cX6_worth 53 = .ok (.iastore, 1) := by decide +kernel
theorem dX6_worth_54 : decode cX6_worth 54 = .ok (.iload 4, 2) := by decide +kernel
theorem dX6_worth_56 : decode cX6_worth 56 = .ok (.ireturn, 1) := by decide +kernel
theorem dX6_comes_0 : decode cX6_comes 0 = .ok (.aload_n 0, 1) := by decide +kernel
theorem dX6_comes_1 : decode cX6_comes 1 = .ok (.getfield 25, 3) := by decide +kernel
theorem dX6_comes_4 : decode cX6_comes 4 = .ok (.aload_n 0, 1) := by decide +kernel
theorem dX6_comes_5 : decode cX6_comes 5 = .ok (.getfield 88, 3) := by decide +kernel
theorem dX6_comes_8 : decode cX6_comes 8 = .ok (.iload_n 1, 1) := by decide +kernel
theorem dX6_comes_9 : decode cX6_comes 9 = .ok (.iastore, 1) := by decide +kernel
theorem dX6_comes_10 : decode cX6_comes 10 = .ok (.aload_n 0, 1) := by decide +kernel
theorem dX6_comes_11 : decode cX6_comes 11 = .ok (.getfield 28, 3) := by decide +kernel
theorem dX6_comes_14 : decode cX6_comes 14 = .ok (.aload_n 0, 1) := by decide +kernel
theorem dX6_comes_15 : decode cX6_comes 15 = .ok (.getfield 88, 3) := by decide +kernel
theorem dX6_comes_18 : decode cX6_comes 18 = .ok (.iload_n 2, 1) := by decide +kernel
theorem dX6_comes_19 : decode cX6_comes 19 = .ok (.iastore, 1) := by decide +kernel
theorem dX6_comes_20 : decode cX6_comes 20 = .ok (.aload_n 0, 1) := by decide +kernel
theorem dX6_comes_21 : decode cX6_comes 21 = .ok (.dup, 1) := by decide +kernel
theorem dX6_comes_22 : decode cX6_comes 22 = .ok (.getfield 85, 3) := by decide +kernel
theorem dX6_comes_25 : decode cX6_comes 25 = .ok (.iconst 1, 1) := by decide +kernel
theorem dX6_comes_26 : decode cX6_comes 26 = .ok (.aload_n 0, 1) := by decide +kernel
theorem dX6_comes_27 : decode cX6_comes 27 = .ok (.getfield 88, 3) := by decide +kernel
theorem dX6_comes_30 : decode cX6_comes 30 = .ok (.ishl, 1) := by decide +kernel
theorem dX6_comes_31 : decode cX6_comes 31 = .ok (.iconst (-1), 1) := by decide +kernel
theorem dX6_comes_32 : decode cX6_comes 32 = .ok (.ixor, 1) := by decide +kernel
theorem dX6_comes_33 : decode cX6_comes 33 = .ok (.iand, 1) := by decide +kernel
theorem dX6_comes_34 : decode cX6_comes 34 = .ok (.putfield 85, 3) := by decide +kernel
theorem dX6_comes_37 : decode cX6_comes 37 = .ok (.aload_n 0, 1) := by decide +kernel
theorem dX6_comes_38 : decode cX6_comes 38 = .ok (.dup, 1) := by decide +kernel
theorem dX6_comes_39 : decode cX6_comes 39 = .ok (.getfield 88, 3) := by decide +kernel
theorem dX6_comes_42 : decode cX6_comes 42 = .ok (.iconst 1, 1) := by decide +kernel
theorem dX6_comes_43 : decode cX6_comes 43 = .ok (.iadd, 1) := by decide +kernel
theorem dX6_comes_44 : decode cX6_comes 44 = .ok (.putfield 88, 3) := by decide +kernel
theorem dX6_comes_47 : decode cX6_comes 47 = .ok (.aload_n 0, 1) := by decide +kernel
theorem dX6_comes_48 : decode cX6_comes 48 = .ok (.invokevirtual 105, 3) := by decide +kernel
theorem dX6_comes_51 : decode cX6_comes 51 = .ok (.pop, 1) := by decide +kernel
theorem dX6_comes_52 : decode cX6_comes 52 = .ok (.aload_n 0, 1) := by decide +kernel
theorem dX6_comes_53 : decode cX6_comes 53 = .ok (.getfield 88, 3) := by decide +kernel
theorem dX6_comes_56 : decode cX6_comes 56 = .ok (.iconst 1, 1) := by decide +kernel
theorem dX6_comes_57 : decode cX6_comes 57 = .ok (.isub, 1) := by decide +kernel
theorem dX6_comes_58 : decode cX6_comes 58 = .ok (.ireturn, 1) := by decide +kernel
theorem dX6_suit_0 : decode cX6_suit 0 = .ok (.aload_n 0, 1) := by decide +kernel
theorem dX6_suit_1 : decode cX6_suit 1 = .ok (.iload_n 1, 1) := by decide +kernel
theorem dX6_suit_2 : decode cX6_suit 2 = .ok (.invokevirtual 111, 3) := by decide +kernel
theorem dX6_suit_5 : decode cX6_suit 5 = .ok (.ifCond .eq 16, 3) := by decide +kernel
theorem dX6_suit_8 : decode cX6_suit 8 = .ok (.aload_n 0, 1) := by decide +kernel
theorem dX6_suit_9 : decode cX6_suit 9 = .ok (.iload_n 2, 1) := by decide +kernel
theorem dX6_suit_10 : decode cX6_suit 10 = .ok (.invokevirtual 111, 3) := by decide +kernel
theorem dX6_suit_13 : decode cX6_suit 13 = .ok (.ifCond .eq 8, 3) := by decide +kernel
theorem dX6_suit_16 : decode cX6_suit 16 = .ok (.iload_n 1, 1) := by decide +kernel
theorem dX6_suit_17 : decode cX6_suit 17 = .ok (.iload_n 2, 1) := by decide +kernel
theorem dX6_suit_18 : decode cX6_suit 18 = .ok (.if_icmp .ne 5, 3) := by decide +kernel
theorem dX6_suit_21 : decode cX6_suit 21 = .ok (.iconst (-1), 1) := by decide +kernel
theorem dX6_suit_22 : decode cX6_suit 22 = .ok (.ireturn, 1) := by decide +kernel
theorem dX6_suit_23 : decode cX6_suit 23 = .ok (.aload_n 0, 1) := by decide +kernel
theorem dX6_suit_24 : decode cX6_suit 24 = .ok (.getfield 88, 3) := by decide +kernel
theorem dX6_suit_27 : decode cX6_suit 27 = .ok (.bipush 12, 2) := by decide +kernel
theorem dX6_suit_29 : decode cX6_suit 29 = .ok (.if_icmp .ne 8, 3) := by decide +kernel
theorem dX6_suit_32 : decode cX6_suit 32 = .ok (.bipush (-3), 2) := by decide +kernel
theorem dX6_suit_34 : decode cX6_suit 34 = .ok (.goto 9, 3) := by decide +kernel
theorem dX6_suit_37 : decode cX6_suit 37 = .ok (.aload_n 0, 1) := by decide +kernel
theorem dX6_suit_38 : decode cX6_suit 38 = .ok (.iload_n 1, 1) := by decide +kernel
theorem dX6_suit_39 : decode cX6_suit 39 = .ok (.iload_n 2, 1) := by decide +kernel
theorem dX6_suit_40 : decode cX6_suit 40 = .ok (.invokevirtual 114, 3) := by decide +kernel
theorem dX6_suit_43 : decode cX6_suit 43 = .ok (.ireturn, 1) := by decide +kernel
theorem dX6_told_0 : decode cX6_told 0 = .ok (.iload_n 1, 1) := by decide +kernel
theorem dX6_told_1 : decode cX6_told 1 = .ok (.i2l, 1) := by decide +kernel
theorem dX6_told_2 : decode cX6_told 2 = .ok (.lconst 0, 1) := by decide +kernel
theorem dX6_told_3 : decode cX6_told 3 = .ok (.aload_n 0, 1) := by decide +kernel
theorem dX6_told_4 : decode cX6_told 4 = .ok (.getfield 88, 3) := by decide +kernel
theorem dX6_told_7 : decode cX6_told 7 = .ok (.iconst 1, 1) := by decide +kernel
theorem dX6_told_8 : decode cX6_told 8 = .ok (.isub, 1) := by decide +kernel
theorem dX6_told_9 : decode cX6_told 9 = .ok (.i2l, 1) := by decide +kernel
theorem dX6_told_10 : decode cX6_told 10 = .ok (.invokestatic 69, 3) := by decide +kernel
theorem dX6_told_13 : decode cX6_told 13 = .ok (.ifCond .eq 15, 3) := by decide +kernel
theorem dX6_told_16 : decode cX6_told 16 = .ok (.iload_n 2, 1) := by decide +kernel
theorem dX6_told_17 : decode cX6_told 17 = .ok (.i2l, 1) := by decide +kernel
theorem dX6_told_18 : decode cX6_told 18 = .ok (.lconst 0, 1) := by decide +kernel
theorem dX6_told_19 : decode cX6_told 19 = .ok (.ldc2_w 118, 3) := by decide +kernel
theorem dX6_told_22 : decode cX6_told 22 = .ok (.invokestatic 69, 3) := by decide +kernel
theorem dX6_told_25 : decode cX6_told 25 = .ok (.ifCond .ne 5, 3) := by decide +kernel
theorem dX6_told_28 : decode cX6_told 28 = .ok (.iconst (-1), 1) := by decide +kernel
theorem dX6_told_29 : decode cX6_told 29 = .ok (.ireturn, 1) := by decide +kernel
theorem dX6_told_30 : decode cX6_told 30 = .ok (.iload_n 2, 1) := by decide +kernel
theorem dX6_told_31 : decode cX6_told 31 = .ok (.tableswitch 65 0 3 #[29, 36, 43, 54], 29) := by decide +kernel
theorem dX6_told_60 : decode cX6_told 60 = .ok (.aload_n 0, 1) := by decide +kernel
theorem dX6_told_61 : decode cX6_told 61 = .ok (.getfield 25, 3) := by decide +kernel
theorem dX6_told_64 : decode cX6_told 64 = .ok (.iload_n 1, 1) := by decide +kernel
theorem dX6_told_65 : decode cX6_told 65 = .ok (.iaload, 1) := by decide +kernel
theorem dX6_told_66 : decode cX6_told 66 = .ok (.ireturn, 1) := by decide +kernel
theorem dX6_told_67 : decode cX6_told 67 = .ok (.aload_n 0, 1) := by decide +kernel
theorem dX6_told_68 : decode cX6_told 68 = .ok (.getfield 28, 3) := by decide +kernel
theorem dX6_told_71 : decode cX6_told 71 = .ok (.iload_n 1, 1) := by decide +kernel
theorem dX6_told_72 : decode cX6_told 72 = .ok (.iaload, 1) := by decide +kernel
theorem dX6_told_73 : decode cX6_told 73 = .ok (.ireturn, 1) := by decide +kernel
theorem dX6_told_74 : decode cX6_told 74 = .ok (.aload_n 0, 1) := by decide +kernel
theorem dX6_told_75 : decode cX6_told 75 = .ok (.aload_n 0, 1) := by decide +kernel
theorem dX6_told_76 : decode cX6_told 76 = .ok (.getfield 25, 3) := by decide +kernel
theorem dX6_told_79 : decode cX6_told 79 = .ok (.iload_n 1, 1) := by decide +kernel
theorem dX6_told_80 : decode cX6_told 80 = .ok (.iaload, 1) := by decide +kernel
theorem dX6_told_81 : decode cX6_told 81 = .ok (.invokevirtual 91, 3) := by decide +kernel
theorem dX6_told_84 : decode cX6_told 84 = .ok (.ireturn, 1) := by decide +kernel
theorem dX6_told_85 : decode cX6_told 85 = .ok (.aload_n 0, 1) := by decide +kernel
theorem dX6_told_86 : decode cX6_told 86 = .ok (.aload_n 0, 1) := by decide +kernel
theorem dX6_told_87 : decode cX6_told 87 = .ok (.getfield 28, 3) := by decide +kernel
theorem dX6_told_90 : decode cX6_told 90 = .ok (.iload_n 1, 1) := by decide +kernel
theorem dX6_told_91 : decode cX6_told 91 = .ok (.iaload, 1) := by decide +kernel
theorem dX6_told_92 : decode cX6_told 92 = .ok (.invokevirtual 91, 3) := by decide +kernel
theorem dX6_told_95 : decode cX6_told 95 = .ok (.ireturn, 1) := by decide +kernel
theorem dX6_told_96 : decode cX6_told 96 = .ok (.aload_n 0, 1) := by decide +kernel
theorem dX6_told_97 : decode cX6_told 97 = .ok (.getfield 85, 3) := by decide +kernel
theorem dX6_told_100 : decode cX6_told 100 = .ok (.iload_n 1, 1) := by decide +kernel
theorem dX6_told_101 : decode cX6_told 101 = .ok (.ishr, 1) := by decide +kernel
theorem dX6_told_102 : decode cX6_told 102 = .ok (.iconst 1, 1) := by decide +kernel
theorem dX6_told_103 : decode cX6_told 103 = .ok (.iand, 1) := by decide +kernel
theorem dX6_told_104 : decode cX6_told 104 = .ok (.ireturn, 1) := by decide +kernel
theorem dX6_hand_0 : decode cX6_hand 0 = .ok (.aload_n 0, 1) := by decide +kernel
theorem dX6_hand_1 : decode cX6_hand 1 = .ok (.iload_n 1, 1) := by decide +kernel
theorem dX6_hand_2 : decode cX6_hand 2 = .ok (.invokevirtual 77, 3) := by decide +kernel
theorem dX6_hand_5 : decode cX6_hand 5 = .ok (.ifCond .eq 12, 3) := by decide +kernel
theorem dX6_hand_8 : decode cX6_hand 8 = .ok (.aload_n 0, 1) := by decide +kernel
theorem dX6_hand_9 : decode cX6_hand 9 = .ok (.getfield 19, 3) := by decide +kernel
theorem dX6_hand_12 : decode cX6_hand 12 = .ok (.iload_n 1, 1) := by decide +kernel
theorem dX6_hand_13 : decode cX6_hand 13 = .ok (.iaload, 1) := by decide +kernel
theorem dX6_hand_14 : decode cX6_hand 14 = .ok (.goto 4, 3) := by decide +kernel
theorem dX6_hand_17 : decode cX6_hand 17 = .ok (.iconst (-1), 1) := by decide +kernel
theorem dX6_hand_18 : decode cX6_hand 18 = .ok (.ireturn, 1) := by decide +kernel
theorem dX6_purse_0 : decode cX6_purse 0 = .ok (.iload_n 1, 1) := by decide +kernel
theorem dX6_purse_1 : decode cX6_purse 1 = .ok (.invokestatic 98, 3) := by decide +kernel
theorem dX6_purse_4 : decode cX6_purse 4 = .ok (.ifCond .eq 12, 3) := by decide +kernel
theorem dX6_purse_7 : decode cX6_purse 7 = .ok (.aload_n 0, 1) := by decide +kernel
theorem dX6_purse_8 : decode cX6_purse 8 = .ok (.getfield 7, 3) := by decide +kernel
theorem dX6_purse_11 : decode cX6_purse 11 = .ok (.iload_n 1, 1) := by decide +kernel
theorem dX6_purse_12 : decode cX6_purse 12 = .ok (.iaload, 1) := by decide +kernel
theorem dX6_purse_13 : decode cX6_purse 13 = .ok (.goto 4, 3) := by decide +kernel
theorem dX6_purse_16 : decode cX6_purse 16 = .ok (.iconst (-1), 1) := by decide +kernel
theorem dX6_purse_17 : decode cX6_purse 17 = .ok (.ireturn, 1) := by decide +kernel
theorem dX6_standsIn_0 : decode cX6_standsIn 0 = .ok (.iconst 0, 1) := by decide +kernel
theorem dX6_standsIn_1 : decode cX6_standsIn 1 = .ok (.istore_n 2, 1) := by decide +kernel
theorem dX6_standsIn_2 : decode cX6_standsIn 2 = .ok (.iconst 0, 1) := by decide +kernel
theorem dX6_standsIn_3 : decode cX6_standsIn 3 = .ok (.istore_n 3, 1) := by decide +kernel
theorem dX6_standsIn_4 : decode cX6_standsIn 4 = .ok (.iload_n 3, 1) := by decide +kernel
theorem dX6_standsIn_5 : decode cX6_standsIn 5 = .ok (.aload_n 0, 1) := by decide +kernel
theorem dX6_standsIn_6 : decode cX6_standsIn 6 = .ok (.getfield 88, 3) := by decide +kernel
theorem dX6_standsIn_9 : decode cX6_standsIn 9 = .ok (.if_icmp .ge 53, 3) := by decide +kernel
theorem dX6_standsIn_12 : decode cX6_standsIn 12 = .ok (.iload_n 2, 1) := by decide +kernel
theorem dX6_standsIn_13 : decode cX6_standsIn 13 = .ok (.aload_n 0, 1) := by decide +kernel
theorem dX6_standsIn_14 : decode cX6_standsIn 14 = .ok (.iload_n 3, 1) := by decide +kernel
theorem dX6_standsIn_15 : decode cX6_standsIn 15 = .ok (.invokevirtual 95, 3) := by decide +kernel
theorem dX6_standsIn_18 : decode cX6_standsIn 18 = .ok (.ifCond .ne 35, 3) := by decide +kernel
theorem dX6_standsIn_21 : decode cX6_standsIn 21 = .ok (.aload_n 0, 1) := by decide +kernel
theorem dX6_standsIn_22 : decode cX6_standsIn 22 = .ok (.aload_n 0, 1) := by decide +kernel
theorem dX6_standsIn_23 : decode cX6_standsIn 23 = .ok (.getfield 25, 3) := by decide +kernel
