theorem dX0_init_0 : decode cX0_init 0 = .ok (.aload_n 0, 1) := by decide +kernel
theorem dX0_init_1 : decode cX0_init 1 = .ok (.invokespecial 3, 3) := by decide +kernel
theorem dX0_init_4 : decode cX0_init 4 = .ok (.aload_n 0, 1) := by decide +kernel
theorem dX0_init_5 : decode cX0_init 5 = .ok (.iconst 2, 1) := by decide +kernel
theorem dX0_init_6 : decode cX0_init 6 = .ok (.newarray .int, 2) := by decide +kernel
theorem dX0_init_8 : decode cX0_init 8 = .ok (.putfield 9, 3) := by decide +kernel
theorem dX0_init_11 : decode cX0_init 11 = .ok (.aload_n 0, 1) := by decide +kernel
theorem dX0_init_12 : decode cX0_init 12 = .ok (.bipush 8, 2) := by decide +kernel
theorem dX0_init_14 : decode cX0_init 14 = .ok (.newarray .int, 2) := by decide +kernel
theorem dX0_init_16 : decode cX0_init 16 = .ok (.putfield 15, 3) := by decide +kernel
theorem dX0_init_19 : decode cX0_init 19 = .ok (.aload_n 0, 1) := by decide +kernel
theorem dX0_init_20 : decode cX0_init 20 = .ok (.bipush 12, 2) := by decide +kernel
theorem dX0_init_22 : decode cX0_init 22 = .ok (.newarray .int, 2) := by decide +kernel
theorem dX0_init_24 : decode cX0_init 24 = .ok (.putfield 18, 3) := by decide +kernel
theorem dX0_init_27 : decode cX0_init 27 = .ok (.aload_n 0, 1) := by decide +kernel
theorem dX0_init_28 : decode cX0_init 28 = .ok (.bipush 12, 2) := by decide +kernel
theorem dX0_init_30 : decode cX0_init 30 = .ok (.newarray .int, 2) := by decide +kernel
theorem dX0_init_32 : decode cX0_init 32 = .ok (.putfield 21, 3) := by decide +kernel
theorem dX0_init_35 : decode cX0_init 35 = .ok (.aload_n 0, 1) := by decide +kernel
theorem dX0_init_36 : decode cX0_init 36 = .ok (.iconst 0, 1) := by decide +kernel
theorem dX0_init_37 : decode cX0_init 37 = .ok (.putfield 24, 3) := by decide +kernel
theorem dX0_init_40 : decode cX0_init 40 = .ok (.aload_n 0, 1) := by decide +kernel
theorem dX0_init_41 : decode cX0_init 41 = .ok (.iconst 0, 1) := by decide +kernel
theorem dX0_init_42 : decode cX0_init 42 = .ok (.putfield 28, 3) := by decide +kernel
theorem dX0_init_45 : decode cX0_init 45 = .ok (.aload_n 0, 1) := by decide +kernel
theorem dX0_init_46 : decode cX0_init 46 = .ok (.iconst 0, 1) := by decide +kernel
theorem dX0_init_47 : decode cX0_init 47 = .ok (.putfield 31, 3) := by decide +kernel
theorem dX0_init_50 : decode cX0_init 50 = .ok (.return_, 1) := by decide +kernel
theorem dX0_become_0 : decode cX0_become 0 = .ok (.aload_n 1, 1) := by decide +kernel
theorem dX0_become_1 : decode cX0_become 1 = .ok (.getfield 9, 3) := by decide +kernel
theorem dX0_become_4 : decode cX0_become 4 = .ok (.iconst 0, 1) := by decide +kernel
theorem dX0_become_5 : decode cX0_become 5 = .ok (.aload_n 0, 1) := by decide +kernel
theorem dX0_become_6 : decode cX0_become 6 = .ok (.getfield 9, 3) := by decide +kernel
theorem dX0_become_9 : decode cX0_become 9 = .ok (.iconst 0, 1) := by decide +kernel
theorem dX0_become_10 : decode cX0_become 10 = .ok (.aload_n 0, 1) := by decide +kernel
theorem dX0_become_11 : decode cX0_become 11 = .ok (.getfield 9, 3) := by decide +kernel
theorem dX0_become_14 : decode cX0_become 14 = .ok (.arraylength, 1) := by decide +kernel
theorem dX0_become_15 : decode cX0_become 15 = .ok (.invokestatic 34, 3) := by decide +kernel
theorem dX0_become_18 : decode cX0_become 18 = .ok (.aload_n 1, 1) := by decide +kernel
theorem dX0_become_19 : decode cX0_become 19 = .ok (.getfield 15, 3) := by decide +kernel
theorem dX0_become_22 : decode cX0_become 22 = .ok (.iconst 0, 1) := by decide +kernel
theorem dX0_become_23 : decode cX0_become 23 = .ok (.aload_n 0, 1) := by decide +kernel
theorem dX0_become_24 : decode cX0_become 24 = .ok (.getfield 15, 3) := by decide +kernel
theorem dX0_become_27 : decode cX0_become 27 = .ok (.iconst 0, 1) := by decide +kernel
theorem dX0_become_28 : decode cX0_become 28 = .ok (.aload_n 0, 1) := by decide +kernel
theorem dX0_become_29 : decode cX0_become 29 = .ok (.getfield 15, 3) := by decide +kernel
theorem dX0_become_32 : decode cX0_become 32 = .ok (.arraylength, 1) := by decide +kernel
theorem dX0_become_33 : decode cX0_become 33 = .ok (.invokestatic 34, 3) := by decide +kernel
theorem dX0_become_36 : decode cX0_become 36 = .ok (.aload_n 1, 1) := by decide +kernel
theorem dX0_become_37 : decode cX0_become 37 = .ok (.getfield 18, 3) := by decide +kernel
theorem dX0_become_40 : decode cX0_become 40 = .ok (.iconst 0, 1) := by decide +kernel
theorem dX0_become_41 : decode cX0_become 41 = .ok (.aload_n 0, 1) := by decide +kernel
theorem dX0_become_42 : decode cX0_become 42 = .ok (.getfield 18, 3) := by decide +kernel
theorem dX0_become_45 : decode cX0_become 45 = .ok (.iconst 0, 1) := by decide +kernel
theorem dX0_become_46 : decode cX0_become 46 = .ok (.aload_n 0, 1) := by decide +kernel
theorem dX0_become_47 : decode cX0_become 47 = .ok (.getfield 18, 3) := by decide +kernel
theorem dX0_become_50 : decode cX0_become 50 = .ok (.arraylength, 1) := by decide +kernel
theorem dX0_become_51 : decode cX0_become 51 = .ok (.invokestatic 34, 3) := by decide +kernel
theorem dX0_become_54 : decode cX0_become 54 = .ok (.aload_n 1, 1) := by decide +kernel
theorem dX0_become_55 : decode cX0_become 55 = .ok (.getfield 21, 3) := by decide +kernel
theorem dX0_become_58 : decode cX0_become 58 = .ok (.iconst 0, 1) := by decide +kernel
theorem dX0_become_59 : decode cX0_become 59 = .ok (.aload_n 0, 1) := by decide +kernel
theorem dX0_become_60 : decode cX0_become 60 = .ok (.getfield 21, 3) := by decide +kernel
theorem dX0_become_63 : decode cX0_become 63 = .ok (.iconst 0, 1) := by decide +kernel
theorem dX0_become_64 : decode cX0_become 64 = .ok (.aload_n 0, 1) := by decide +kernel
theorem dX0_become_65 : decode cX0_become 65 = .ok (.getfield 21, 3) := by decide +kernel
theorem dX0_become_68 : decode cX0_become 68 = .ok (.arraylength, 1) := by decide +kernel
theorem dX0_become_69 : decode cX0_become 69 = .ok (.invokestatic 34, 3) := by decide +kernel
theorem dX0_become_72 : decode cX0_become 72 = .ok (.aload_n 0, 1) := by decide +kernel
theorem dX0_become_73 : decode cX0_become 73 = .ok (.aload_n 1, 1) := by decide +kernel
theorem dX0_become_74 : decode cX0_become 74 = .ok (.getfield 24, 3) := by decide +kernel
theorem dX0_become_77 : decode cX0_become 77 = .ok (.putfield 24, 3) := by decide +kernel
theorem dX0_become_80 : decode cX0_become 80 = .ok (.aload_n 0, 1) := by decide +kernel
theorem dX0_become_81 : decode cX0_become 81 = .ok (.aload_n 1, 1) := by decide +kernel
theorem dX0_become_82 : decode cX0_become 82 = .ok (.getfield 28, 3) := by decide +kernel
theorem dX0_become_85 : decode cX0_become 85 = .ok (.putfield 28, 3) := by decide +kernel
theorem dX0_become_88 : decode cX0_become 88 = .ok (.aload_n 0, 1) := by decide +kernel
theorem dX0_become_89 : decode cX0_become 89 = .ok (.aload_n 1, 1) := by decide +kernel
theorem dX0_become_90 : decode cX0_become 90 = .ok (.getfield 31, 3) := by decide +kernel
theorem dX0_become_93 : decode cX0_become 93 = .ok (.putfield 31, 3) := by decide +kernel
theorem dX0_become_96 : decode cX0_become 96 = .ok (.return_, 1) := by decide +kernel
theorem dX0_isOver_0 : decode cX0_isOver 0 = .ok (.aload_n 0, 1) := by decide +kernel
theorem dX0_isOver_1 : decode cX0_isOver 1 = .ok (.getfield 31, 3) := by decide +kernel
theorem dX0_isOver_4 : decode cX0_isOver 4 = .ok (.iload_n 1, 1) := by decide +kernel
theorem dX0_isOver_5 : decode cX0_isOver 5 = .ok (.ishr, 1) := by decide +kernel
theorem dX0_isOver_6 : decode cX0_isOver 6 = .ok (.iconst 1, 1) := by decide +kernel
theorem dX0_isOver_7 : decode cX0_isOver 7 = .ok (.iand, 1) := by decide +kernel
theorem dX0_isOver_8 : decode cX0_isOver 8 = .ok (.iconst 1, 1) := by decide +kernel
theorem dX0_isOver_9 : decode cX0_isOver 9 = .ok (.if_icmp .ne 7, 3) := by decide +kernel
theorem dX0_isOver_12 : decode cX0_isOver 12 = .ok (.iconst 1, 1) := by decide +kernel
theorem dX0_isOver_13 : decode cX0_isOver 13 = .ok (.goto 4, 3) := by decide +kernel
theorem dX0_isOver_16 : decode cX0_isOver 16 = .ok (.iconst 0, 1) := by decide +kernel
theorem dX0_isOver_17 : decode cX0_isOver 17 = .ok (.ireturn, 1) := by decide +kernel
theorem dX0_standing_0 : decode cX0_standing 0 = .ok (.iload_n 1, 1) := by decide +kernel
theorem dX0_standing_1 : decode cX0_standing 1 = .ok (.bipush 10, 2) := by decide +kernel
theorem dX0_standing_3 : decode cX0_standing 3 = .ok (.if_icmp .lt 10, 3) := by decide +kernel
theorem dX0_standing_6 : decode cX0_standing 6 = .ok (.iload_n 1, 1) := by decide +kernel
theorem dX0_standing_7 : decode cX0_standing 7 = .ok (.bipush 10, 2) := by decide +kernel
theorem dX0_standing_9 : decode cX0_standing 9 = .ok (.isub, 1) := by decide +kernel
theorem dX0_standing_10 : decode cX0_standing 10 = .ok (.goto 9, 3) := by decide +kernel
theorem dX0_standing_13 : decode cX0_standing 13 = .ok (.aload_n 0, 1) := by decide +kernel
theorem dX0_standing_14 : decode cX0_standing 14 = .ok (.getfield 15, 3) := by decide +kernel
theorem dX0_standing_17 : decode cX0_standing 17 = .ok (.iload_n 1, 1) := by decide +kernel
theorem dX0_standing_18 : decode cX0_standing 18 = .ok (.iaload, 1) := by decide +kernel
theorem dX0_standing_19 : decode cX0_standing 19 = .ok (.ireturn, 1) := by decide +kernel
theorem dX0_addSuit_0 : decode cX0_addSuit 0 = .ok (.aload_n 0, 1) := by decide +kernel
theorem dX0_addSuit_1 : decode cX0_addSuit 1 = .ok (.getfield 28, 3) := by decide +kernel
theorem dX0_addSuit_4 : decode cX0_addSuit 4 = .ok (.istore_n 3, 1) := by decide +kernel
theorem dX0_addSuit_5 : decode cX0_addSuit 5 = .ok (.aload_n 0, 1) := by decide +kernel
theorem dX0_addSuit_6 : decode cX0_addSuit 6 = .ok (.getfield 18, 3) := by decide +kernel
theorem dX0_addSuit_9 : decode cX0_addSuit 9 = .ok (.iload_n 3, 1) := by decide +kernel
theorem dX0_addSuit_10 : decode cX0_addSuit 10 = .ok (.iload_n 1, 1) := by decide +kernel
theorem dX0_addSuit_11 : decode cX0_addSuit 11 = .ok (.iastore, 1) := by decide +kernel
theorem dX0_addSuit_12 : decode cX0_addSuit 12 = .ok (.aload_n 0, 1) := by decide +kernel
theorem dX0_addSuit_13 : decode cX0_addSuit 13 = .ok (.getfield 21, 3) := by decide +kernel
theorem dX0_addSuit_16 : decode cX0_addSuit 16 = .ok (.iload_n 3, 1) := by decide +kernel
theorem dX0_addSuit_17 : decode cX0_addSuit 17 = .ok (.iload_n 2, 1) := by decide +kernel
theorem dX0_addSuit_18 : decode cX0_addSuit 18 = .ok (.iastore, 1) := by decide +kernel
theorem dX0_addSuit_19 : decode cX0_addSuit 19 = .ok (.aload_n 0, 1) := by decide +kernel
theorem dX0_addSuit_20 : decode cX0_addSuit 20 = .ok (.dup, 1) := by decide +kernel
theorem dX0_addSuit_21 : decode cX0_addSuit 21 = .ok (.getfield 28, 3) := by decide +kernel
theorem dX0_addSuit_24 : decode cX0_addSuit 24 = .ok (.iconst 1, 1) := by decide +kernel
theorem dX0_addSuit_25 : decode cX0_addSuit 25 = .ok (.iadd, 1) := by decide +kernel
theorem dX0_addSuit_26 : decode cX0_addSuit 26 = .ok (.putfield 28, 3) := by decide +kernel
theorem dX0_addSuit_29 : decode cX0_addSuit 29 = .ok (.aload_n 0, 1) := by decide +kernel
theorem dX0_addSuit_30 : decode cX0_addSuit 30 = .ok (.invokevirtual 40, 3) := by decide +kernel
theorem dX0_addSuit_33 : decode cX0_addSuit 33 = .ok (.pop, 1) := by decide +kernel
theorem dX0_addSuit_34 : decode cX0_addSuit 34 = .ok (.iload_n 3, 1) := by decide +kernel
theorem dX0_addSuit_35 : decode cX0_addSuit 35 = .ok (.ireturn, 1) := by decide +kernel
theorem dX0_settle_0 : decode cX0_settle 0 = .ok (.iconst 0, 1) := by decide +kernel
theorem dX0_settle_1 : decode cX0_settle 1 = .ok (.istore_n 1, 1) := by decide +kernel
theorem dX0_settle_2 : decode cX0_settle 2 = .ok (.iconst 0, 1) := by decide +kernel
theorem dX0_settle_3 : decode cX0_settle 3 = .ok (.istore_n 2, 1) := by decide +kernel
theorem dX0_settle_4 : decode cX0_settle 4 = .ok (.iload_n 2, 1) := by decide +kernel
theorem dX0_settle_5 : decode cX0_settle 5 = .ok (.aload_n 0, 1) := by decide +kernel
theorem dX0_settle_6 : decode cX0_settle 6 = .ok (.getfield 28, 3) := by decide +kernel
theorem dX0_settle_9 : decode cX0_settle 9 = .ok (.if_icmp .ge 104, 3) := by decide +kernel
theorem dX0_settle_12 : decode cX0_settle 12 = .ok (.aload_n 0, 1) := by decide +kernel
theorem dX0_settle_13 : decode cX0_settle 13 = .ok (.aload_n 0, 1) := by decide +kernel
theorem dX0_settle_14 : decode cX0_settle 14 = .ok (.getfield 18, 3) := by decide +kernel
theorem dX0_settle_17 : decode cX0_settle 17 = .ok (.iload_n 2, 1) := by decide +kernel
theorem dX0_settle_18 : decode cX0_settle 18 = .ok (.iaload, 1) := by decide +kernel
theorem dX0_settle_19 : decode cX0_settle 19 = .ok (.invokevirtual 44, 3) := by decide +kernel
theorem dX0_settle_22 : decode cX0_settle 22 = .ok (.istore_n 3, 1) := by decide +kernel
theorem dX0_settle_23 : decode cX0_settle 23 = .ok (.aload_n 0, 1) := by decide +kernel
theorem dX0_settle_24 : decode cX0_settle 24 = .ok (.aload_n 0, 1) := by decide +kernel
theorem dX0_settle_25 : decode cX0_settle 25 = .ok (.getfield 21, 3) := by decide +kernel
theorem dX0_settle_28 : decode cX0_settle 28 = .ok (.iload_n 2, 1) := by decide +kernel
theorem dX0_settle_29 : decode cX0_settle 29 = .ok (.iaload, 1) := by decide +kernel
theorem dX0_settle_30 : decode cX0_settle 30 = .ok (.invokevirtual 44, 3) := by decide +kernel
theorem dX0_settle_33 : decode cX0_settle 33 = .ok (.istore 4, 2) := by decide +kernel
theorem dX0_settle_35 : decode cX0_settle 35 = .ok (.iload_n 3, 1) := by decide +kernel
theorem dX0_settle_36 : decode cX0_settle 36 = .ok (.bipush 6, 2) := by decide +kernel
theorem dX0_settle_38 : decode cX0_settle 38 = .ok (.if_icmp .eq 10, 3) := by decide +kernel
theorem dX0_settle_41 : decode cX0_settle 41 = .ok (.iload 4, 2) := by decide +kernel
theorem dX0_settle_43 : decode cX0_settle 43 = .ok (.bipush 6, 2) := by decide +kernel
theorem dX0_settle_45 : decode cX0_settle 45 = .ok (.if_icmp .ne 21, 3) := by decide +kernel
theorem dX0_settle_48 : decode cX0_settle 48 = .ok (.aload_n 0, 1) := by decide +kernel
theorem dX0_settle_49 : decode cX0_settle 49 = .ok (.getfield 9, 3) := by decide +kernel
theorem dX0_settle_52 : decode cX0_settle 52 = .ok (.iconst 1, 1) := by decide +kernel
theorem dX0_settle_53 : decode cX0_settle 53 = .ok (.iaload, 1) := by decide +kernel
theorem dX0_settle_54 : decode cX0_settle 54 = .ok (.iconst 1, 1) := by decide +kernel
theorem dX0_settle_55 : decode cX0_settle 55 = .ok (.if_icmp .ne 7, 3) := by decide +kernel
theorem dX0_settle_58 : decode cX0_settle 58 = .ok (.iconst 1, 1) := by decide +kernel
theorem dX0_settle_59 : decode cX0_settle 59 = .ok (.goto 18, 3) := by decide +kernel
theorem dX0_settle_62 : decode cX0_settle 62 = .ok (.iconst 0, 1) := by decide +kernel
theorem dX0_settle_63 : decode cX0_settle 63 = .ok (.goto 14, 3) := by decide +kernel
theorem dX0_settle_66 : decode cX0_settle 66 = .ok (.iload_n 3, 1) := by decide +kernel
theorem dX0_settle_67 : decode cX0_settle 67 = .ok (.iload 4, 2) := by decide +kernel
theorem dX0_settle_69 : decode cX0_settle 69 = .ok (.if_icmp .ne 7, 3) := by decide +kernel
theorem dX0_settle_72 : decode cX0_settle 72 = .ok (.iconst 1, 1) := by decide +kernel
theorem dX0_settle_73 : decode cX0_settle 73 = .ok (.goto 4, 3) := by decide +kernel
theorem dX0_settle_76 : decode cX0_settle 76 = .ok (.iconst 0, 1) := by decide +kernel
theorem dX0_settle_77 : decode cX0_settle 77 = .ok (.istore 5, 2) := by decide +kernel
theorem dX0_settle_79 : decode cX0_settle 79 = .ok (.iload 5, 2) := by decide +kernel
theorem dX0_settle_81 : decode cX0_settle 81 = .ok (.ifCond .eq 26, 3) := by decide +kernel
theorem dX0_settle_84 : decode cX0_settle 84 = .ok (.aload_n 0, 1) := by decide +kernel
theorem dX0_settle_85 : decode cX0_settle 85 = .ok (.iload_n 2, 1) := by decide +kernel
theorem dX0_settle_86 : decode cX0_settle 86 = .ok (.invokevirtual 48, 3) := by decide +kernel
theorem dX0_settle_89 : decode cX0_settle 89 = .ok (.ifCond .ne 18, 3) := by decide +kernel
theorem dX0_settle_92 : decode cX0_settle 92 = .ok (.aload_n 0, 1) := by decide +kernel
theorem dX0_settle_93 : decode cX0_settle 93 = .ok (.dup, 1) := by decide +kernel
theorem dX0_settle_94 : decode cX0_settle 94 = .ok (.getfield 31, 3) := by decide +kernel
theorem dX0_settle_97 : decode cX0_settle 97 = .ok (.iconst 1, 1) := by decide +kernel
theorem dX0_settle_98 : decode cX0_settle 98 = .ok (.iload_n 2, 1) := by decide +kernel
theorem dX0_settle_99 : decode cX0_settle 99 = .ok (.ishl, 1) := by decide +kernel
theorem dX0_settle_100 : decode cX0_settle 100 = .ok (.ior, 1) := by decide +kernel
theorem dX0_settle_101 : decode cX0_settle 101 = .ok (.putfield 31, 3) := by decide +kernel
theorem dX0_settle_104 : decode cX0_settle 104 = .ok (.iinc 1 1, 3) := by decide +kernel
theorem dX0_settle_107 : decode cX0_settle 107 = .ok (.iinc 2 1, 3) := by decide +kernel
theorem dX0_settle_110 : decode cX0_settle 110 = .ok (.goto (-106), 3) := by decide +kernel
theorem dX0_settle_113 : decode cX0_settle 113 = .ok (.iload_n 1, 1) := by decide +kernel
theorem dX0_settle_114 : decode cX0_settle 114 = .ok (.ireturn, 1) := by decide +kernel
theorem dX0_move_0 : decode cX0_move 0 = .ok (.aload_n 0, 1) := by decide +kernel
theorem dX0_move_1 : decode cX0_move 1 = .ok (.iload_n 1, 1) := by decide +kernel
theorem dX0_move_2 : decode cX0_move 2 = .ok (.invokevirtual 52, 3) := by decide +kernel
theorem dX0_move_5 : decode cX0_move 5 = .ok (.aload_n 0, 1) := by decide +kernel
theorem dX0_move_6 : decode cX0_move 6 = .ok (.getfield 15, 3) := by decide +kernel
theorem dX0_move_9 : decode cX0_move 9 = .ok (.iload_n 1, 1) := by decide +kernel
theorem dX0_move_10 : decode cX0_move 10 = .ok (.iload_n 2, 1) := by decide +kernel
theorem dX0_move_11 : decode cX0_move 11 = .ok (.iastore, 1) := by decide +kernel
theorem dX0_move_12 : decode cX0_move 12 = .ok (.aload_n 0, 1) := by decide +kernel
theorem dX0_move_13 : decode cX0_move 13 = .ok (.invokevirtual 40, 3) := by decide +kernel
theorem dX0_move_16 : decode cX0_move 16 = .ok (.ireturn, 1) := by decide +kernel
theorem dX0_exchange_0 : decode cX0_exchange 0 = .ok (.aload_n 0, 1) := by decide +kernel
theorem dX0_exchange_1 : decode cX0_exchange 1 = .ok (.iload_n 1, 1) := by decide +kernel
theorem dX0_exchange_2 : decode cX0_exchange 2 = .ok (.invokevirtual 52, 3) := by decide +kernel
theorem dX0_exchange_5 : decode cX0_exchange 5 = .ok (.aload_n 0, 1) := by decide +kernel
theorem dX0_exchange_6 : decode cX0_exchange 6 = .ok (.iload_n 2, 1) := by decide +kernel
theorem dX0_exchange_7 : decode cX0_exchange 7 = .ok (.invokevirtual 52, 3) := by decide +kernel
theorem dX0_exchange_10 : decode cX0_exchange 10 = .ok (.aload_n 0, 1) := by decide +kernel
theorem dX0_exchange_11 : decode cX0_exchange 11 = .ok (.getfield 15, 3) := by decide +kernel
theorem dX0_exchange_14 : decode cX0_exchange 14 = .ok (.iload_n 1, 1) := by decide +kernel
theorem dX0_exchange_15 : decode cX0_exchange 15 = .ok (.iaload, 1) := by decide +kernel
theorem dX0_exchange_16 : decode cX0_exchange 16 = .ok (.istore_n 3, 1) := by decide +kernel
theorem dX0_exchange_17 : decode cX0_exchange 17 = .ok (.aload_n 0, 1) := by decide +kernel
theorem dX0_exchange_18 : decode cX0_exchange 18 = .ok (.getfield 15, 3) := by decide +kernel
theorem dX0_exchange_21 : decode cX0_exchange 21 = .ok (.iload_n 1, 1) := by decide +kernel
theorem dX0_exchange_22 : decode cX0_exchange 22 = .ok (.aload_n 0, 1) := by decide +kernel
theorem dX0_exchange_23 : decode cX0_exchange 23 = .ok (.getfield 15, 3) := by decide +kernel
theorem dX0_exchange_26 : decode cX0_exchange 26 = .ok (.iload_n 2, 1) := by decide +kernel
theorem dX0_exchange_27 : decode cX0_exchange 27 = .ok (.iaload, 1) := by decide +kernel
theorem dX0_exchange_28 : decode cX0_exchange 28 = .ok (.iastore, 1) := by decide +kernel
theorem dX0_exchange_29 : decode cX0_exchange 29 = .ok (.aload_n 0, 1) := by decide +kernel
theorem dX0_exchange_30 : decode cX0_exchange 30 = .ok (.getfield 15, 3) := by decide +kernel
theorem dX0_exchange_33 : decode cX0_exchange 33 = .ok (.iload_n 2, 1) := by decide +kernel
theorem dX0_exchange_34 : decode cX0_exchange 34 = .ok (.iload_n 3, 1) := by decide +kernel
theorem dX0_exchange_35 : decode cX0_exchange 35 = .ok (.iastore, 1) := by decide +kernel
theorem dX0_exchange_36 : decode cX0_exchange 36 = .ok (.aload_n 0, 1) := by decide +kernel
theorem dX0_exchange_37 : decode cX0_exchange 37 = .ok (.invokevirtual 40, 3) := by decide +kernel
theorem dX0_exchange_40 : decode cX0_exchange 40 = .ok (.ireturn, 1) := by decide +kernel
theorem dX0_leaveSides_0 : decode cX0_leaveSides 0 = .ok (.aload_n 0, 1) := by decide +kernel
theorem dX0_leaveSides_1 : decode cX0_leaveSides 1 = .ok (.getfield 15, 3) := by decide +kernel
theorem dX0_leaveSides_4 : decode cX0_leaveSides 4 = .ok (.iload_n 1, 1) := by decide +kernel
theorem dX0_leaveSides_5 : decode cX0_leaveSides 5 = .ok (.iaload, 1) := by decide +kernel
theorem dX0_leaveSides_6 : decode cX0_leaveSides 6 = .ok (.istore_n 2, 1) := by decide +kernel
theorem dX0_leaveSides_7 : decode cX0_leaveSides 7 = .ok (.aload_n 0, 1) := by decide +kernel
theorem dX0_leaveSides_8 : decode cX0_leaveSides 8 = .ok (.getfield 9, 3) := by decide +kernel
theorem dX0_leaveSides_11 : decode cX0_leaveSides 11 = .ok (.iconst 0, 1) := by decide +kernel
theorem dX0_leaveSides_12 : decode cX0_leaveSides 12 = .ok (.iaload, 1) := by decide +kernel
theorem dX0_leaveSides_13 : decode cX0_leaveSides 13 = .ok (.ifCond .eq 9, 3) := by decide +kernel
theorem dX0_leaveSides_16 : decode cX0_leaveSides 16 = .ok (.iload_n 2, 1) := by decide +kernel
theorem dX0_leaveSides_17 : decode cX0_leaveSides 17 = .ok (.bipush 6, 2) := by decide +kernel
theorem dX0_leaveSides_19 : decode cX0_leaveSides 19 = .ok (.if_icmp .ne 4, 3) := by decide +kernel
theorem dX0_leaveSides_22 : decode cX0_leaveSides 22 = .ok (.return_, 1) := by decide +kernel
theorem dX0_leaveSides_23 : decode cX0_leaveSides 23 = .ok (.iconst 0, 1) := by decide +kernel
theorem dX0_leaveSides_24 : decode cX0_leaveSides 24 = .ok (.istore_n 3, 1) := by decide +kernel
theorem dX0_leaveSides_25 : decode cX0_leaveSides 25 = .ok (.iload_n 3, 1) := by decide +kernel
theorem dX0_leaveSides_26 : decode cX0_leaveSides 26 = .ok (.aload_n 0, 1) := by decide +kernel
theorem dX0_leaveSides_27 : decode cX0_leaveSides 27 = .ok (.getfield 28, 3) := by decide +kernel
theorem dX0_leaveSides_30 : decode cX0_leaveSides 30 = .ok (.if_icmp .ge 27, 3) := by decide +kernel
theorem dX0_leaveSides_33 : decode cX0_leaveSides 33 = .ok (.aload_n 0, 1) := by decide +kernel
theorem dX0_leaveSides_34 : decode cX0_leaveSides 34 = .ok (.iload_n 3, 1) := by decide +kernel
theorem dX0_leaveSides_35 : decode cX0_leaveSides 35 = .ok (.invokevirtual 48, 3) := by decide +kernel
theorem dX0_leaveSides_38 : decode cX0_leaveSides 38 = .ok (.ifCond .ne 13, 3) := by decide +kernel
theorem dX0_leaveSides_41 : decode cX0_leaveSides 41 = .ok (.aload_n 0, 1) := by decide +kernel
theorem dX0_leaveSides_42 : decode cX0_leaveSides 42 = .ok (.iload_n 3, 1) := by decide +kernel
theorem dX0_leaveSides_43 : decode cX0_leaveSides 43 = .ok (.iload_n 1, 1) := by decide +kernel
theorem dX0_leaveSides_44 : decode cX0_leaveSides 44 = .ok (.bipush 10, 2) := by decide +kernel
theorem dX0_leaveSides_46 : decode cX0_leaveSides 46 = .ok (.iload_n 2, 1) := by decide +kernel
theorem dX0_leaveSides_47 : decode cX0_leaveSides 47 = .ok (.iadd, 1) := by decide +kernel
theorem dX0_leaveSides_48 : decode cX0_leaveSides 48 = .ok (.invokevirtual 56, 3) := by decide +kernel
theorem dX0_leaveSides_51 : decode cX0_leaveSides 51 = .ok (.iinc 3 1, 3) := by decide +kernel
theorem dX0_leaveSides_54 : decode cX0_leaveSides 54 = .ok (.goto (-29), 3) := by decide +kernel
theorem dX0_leaveSides_57 : decode cX0_leaveSides 57 = .ok (.return_, 1) := by decide +kernel
theorem dX0_changeSides_0 : decode cX0_changeSides 0 = .ok (.aload_n 0, 1) := by decide +kernel
theorem dX0_changeSides_1 : decode cX0_changeSides 1 = .ok (.getfield 18, 3) := by decide +kernel
theorem dX0_changeSides_4 : decode cX0_changeSides 4 = .ok (.iload_n 1, 1) := by decide +kernel
theorem dX0_changeSides_5 : decode cX0_changeSides 5 = .ok (.iaload, 1) := by decide +kernel
theorem dX0_changeSides_6 : decode cX0_changeSides 6 = .ok (.iload_n 2, 1) := by decide +kernel
theorem dX0_changeSides_7 : decode cX0_changeSides 7 = .ok (.if_icmp .ne 10, 3) := by decide +kernel
theorem dX0_changeSides_10 : decode cX0_changeSides 10 = .ok (.aload_n 0, 1) := by decide +kernel
theorem dX0_changeSides_11 : decode cX0_changeSides 11 = .ok (.getfield 18, 3) := by decide +kernel
theorem dX0_changeSides_14 : decode cX0_changeSides 14 = .ok (.iload_n 1, 1) := by decide +kernel
theorem dX0_changeSides_15 : decode cX0_changeSides 15 = .ok (.iload_n 3, 1) := by decide +kernel
theorem dX0_changeSides_16 : decode cX0_changeSides 16 = .ok (.iastore, 1) := by decide +kernel
theorem dX0_changeSides_17 : decode cX0_changeSides 17 = .ok (.aload_n 0, 1) := by decide +kernel
theorem dX0_changeSides_18 : decode cX0_changeSides 18 = .ok (.getfield 21, 3) := by decide +kernel
theorem dX0_changeSides_21 : decode cX0_changeSides 21 = .ok (.iload_n 1, 1) := by decide +kernel
theorem dX0_changeSides_22 : decode cX0_changeSides 22 = .ok (.iaload, 1) := by decide +kernel
theorem dX0_changeSides_23 : decode cX0_changeSides 23 = .ok (.iload_n 2, 1) := by decide +kernel
theorem dX0_changeSides_24 : decode cX0_changeSides 24 = .ok (.if_icmp .ne 10, 3) := by decide +kernel
theorem dX0_changeSides_27 : decode cX0_changeSides 27 = .ok (.aload_n 0, 1) := by decide +kernel
theorem dX0_changeSides_28 : decode cX0_changeSides 28 = .ok (.getfield 21, 3) := by decide +kernel
theorem dX0_changeSides_31 : decode cX0_changeSides 31 = .ok (.iload_n 1, 1) := by decide +kernel
theorem dX0_changeSides_32 : decode cX0_changeSides 32 = .ok (.iload_n 3, 1) := by decide +kernel
theorem dX0_changeSides_33 : decode cX0_changeSides 33 = .ok (.iastore, 1) := by decide +kernel
theorem dX0_changeSides_34 : decode cX0_changeSides 34 = .ok (.return_, 1) := by decide +kernel
theorem dX0_marry_0 : decode cX0_marry 0 = .ok (.iconst 0, 1) := by decide +kernel
theorem dX0_marry_1 : decode cX0_marry 1 = .ok (.istore_n 3, 1) := by decide +kernel
theorem dX0_marry_2 : decode cX0_marry 2 = .ok (.iload_n 3, 1) := by decide +kernel
theorem dX0_marry_3 : decode cX0_marry 3 = .ok (.aload_n 0, 1) := by decide +kernel
theorem dX0_marry_4 : decode cX0_marry 4 = .ok (.getfield 24, 3) := by decide +kernel
theorem dX0_marry_7 : decode cX0_marry 7 = .ok (.if_icmp .ge 26, 3) := by decide +kernel
theorem dX0_marry_10 : decode cX0_marry 10 = .ok (.aload_n 0, 1) := by decide +kernel
theorem dX0_marry_11 : decode cX0_marry 11 = .ok (.getfield 15, 3) := by decide +kernel
theorem dX0_marry_14 : decode cX0_marry 14 = .ok (.iload_n 3, 1) := by decide +kernel
theorem dX0_marry_15 : decode cX0_marry 15 = .ok (.iaload, 1) := by decide +kernel
theorem dX0_marry_16 : decode cX0_marry 16 = .ok (.iload_n 2, 1) := by decide +kernel
theorem dX0_marry_17 : decode cX0_marry 17 = .ok (.if_icmp .ne 10, 3) := by decide +kernel
theorem dX0_marry_20 : decode cX0_marry 20 = .ok (.aload_n 0, 1) := by decide +kernel
theorem dX0_marry_21 : decode cX0_marry 21 = .ok (.getfield 15, 3) := by decide +kernel
theorem dX0_marry_24 : decode cX0_marry 24 = .ok (.iload_n 3, 1) := by decide +kernel
theorem dX0_marry_25 : decode cX0_marry 25 = .ok (.iload_n 1, 1) := by decide +kernel
theorem dX0_marry_26 : decode cX0_marry 26 = .ok (.iastore, 1) := by decide +kernel
theorem dX0_marry_27 : decode cX0_marry 27 = .ok (.iinc 3 1, 3) := by decide +kernel
theorem dX0_marry_30 : decode cX0_marry 30 = .ok (.goto (-28), 3) := by decide +kernel
theorem dX0_marry_33 : decode cX0_marry 33 = .ok (.iconst 0, 1) := by decide +kernel
theorem dX0_marry_34 : decode cX0_marry 34 = .ok (.istore_n 3, 1) := by decide +kernel
theorem dX0_marry_35 : decode cX0_marry 35 = .ok (.iload_n 3, 1) := by decide +kernel
theorem dX0_marry_36 : decode cX0_marry 36 = .ok (.aload_n 0, 1) := by decide +kernel
theorem dX0_marry_37 : decode cX0_marry 37 = .ok (.getfield 28, 3) := by decide +kernel
theorem dX0_marry_40 : decode cX0_marry 40 = .ok (.if_icmp .ge 22, 3) := by decide +kernel
theorem dX0_marry_43 : decode cX0_marry 43 = .ok (.aload_n 0, 1) := by decide +kernel
theorem dX0_marry_44 : decode cX0_marry 44 = .ok (.iload_n 3, 1) := by decide +kernel
theorem dX0_marry_45 : decode cX0_marry 45 = .ok (.bipush 10, 2) := by decide +kernel
theorem dX0_marry_47 : decode cX0_marry 47 = .ok (.iload_n 2, 1) := by decide +kernel
theorem dX0_marry_48 : decode cX0_marry 48 = .ok (.iadd, 1) := by decide +kernel
theorem dX0_marry_49 : decode cX0_marry 49 = .ok (.bipush 10, 2) := by decide +kernel
theorem dX0_marry_51 : decode cX0_marry 51 = .ok (.iload_n 1, 1) := by decide +kernel
theorem dX0_marry_52 : decode cX0_marry 52 = .ok (.iadd, 1) := by decide +kernel
theorem dX0_marry_53 : decode cX0_marry 53 = .ok (.invokevirtual 56, 3) := by decide +kernel
theorem dX0_marry_56 : decode cX0_marry 56 = .ok (.iinc 3 1, 3) := by decide +kernel
theorem dX0_marry_59 : decode cX0_marry 59 = .ok (.goto (-24), 3) := by decide +kernel
theorem dX0_marry_62 : decode cX0_marry 62 = .ok (.aload_n 0, 1) := by decide +kernel
theorem dX0_marry_63 : decode cX0_marry 63 = .ok (.invokevirtual 40, 3) := by decide +kernel
theorem dX0_marry_66 : decode cX0_marry 66 = .ok (.ireturn, 1) := by decide +kernel
theorem dX0_addThing_0 : decode cX0_addThing 0 = .ok (.aload_n 0, 1) := by decide +kernel
theorem dX0_addThing_1 : decode cX0_addThing 1 = .ok (.getfield 24, 3) := by decide +kernel
theorem dX0_addThing_4 : decode cX0_addThing 4 = .ok (.istore_n 2, 1) := by decide +kernel
theorem dX0_addThing_5 : decode cX0_addThing 5 = .ok (.aload_n 0, 1) := by decide +kernel
theorem dX0_addThing_6 : decode cX0_addThing 6 = .ok (.getfield 15, 3) := by decide +kernel
theorem dX0_addThing_9 : decode cX0_addThing 9 = .ok (.iload_n 2, 1) := by decide +kernel
theorem dX0_addThing_10 : decode cX0_addThing 10 = .ok (.iload_n 1, 1) := by decide +kernel
theorem dX0_addThing_11 : decode cX0_addThing 11 = .ok (.iastore, 1) := by decide +kernel
theorem dX0_addThing_12 : decode cX0_addThing 12 = .ok (.aload_n 0, 1) := by decide +kernel
theorem dX0_addThing_13 : decode cX0_addThing 13 = .ok (.dup, 1) := by decide +kernel
theorem dX0_addThing_14 : decode cX0_addThing 14 = .ok (.getfield 24, 3) := by decide +kernel
theorem dX0_addThing_17 : decode cX0_addThing 17 = .ok (.iconst 1, 1) := by decide +kernel
theorem dX0_addThing_18 : decode cX0_addThing 18 = .ok (.iadd, 1) := by decide +kernel
theorem dX0_addThing_19 : decode cX0_addThing 19 = .ok (.putfield 24, 3) := by decide +kernel
theorem dX0_addThing_22 : decode cX0_addThing 22 = .ok (.iload_n 2, 1) := by decide +kernel
theorem dX0_addThing_23 : decode cX0_addThing 23 = .ok (.ireturn, 1) := by decide +kernel
theorem dX0_split_0 : decode cX0_split 0 = .ok (.aload_n 0, 1) := by decide +kernel
theorem dX0_split_1 : decode cX0_split 1 = .ok (.aload_n 0, 1) := by decide +kernel
theorem dX0_split_2 : decode cX0_split 2 = .ok (.getfield 15, 3) := by decide +kernel
theorem dX0_split_5 : decode cX0_split 5 = .ok (.iload_n 1, 1) := by decide +kernel
theorem dX0_split_6 : decode cX0_split 6 = .ok (.iaload, 1) := by decide +kernel
theorem dX0_split_7 : decode cX0_split 7 = .ok (.invokevirtual 60, 3) := by decide +kernel
theorem dX0_split_10 : decode cX0_split 10 = .ok (.istore_n 3, 1) := by decide +kernel
theorem dX0_split_11 : decode cX0_split 11 = .ok (.iconst 0, 1) := by decide +kernel
theorem dX0_split_12 : decode cX0_split 12 = .ok (.istore 4, 2) := by decide +kernel
theorem dX0_split_14 : decode cX0_split 14 = .ok (.iload 4, 2) := by decide +kernel
theorem dX0_split_16 : decode cX0_split 16 = .ok (.aload_n 0, 1) := by decide +kernel
theorem dX0_split_17 : decode cX0_split 17 = .ok (.getfield 28, 3) := by decide +kernel
theorem dX0_split_20 : decode cX0_split 20 = .ok (.if_icmp .ge 36, 3) := by decide +kernel
theorem dX0_split_23 : decode cX0_split 23 = .ok (.iload_n 2, 1) := by decide +kernel
theorem dX0_split_24 : decode cX0_split 24 = .ok (.iload 4, 2) := by decide +kernel
theorem dX0_split_26 : decode cX0_split 26 = .ok (.ishr, 1) := by decide +kernel
theorem dX0_split_27 : decode cX0_split 27 = .ok (.iconst 1, 1) := by decide +kernel
theorem dX0_split_28 : decode cX0_split 28 = .ok (.iand, 1) := by decide +kernel
theorem dX0_split_29 : decode cX0_split 29 = .ok (.iconst 1, 1) := by decide +kernel
theorem dX0_split_30 : decode cX0_split 30 = .ok (.if_icmp .ne 20, 3) := by decide +kernel
theorem dX0_split_33 : decode cX0_split 33 = .ok (.aload_n 0, 1) := by decide +kernel
theorem dX0_split_34 : decode cX0_split 34 = .ok (.iload 4, 2) := by decide +kernel
theorem dX0_split_36 : decode cX0_split 36 = .ok (.invokevirtual 48, 3) := by decide +kernel
theorem dX0_split_39 : decode cX0_split 39 = .ok (.ifCond .ne 11, 3) := by decide +kernel
theorem dX0_split_42 : decode cX0_split 42 = .ok (.aload_n 0, 1) := by decide +kernel
theorem dX0_split_43 : decode cX0_split 43 = .ok (.iload 4, 2) := by decide +kernel
theorem dX0_split_45 : decode cX0_split 45 = .ok (.iload_n 1, 1) := by decide +kernel
theorem dX0_split_46 : decode cX0_split 46 = .ok (.iload_n 3, 1) := by decide +kernel
theorem dX0_split_47 : decode cX0_split 47 = .ok (.invokevirtual 56, 3) := by decide +kernel
theorem dX0_split_50 : decode cX0_split 50 = .ok (.iinc 4 1, 3) := by decide +kernel
theorem dX0_split_53 : decode cX0_split 53 = .ok (.goto (-39), 3) := by decide +kernel
theorem dX0_split_56 : decode cX0_split 56 = .ok (.aload_n 0, 1) := by decide +kernel
theorem dX0_split_57 : decode cX0_split 57 = .ok (.invokevirtual 40, 3) := by decide +kernel
theorem dX0_split_60 : decode cX0_split 60 = .ok (.pop, 1) := by decide +kernel
theorem dX0_split_61 : decode cX0_split 61 = .ok (.iload_n 3, 1) := by decide +kernel
theorem dX0_split_62 : decode cX0_split 62 = .ok (.ireturn, 1) := by decide +kernel
theorem dX0_countStood_0 : decode cX0_countStood 0 = .ok (.iconst 0, 1) := by decide +kernel
theorem dX0_countStood_1 : decode cX0_countStood 1 = .ok (.istore_n 2, 1) := by decide +kernel
theorem dX0_countStood_2 : decode cX0_countStood 2 = .ok (.iconst 0, 1) := by decide +kernel
theorem dX0_countStood_3 : decode cX0_countStood 3 = .ok (.istore_n 3, 1) := by decide +kernel
theorem dX0_countStood_4 : decode cX0_countStood 4 = .ok (.iload_n 3, 1) := by decide +kernel
theorem dX0_countStood_5 : decode cX0_countStood 5 = .ok (.aload_n 0, 1) := by decide +kernel
theorem dX0_countStood_6 : decode cX0_countStood 6 = .ok (.getfield 28, 3) := by decide +kernel
theorem dX0_countStood_9 : decode cX0_countStood 9 = .ok (.if_icmp .ge 48, 3) := by decide +kernel
theorem dX0_countStood_12 : decode cX0_countStood 12 = .ok (.aload_n 0, 1) := by decide +kernel
theorem dX0_countStood_13 : decode cX0_countStood 13 = .ok (.iload_n 3, 1) := by decide +kernel
theorem dX0_countStood_14 : decode cX0_countStood 14 = .ok (.invokevirtual 48, 3) := by decide +kernel
theorem dX0_countStood_17 : decode cX0_countStood 17 = .ok (.ifCond .ne 34, 3) := by decide +kernel
theorem dX0_countStood_20 : decode cX0_countStood 20 = .ok (.aload_n 0, 1) := by decide +kernel
theorem dX0_countStood_21 : decode cX0_countStood 21 = .ok (.aload_n 0, 1) := by decide +kernel
theorem dX0_countStood_22 : decode cX0_countStood 22 = .ok (.getfield 18, 3) := by decide +kernel
theorem dX0_countStood_25 : decode cX0_countStood 25 = .ok (.iload_n 3, 1) := by decide +kernel
theorem dX0_countStood_26 : decode cX0_countStood 26 = .ok (.iaload, 1) := by decide +kernel
theorem dX0_countStood_27 : decode cX0_countStood 27 = .ok (.invokevirtual 44, 3) := by decide +kernel
theorem dX0_countStood_30 : decode cX0_countStood 30 = .ok (.iload_n 1, 1) := by decide +kernel
theorem dX0_countStood_31 : decode cX0_countStood 31 = .ok (.if_icmp .eq 17, 3) := by decide +kernel
theorem dX0_countStood_34 : decode cX0_countStood 34 = .ok (.aload_n 0, 1) := by decide +kernel
theorem dX0_countStood_35 : decode cX0_countStood 35 = .ok (.aload_n 0, 1) := by decide +kernel
theorem dX0_countStood_36 : decode cX0_countStood 36 = .ok (.getfield 21, 3) := by decide +kernel
theorem dX0_countStood_39 : decode cX0_countStood 39 = .ok (.iload_n 3, 1) := by decide +kernel
theorem dX0_countStood_40 : decode cX0_countStood 40 = .ok (.iaload, 1) := by decide +kernel
theorem dX0_countStood_41 : decode cX0_countStood 41 = .ok (.invokevirtual 44, 3) := by decide +kernel
theorem dX0_countStood_44 : decode cX0_countStood 44 = .ok (.iload_n 1, 1) := by decide +kernel
theorem dX0_countStood_45 : decode cX0_countStood 45 = .ok (.if_icmp .ne 6, 3) := by decide +kernel
theorem dX0_countStood_48 : decode cX0_countStood 48 = .ok (.iinc 2 1, 3) := by decide +kernel
theorem dX0_countStood_51 : decode cX0_countStood 51 = .ok (.iinc 3 1, 3) := by decide +kernel
theorem dX0_countStood_54 : decode cX0_countStood 54 = .ok (.goto (-50), 3) := by decide +kernel
theorem dX0_countStood_57 : decode cX0_countStood 57 = .ok (.iload_n 2, 1) := by decide +kernel
theorem dX0_countStood_58 : decode cX0_countStood 58 = .ok (.ireturn, 1) := by decide +kernel
theorem dX0_costOfAll_0 : decode cX0_costOfAll 0 = .ok (.iconst 0, 1) := by decide +kernel
theorem dX0_costOfAll_1 : decode cX0_costOfAll 1 = .ok (.istore_n 2, 1) := by decide +kernel
theorem dX0_costOfAll_2 : decode cX0_costOfAll 2 = .ok (.iconst 0, 1) := by decide +kernel
theorem dX0_costOfAll_3 : decode cX0_costOfAll 3 = .ok (.istore_n 3, 1) := by decide +kernel
theorem dX0_costOfAll_4 : decode cX0_costOfAll 4 = .ok (.iload_n 3, 1) := by decide +kernel
theorem dX0_costOfAll_5 : decode cX0_costOfAll 5 = .ok (.aload_n 0, 1) := by decide +kernel
theorem dX0_costOfAll_6 : decode cX0_costOfAll 6 = .ok (.getfield 28, 3) := by decide +kernel
theorem dX0_costOfAll_9 : decode cX0_costOfAll 9 = .ok (.if_icmp .ge 49, 3) := by decide +kernel
theorem dX0_costOfAll_12 : decode cX0_costOfAll 12 = .ok (.aload_n 0, 1) := by decide +kernel
theorem dX0_costOfAll_13 : decode cX0_costOfAll 13 = .ok (.iload_n 3, 1) := by decide +kernel
theorem dX0_costOfAll_14 : decode cX0_costOfAll 14 = .ok (.invokevirtual 48, 3) := by decide +kernel
theorem dX0_costOfAll_17 : decode cX0_costOfAll 17 = .ok (.ifCond .ne 35, 3) := by decide +kernel
theorem dX0_costOfAll_20 : decode cX0_costOfAll 20 = .ok (.iload_n 2, 1) := by decide +kernel
theorem dX0_costOfAll_21 : decode cX0_costOfAll 21 = .ok (.aload_n 0, 1) := by decide +kernel
theorem dX0_costOfAll_22 : decode cX0_costOfAll 22 = .ok (.aload_n 0, 1) := by decide +kernel
theorem dX0_costOfAll_23 : decode cX0_costOfAll 23 = .ok (.getfield 18, 3) := by decide +kernel
theorem dX0_costOfAll_26 : decode cX0_costOfAll 26 = .ok (.iload_n 3, 1) := by decide +kernel
theorem dX0_costOfAll_27 : decode cX0_costOfAll 27 = .ok (.iaload, 1) := by decide +kernel
theorem dX0_costOfAll_28 : decode cX0_costOfAll 28 = .ok (.invokevirtual 44, 3) := by decide +kernel
theorem dX0_costOfAll_31 : decode cX0_costOfAll 31 = .ok (.aload_n 1, 1) := by decide +kernel
theorem dX0_costOfAll_32 : decode cX0_costOfAll 32 = .ok (.invokestatic 63, 3) := by decide +kernel
theorem dX0_costOfAll_35 : decode cX0_costOfAll 35 = .ok (.aload_n 0, 1) := by decide +kernel
theorem dX0_costOfAll_36 : decode cX0_costOfAll 36 = .ok (.aload_n 0, 1) := by decide +kernel
theorem dX0_costOfAll_37 : decode cX0_costOfAll 37 = .ok (.getfield 21, 3) := by decide +kernel
theorem dX0_costOfAll_40 : decode cX0_costOfAll 40 = .ok (.iload_n 3, 1) := by decide +kernel
theorem dX0_costOfAll_41 : decode cX0_costOfAll 41 = .ok (.iaload, 1) := by decide +kernel
theorem dX0_costOfAll_42 : decode cX0_costOfAll 42 = .ok (.invokevirtual 44, 3) := by decide +kernel
theorem dX0_costOfAll_45 : decode cX0_costOfAll 45 = .ok (.aload_n 1, 1) := by decide +kernel
theorem dX0_costOfAll_46 : decode cX0_costOfAll 46 = .ok (.invokestatic 63, 3) := by decide +kernel
theorem dX0_costOfAll_49 : decode cX0_costOfAll 49 = .ok (.iadd, 1) := by decide +kernel
theorem dX0_costOfAll_50 : decode cX0_costOfAll 50 = .ok (.iadd, 1) := by decide +kernel
theorem dX0_costOfAll_51 : decode cX0_costOfAll 51 = .ok (.istore_n 2, 1) := by decide +kernel
theorem dX0_costOfAll_52 : decode cX0_costOfAll 52 = .ok (.iinc 3 1, 3) := by decide +kernel
theorem dX0_costOfAll_55 : decode cX0_costOfAll 55 = .ok (.goto (-51), 3) := by decide +kernel
theorem dX0_costOfAll_58 : decode cX0_costOfAll 58 = .ok (.iload_n 2, 1) := by decide +kernel
theorem dX0_costOfAll_59 : decode cX0_costOfAll 59 = .ok (.ireturn, 1) := by decide +kernel
theorem dX0_costTo_0 : decode cX0_costTo 0 = .ok (.iload_n 0, 1) := by decide +kernel
theorem dX0_costTo_1 : decode cX0_costTo 1 = .ok (.bipush 6, 2) := by decide +kernel
theorem dX0_costTo_3 : decode cX0_costTo 3 = .ok (.if_icmp .ne 7, 3) := by decide +kernel
theorem dX0_costTo_6 : decode cX0_costTo 6 = .ok (.iconst 0, 1) := by decide +kernel
theorem dX0_costTo_7 : decode cX0_costTo 7 = .ok (.goto 6, 3) := by decide +kernel
theorem dX0_costTo_10 : decode cX0_costTo 10 = .ok (.aload_n 1, 1) := by decide +kernel
theorem dX0_costTo_11 : decode cX0_costTo 11 = .ok (.iload_n 0, 1) := by decide +kernel
theorem dX0_costTo_12 : decode cX0_costTo 12 = .ok (.iaload, 1) := by decide +kernel
theorem dX0_costTo_13 : decode cX0_costTo 13 = .ok (.ireturn, 1) := by decide +kernel
theorem dX0_neverEnding_0 : decode cX0_neverEnding 0 = .ok (.iconst 0, 1) := by decide +kernel
theorem dX0_neverEnding_1 : decode cX0_neverEnding 1 = .ok (.istore_n 1, 1) := by decide +kernel
theorem dX0_neverEnding_2 : decode cX0_neverEnding 2 = .ok (.iconst 0, 1) := by decide +kernel
theorem dX0_neverEnding_3 : decode cX0_neverEnding 3 = .ok (.istore_n 2, 1) := by decide +kernel
theorem dX0_neverEnding_4 : decode cX0_neverEnding 4 = .ok (.iload_n 2, 1) := by decide +kernel
theorem dX0_neverEnding_5 : decode cX0_neverEnding 5 = .ok (.aload_n 0, 1) := by decide +kernel
theorem dX0_neverEnding_6 : decode cX0_neverEnding 6 = .ok (.getfield 28, 3) := by decide +kernel
theorem dX0_neverEnding_9 : decode cX0_neverEnding 9 = .ok (.if_icmp .ge 45, 3) := by decide +kernel
theorem dX0_neverEnding_12 : decode cX0_neverEnding 12 = .ok (.aload_n 0, 1) := by decide +kernel
theorem dX0_neverEnding_13 : decode cX0_neverEnding 13 = .ok (.iload_n 2, 1) := by decide +kernel
theorem dX0_neverEnding_14 : decode cX0_neverEnding 14 = .ok (.invokevirtual 48, 3) := by decide +kernel
theorem dX0_neverEnding_17 : decode cX0_neverEnding 17 = .ok (.ifCond .ne 31, 3) := by decide +kernel
theorem dX0_neverEnding_20 : decode cX0_neverEnding 20 = .ok (.aload_n 0, 1) := by decide +kernel
theorem dX0_neverEnding_21 : decode cX0_neverEnding 21 = .ok (.getfield 18, 3) := by decide +kernel
theorem dX0_neverEnding_24 : decode cX0_neverEnding 24 = .ok (.iload_n 2, 1) := by decide +kernel
theorem dX0_neverEnding_25 : decode cX0_neverEnding 25 = .ok (.iaload, 1) := by decide +kernel
theorem dX0_neverEnding_26 : decode cX0_neverEnding 26 = .ok (.bipush 10, 2) := by decide +kernel
theorem dX0_neverEnding_28 : decode cX0_neverEnding 28 = .ok (.if_icmp .lt 20, 3) := by decide +kernel
theorem dX0_neverEnding_31 : decode cX0_neverEnding 31 = .ok (.aload_n 0, 1) := by decide +kernel
theorem dX0_neverEnding_32 : decode cX0_neverEnding 32 = .ok (.getfield 21, 3) := by decide +kernel
theorem dX0_neverEnding_35 : decode cX0_neverEnding 35 = .ok (.iload_n 2, 1) := by decide +kernel
theorem dX0_neverEnding_36 : decode cX0_neverEnding 36 = .ok (.iaload, 1) := by decide +kernel
theorem dX0_neverEnding_37 : decode cX0_neverEnding 37 = .ok (.bipush 10, 2) := by decide +kernel
theorem dX0_neverEnding_39 : decode cX0_neverEnding 39 = .ok (.if_icmp .lt 9, 3) := by decide +kernel
theorem dX0_neverEnding_42 : decode cX0_neverEnding 42 = .ok (.iload_n 1, 1) := by decide +kernel
theorem dX0_neverEnding_43 : decode cX0_neverEnding 43 = .ok (.iconst 1, 1) := by decide +kernel
theorem dX0_neverEnding_44 : decode cX0_neverEnding 44 = .ok (.iload_n 2, 1) := by decide +kernel
theorem dX0_neverEnding_45 : decode cX0_neverEnding 45 = .ok (.ishl, 1) := by decide +kernel
theorem dX0_neverEnding_46 : decode cX0_neverEnding 46 = .ok (.ior, 1) := by decide +kernel
theorem dX0_neverEnding_47 : decode cX0_neverEnding 47 = .ok (.istore_n 1, 1) := by decide +kernel
theorem dX0_neverEnding_48 : decode cX0_neverEnding 48 = .ok (.iinc 2 1, 3) := by decide +kernel
theorem dX0_neverEnding_51 : decode cX0_neverEnding 51 = .ok (.goto (-47), 3) := by decide +kernel
theorem dX0_neverEnding_54 : decode cX0_neverEnding 54 = .ok (.iload_n 1, 1) := by decide +kernel
theorem dX0_neverEnding_55 : decode cX0_neverEnding 55 = .ok (.ireturn, 1) := by decide +kernel
theorem dX0_sidesOf_0 : decode cX0_sidesOf 0 = .ok (.iconst 1, 1) := by decide +kernel
theorem dX0_sidesOf_1 : decode cX0_sidesOf 1 = .ok (.aload_n 0, 1) := by decide +kernel
theorem dX0_sidesOf_2 : decode cX0_sidesOf 2 = .ok (.getfield 18, 3) := by decide +kernel
theorem dX0_sidesOf_5 : decode cX0_sidesOf 5 = .ok (.iload_n 1, 1) := by decide +kernel
theorem dX0_sidesOf_6 : decode cX0_sidesOf 6 = .ok (.iaload, 1) := by decide +kernel
theorem dX0_sidesOf_7 : decode cX0_sidesOf 7 = .ok (.ishl, 1) := by decide +kernel
theorem dX0_sidesOf_8 : decode cX0_sidesOf 8 = .ok (.iconst 1, 1) := by decide +kernel
theorem dX0_sidesOf_9 : decode cX0_sidesOf 9 = .ok (.aload_n 0, 1) := by decide +kernel
theorem dX0_sidesOf_10 : decode cX0_sidesOf 10 = .ok (.getfield 21, 3) := by decide +kernel
theorem dX0_sidesOf_13 : decode cX0_sidesOf 13 = .ok (.iload_n 1, 1) := by decide +kernel
theorem dX0_sidesOf_14 : decode cX0_sidesOf 14 = .ok (.iaload, 1) := by decide +kernel
theorem dX0_sidesOf_15 : decode cX0_sidesOf 15 = .ok (.ishl, 1) := by decide +kernel
theorem dX0_sidesOf_16 : decode cX0_sidesOf 16 = .ok (.ior, 1) := by decide +kernel
theorem dX0_sidesOf_17 : decode cX0_sidesOf 17 = .ok (.ireturn, 1) := by decide +kernel
theorem dX0_groupOf_0 : decode cX0_groupOf 0 = .ok (.iconst 1, 1) := by decide +kernel
theorem dX0_groupOf_1 : decode cX0_groupOf 1 = .ok (.iload_n 1, 1) := by decide +kernel
theorem dX0_groupOf_2 : decode cX0_groupOf 2 = .ok (.ishl, 1) := by decide +kernel
theorem dX0_groupOf_3 : decode cX0_groupOf 3 = .ok (.istore_n 2, 1) := by decide +kernel
theorem dX0_groupOf_4 : decode cX0_groupOf 4 = .ok (.iconst 0, 1) := by decide +kernel
theorem dX0_groupOf_5 : decode cX0_groupOf 5 = .ok (.istore_n 3, 1) := by decide +kernel
theorem dX0_groupOf_6 : decode cX0_groupOf 6 = .ok (.iload_n 3, 1) := by decide +kernel
theorem dX0_groupOf_7 : decode cX0_groupOf 7 = .ok (.aload_n 0, 1) := by decide +kernel
theorem dX0_groupOf_8 : decode cX0_groupOf 8 = .ok (.getfield 28, 3) := by decide +kernel
theorem dX0_groupOf_11 : decode cX0_groupOf 11 = .ok (.if_icmp .ge 27, 3) := by decide +kernel
theorem dX0_groupOf_14 : decode cX0_groupOf 14 = .ok (.aload_n 0, 1) := by decide +kernel
theorem dX0_groupOf_15 : decode cX0_groupOf 15 = .ok (.iload_n 2, 1) := by decide +kernel
theorem dX0_groupOf_16 : decode cX0_groupOf 16 = .ok (.invokevirtual 67, 3) := by decide +kernel
theorem dX0_groupOf_19 : decode cX0_groupOf 19 = .ok (.istore 4, 2) := by decide +kernel
theorem dX0_groupOf_21 : decode cX0_groupOf 21 = .ok (.iload 4, 2) := by decide +kernel
theorem dX0_groupOf_23 : decode cX0_groupOf 23 = .ok (.iload_n 2, 1) := by decide +kernel
theorem dX0_groupOf_24 : decode cX0_groupOf 24 = .ok (.if_icmp .ne 5, 3) := by decide +kernel
theorem dX0_groupOf_27 : decode cX0_groupOf 27 = .ok (.iload_n 2, 1) := by decide +kernel
theorem dX0_groupOf_28 : decode cX0_groupOf 28 = .ok (.ireturn, 1) := by decide +kernel
theorem dX0_groupOf_29 : decode cX0_groupOf 29 = .ok (.iload 4, 2) := by decide +kernel
theorem dX0_groupOf_31 : decode cX0_groupOf 31 = .ok (.istore_n 2, 1) := by decide +kernel
theorem dX0_groupOf_32 : decode cX0_groupOf 32 = .ok (.iinc 3 1, 3) := by decide +kernel
theorem dX0_groupOf_35 : decode cX0_groupOf 35 = .ok (.goto (-29), 3) := by decide +kernel
theorem dX0_groupOf_38 : decode cX0_groupOf 38 = .ok (.iload_n 2, 1) := by decide +kernel
theorem dX0_groupOf_39 : decode cX0_groupOf 39 = .ok (.ireturn, 1) := by decide +kernel
theorem dX0_widen_0 : decode cX0_widen 0 = .ok (.iconst 0, 1) := by decide +kernel
theorem dX0_widen_1 : decode cX0_widen 1 = .ok (.istore_n 2, 1) := by decide +kernel
theorem dX0_widen_2 : decode cX0_widen 2 = .ok (.iload_n 2, 1) := by decide +kernel
theorem dX0_widen_3 : decode cX0_widen 3 = .ok (.aload_n 0, 1) := by decide +kernel
theorem dX0_widen_4 : decode cX0_widen 4 = .ok (.getfield 28, 3) := by decide +kernel
theorem dX0_widen_7 : decode cX0_widen 7 = .ok (.if_icmp .ge 35, 3) := by decide +kernel
theorem dX0_widen_10 : decode cX0_widen 10 = .ok (.aload_n 0, 1) := by decide +kernel
theorem dX0_widen_11 : decode cX0_widen 11 = .ok (.iload_n 2, 1) := by decide +kernel
theorem dX0_widen_12 : decode cX0_widen 12 = .ok (.invokevirtual 48, 3) := by decide +kernel
theorem dX0_widen_15 : decode cX0_widen 15 = .ok (.ifCond .ne 21, 3) := by decide +kernel
theorem dX0_widen_18 : decode cX0_widen 18 = .ok (.iload_n 1, 1) := by decide +kernel
theorem dX0_widen_19 : decode cX0_widen 19 = .ok (.aload_n 0, 1) := by decide +kernel
theorem dX0_widen_20 : decode cX0_widen 20 = .ok (.iload_n 2, 1) := by decide +kernel
theorem dX0_widen_21 : decode cX0_widen 21 = .ok (.invokevirtual 70, 3) := by decide +kernel
theorem dX0_widen_24 : decode cX0_widen 24 = .ok (.iand, 1) := by decide +kernel
theorem dX0_widen_25 : decode cX0_widen 25 = .ok (.ifCond .eq 11, 3) := by decide +kernel
theorem dX0_widen_28 : decode cX0_widen 28 = .ok (.iload_n 1, 1) := by decide +kernel
theorem dX0_widen_29 : decode cX0_widen 29 = .ok (.aload_n 0, 1) := by decide +kernel
theorem dX0_widen_30 : decode cX0_widen 30 = .ok (.iload_n 2, 1) := by decide +kernel
theorem dX0_widen_31 : decode cX0_widen 31 = .ok (.invokevirtual 70, 3) := by decide +kernel
theorem dX0_widen_34 : decode cX0_widen 34 = .ok (.ior, 1) := by decide +kernel
theorem dX0_widen_35 : decode cX0_widen 35 = .ok (.istore_n 1, 1) := by decide +kernel
theorem dX0_widen_36 : decode cX0_widen 36 = .ok (.iinc 2 1, 3) := by decide +kernel
theorem dX0_widen_39 : decode cX0_widen 39 = .ok (.goto (-37), 3) := by decide +kernel
theorem dX0_widen_42 : decode cX0_widen 42 = .ok (.iload_n 1, 1) := by decide +kernel
theorem dX0_widen_43 : decode cX0_widen 43 = .ok (.ireturn, 1) := by decide +kernel
theorem dX0_countGroups_0 : decode cX0_countGroups 0 = .ok (.iconst 0, 1) := by decide +kernel
theorem dX0_countGroups_1 : decode cX0_countGroups 1 = .ok (.istore_n 1, 1) := by decide +kernel
theorem dX0_countGroups_2 : decode cX0_countGroups 2 = .ok (.iconst 0, 1) := by decide +kernel
theorem dX0_countGroups_3 : decode cX0_countGroups 3 = .ok (.istore_n 2, 1) := by decide +kernel
theorem dX0_countGroups_4 : decode cX0_countGroups 4 = .ok (.iconst 0, 1) := by decide +kernel
theorem dX0_countGroups_5 : decode cX0_countGroups 5 = .ok (.istore_n 3, 1) := by decide +kernel
theorem dX0_countGroups_6 : decode cX0_countGroups 6 = .ok (.iload_n 3, 1) := by decide +kernel
theorem dX0_countGroups_7 : decode cX0_countGroups 7 = .ok (.aload_n 0, 1) := by decide +kernel
theorem dX0_countGroups_8 : decode cX0_countGroups 8 = .ok (.getfield 28, 3) := by decide +kernel
theorem dX0_countGroups_11 : decode cX0_countGroups 11 = .ok (.if_icmp .ge 43, 3) := by decide +kernel
theorem dX0_countGroups_14 : decode cX0_countGroups 14 = .ok (.aload_n 0, 1) := by decide +kernel
theorem dX0_countGroups_15 : decode cX0_countGroups 15 = .ok (.iload_n 3, 1) := by decide +kernel
theorem dX0_countGroups_16 : decode cX0_countGroups 16 = .ok (.invokevirtual 48, 3) := by decide +kernel
theorem dX0_countGroups_19 : decode cX0_countGroups 19 = .ok (.ifCond .ne 29, 3) := by decide +kernel
theorem dX0_countGroups_22 : decode cX0_countGroups 22 = .ok (.iload_n 2, 1) := by decide +kernel
theorem dX0_countGroups_23 : decode cX0_countGroups 23 = .ok (.aload_n 0, 1) := by decide +kernel
theorem dX0_countGroups_24 : decode cX0_countGroups 24 = .ok (.iload_n 3, 1) := by decide +kernel
theorem dX0_countGroups_25 : decode cX0_countGroups 25 = .ok (.invokevirtual 70, 3) := by decide +kernel
theorem dX0_countGroups_28 : decode cX0_countGroups 28 = .ok (.iand, 1) := by decide +kernel
theorem dX0_countGroups_29 : decode cX0_countGroups 29 = .ok (.ifCond .ne 19, 3) := by decide +kernel
theorem dX0_countGroups_32 : decode cX0_countGroups 32 = .ok (.iload_n 2, 1) := by decide +kernel
theorem dX0_countGroups_33 : decode cX0_countGroups 33 = .ok (.aload_n 0, 1) := by decide +kernel
theorem dX0_countGroups_34 : decode cX0_countGroups 34 = .ok (.aload_n 0, 1) := by decide +kernel
theorem dX0_countGroups_35 : decode cX0_countGroups 35 = .ok (.getfield 18, 3) := by decide +kernel
theorem dX0_countGroups_38 : decode cX0_countGroups 38 = .ok (.iload_n 3, 1) := by decide +kernel
theorem dX0_countGroups_39 : decode cX0_countGroups 39 = .ok (.iaload, 1) := by decide +kernel
theorem dX0_countGroups_40 : decode cX0_countGroups 40 = .ok (.invokevirtual 73, 3) := by decide +kernel
theorem dX0_countGroups_43 : decode cX0_countGroups 43 = .ok (.ior, 1) := by decide +kernel
theorem dX0_countGroups_44 : decode cX0_countGroups 44 = .ok (.istore_n 2, 1) := by decide +kernel
theorem dX0_countGroups_45 : decode cX0_countGroups 45 = .ok (.iinc 1 1, 3) := by decide +kernel
theorem dX0_countGroups_48 : decode cX0_countGroups 48 = .ok (.iinc 3 1, 3) := by decide +kernel
theorem dX0_countGroups_51 : decode cX0_countGroups 51 = .ok (.goto (-45), 3) := by decide +kernel
theorem dX0_countGroups_54 : decode cX0_countGroups 54 = .ok (.iload_n 1, 1) := by decide +kernel
theorem dX0_countGroups_55 : decode cX0_countGroups 55 = .ok (.ireturn, 1) := by decide +kernel
theorem dX1_init_0 : decode cX1_init 0 = .ok (.aload_n 0, 1) := by decide +kernel
theorem dX1_init_1 : decode cX1_init 1 = .ok (.invokespecial 3, 3) := by decide +kernel
theorem dX1_init_4 : decode cX1_init 4 = .ok (.aload_n 0, 1) := by decide +kernel
theorem dX1_init_5 : decode cX1_init 5 = .ok (.iconst 4, 1) := by decide +kernel
theorem dX1_init_6 : decode cX1_init 6 = .ok (.anewarray 9, 3) := by decide +kernel
theorem dX1_init_9 : decode cX1_init 9 = .ok (.putfield 11, 3) := by decide +kernel
theorem dX1_init_12 : decode cX1_init 12 = .ok (.aload_n 0, 1) := by decide +kernel
theorem dX1_init_13 : decode cX1_init 13 = .ok (.iconst 3, 1) := by decide +kernel
theorem dX1_init_14 : decode cX1_init 14 = .ok (.newarray .int, 2) := by decide +kernel
theorem dX1_init_16 : decode cX1_init 16 = .ok (.putfield 17, 3) := by decide +kernel
theorem dX1_init_19 : decode cX1_init 19 = .ok (.aload_n 0, 1) := by decide +kernel
theorem dX1_init_20 : decode cX1_init 20 = .ok (.iconst 3, 1) := by decide +kernel
theorem dX1_init_21 : decode cX1_init 21 = .ok (.newarray .int, 2) := by decide +kernel
theorem dX1_init_23 : decode cX1_init 23 = .ok (.putfield 21, 3) := by decide +kernel
theorem dX1_init_26 : decode cX1_init 26 = .ok (.aload_n 0, 1) := by decide +kernel
theorem dX1_init_27 : decode cX1_init 27 = .ok (.iconst 0, 1) := by decide +kernel
theorem dX1_init_28 : decode cX1_init 28 = .ok (.putfield 24, 3) := by decide +kernel
theorem dX1_init_31 : decode cX1_init 31 = .ok (.aload_n 0, 1) := by decide +kernel
theorem dX1_init_32 : decode cX1_init 32 = .ok (.iconst 0, 1) := by decide +kernel
theorem dX1_init_33 : decode cX1_init 33 = .ok (.putfield 28, 3) := by decide +kernel
theorem dX1_init_36 : decode cX1_init 36 = .ok (.iconst 0, 1) := by decide +kernel
theorem dX1_init_37 : decode cX1_init 37 = .ok (.istore_n 1, 1) := by decide +kernel
theorem dX1_init_38 : decode cX1_init 38 = .ok (.iload_n 1, 1) := by decide +kernel
theorem dX1_init_39 : decode cX1_init 39 = .ok (.aload_n 0, 1) := by decide +kernel
theorem dX1_init_40 : decode cX1_init 40 = .ok (.getfield 11, 3) := by decide +kernel
theorem dX1_init_43 : decode cX1_init 43 = .ok (.arraylength, 1) := by decide +kernel
theorem dX1_init_44 : decode cX1_init 44 = .ok (.if_icmp .ge 22, 3) := by decide +kernel
theorem dX1_init_47 : decode cX1_init 47 = .ok (.aload_n 0, 1) := by decide +kernel
theorem dX1_init_48 : decode cX1_init 48 = .ok (.getfield 11, 3) := by decide +kernel
theorem dX1_init_51 : decode cX1_init 51 = .ok (.iload_n 1, 1) := by decide +kernel
theorem dX1_init_52 : decode cX1_init 52 = .ok (.new 9, 3) := by decide +kernel
theorem dX1_init_55 : decode cX1_init 55 = .ok (.dup, 1) := by decide +kernel
theorem dX1_init_56 : decode cX1_init 56 = .ok (.invokespecial 31, 3) := by decide +kernel
theorem dX1_init_59 : decode cX1_init 59 = .ok (.aastore, 1) := by decide +kernel
theorem dX1_init_60 : decode cX1_init 60 = .ok (.iinc 1 1, 3) := by decide +kernel
theorem dX1_init_63 : decode cX1_init 63 = .ok (.goto (-25), 3) := by decide +kernel
theorem dX1_init_66 : decode cX1_init 66 = .ok (.return_, 1) := by decide +kernel
theorem dX1_seekFewest_0 : decode cX1_seekFewest 0 = .ok (.aload_n 0, 1) := by decide +kernel
theorem dX1_seekFewest_1 : decode cX1_seekFewest 1 = .ok (.getfield 11, 3) := by decide +kernel
theorem dX1_seekFewest_4 : decode cX1_seekFewest 4 = .ok (.iconst 0, 1) := by decide +kernel
theorem dX1_seekFewest_5 : decode cX1_seekFewest 5 = .ok (.aaload, 1) := by decide +kernel
theorem dX1_seekFewest_6 : decode cX1_seekFewest 6 = .ok (.aload_n 1, 1) := by decide +kernel
theorem dX1_seekFewest_7 : decode cX1_seekFewest 7 = .ok (.invokevirtual 32, 3) := by decide +kernel
theorem dX1_seekFewest_10 : decode cX1_seekFewest 10 = .ok (.aload_n 1, 1) := by decide +kernel
theorem dX1_seekFewest_11 : decode cX1_seekFewest 11 = .ok (.invokevirtual 36, 3) := by decide +kernel
theorem dX1_seekFewest_14 : decode cX1_seekFewest 14 = .ok (.istore_n 2, 1) := by decide +kernel
theorem dX1_seekFewest_15 : decode cX1_seekFewest 15 = .ok (.iconst 0, 1) := by decide +kernel
theorem dX1_seekFewest_16 : decode cX1_seekFewest 16 = .ok (.istore_n 3, 1) := by decide +kernel
theorem dX1_seekFewest_17 : decode cX1_seekFewest 17 = .ok (.iload_n 3, 1) := by decide +kernel
theorem dX1_seekFewest_18 : decode cX1_seekFewest 18 = .ok (.iconst 3, 1) := by decide +kernel
theorem dX1_seekFewest_19 : decode cX1_seekFewest 19 = .ok (.if_icmp .gt 26, 3) := by decide +kernel
theorem dX1_seekFewest_22 : decode cX1_seekFewest 22 = .ok (.aload_n 0, 1) := by decide +kernel
theorem dX1_seekFewest_23 : decode cX1_seekFewest 23 = .ok (.iconst 0, 1) := by decide +kernel
theorem dX1_seekFewest_24 : decode cX1_seekFewest 24 = .ok (.iload_n 3, 1) := by decide +kernel
theorem dX1_seekFewest_25 : decode cX1_seekFewest 25 = .ok (.iload_n 2, 1) := by decide +kernel
theorem dX1_seekFewest_26 : decode cX1_seekFewest 26 = .ok (.invokestatic 40, 3) := by decide +kernel
theorem dX1_seekFewest_29 : decode cX1_seekFewest 29 = .ok (.ifCond .eq 10, 3) := by decide +kernel
theorem dX1_seekFewest_32 : decode cX1_seekFewest 32 = .ok (.aload_n 0, 1) := by decide +kernel
theorem dX1_seekFewest_33 : decode cX1_seekFewest 33 = .ok (.iload_n 3, 1) := by decide +kernel
theorem dX1_seekFewest_34 : decode cX1_seekFewest 34 = .ok (.invokevirtual 44, 3) := by decide +kernel
theorem dX1_seekFewest_37 : decode cX1_seekFewest 37 = .ok (.iload_n 3, 1) := by decide +kernel
theorem dX1_seekFewest_38 : decode cX1_seekFewest 38 = .ok (.ireturn, 1) := by decide +kernel
theorem dX1_seekFewest_39 : decode cX1_seekFewest 39 = .ok (.iinc 3 1, 3) := by decide +kernel
theorem dX1_seekFewest_42 : decode cX1_seekFewest 42 = .ok (.goto (-25), 3) := by decide +kernel
theorem dX1_seekFewest_45 : decode cX1_seekFewest 45 = .ok (.bipush (-4), 2) := by decide +kernel
theorem dX1_seekFewest_47 : decode cX1_seekFewest 47 = .ok (.ireturn, 1) := by decide +kernel
theorem dX1_endsAll_0 : decode cX1_endsAll 0 = .ok (.iload_n 2, 1) := by decide +kernel
theorem dX1_endsAll_1 : decode cX1_endsAll 1 = .ok (.ifCond .ne 36, 3) := by decide +kernel
theorem dX1_endsAll_4 : decode cX1_endsAll 4 = .ok (.aload_n 0, 1) := by decide +kernel
theorem dX1_endsAll_5 : decode cX1_endsAll 5 = .ok (.getfield 11, 3) := by decide +kernel
theorem dX1_endsAll_8 : decode cX1_endsAll 8 = .ok (.iload_n 1, 1) := by decide +kernel
theorem dX1_endsAll_9 : decode cX1_endsAll 9 = .ok (.aaload, 1) := by decide +kernel
theorem dX1_endsAll_10 : decode cX1_endsAll 10 = .ok (.getfield 48, 3) := by decide +kernel
theorem dX1_endsAll_13 : decode cX1_endsAll 13 = .ok (.iload_n 3, 1) := by decide +kernel
theorem dX1_endsAll_14 : decode cX1_endsAll 14 = .ok (.ior, 1) := by decide +kernel
theorem dX1_endsAll_15 : decode cX1_endsAll 15 = .ok (.iconst 1, 1) := by decide +kernel
theorem dX1_endsAll_16 : decode cX1_endsAll 16 = .ok (.aload_n 0, 1) := by decide +kernel
theorem dX1_endsAll_17 : decode cX1_endsAll 17 = .ok (.getfield 11, 3) := by decide +kernel
theorem dX1_endsAll_20 : decode cX1_endsAll 20 = .ok (.iload_n 1, 1) := by decide +kernel
theorem dX1_endsAll_21 : decode cX1_endsAll 21 = .ok (.aaload, 1) := by decide +kernel
theorem dX1_endsAll_22 : decode cX1_endsAll 22 = .ok (.getfield 51, 3) := by decide +kernel
theorem dX1_endsAll_25 : decode cX1_endsAll 25 = .ok (.ishl, 1) := by decide +kernel
theorem dX1_endsAll_26 : decode cX1_endsAll 26 = .ok (.iconst 1, 1) := by decide +kernel
theorem dX1_endsAll_27 : decode cX1_endsAll 27 = .ok (.isub, 1) := by decide +kernel
theorem dX1_endsAll_28 : decode cX1_endsAll 28 = .ok (.if_icmp .ne 7, 3) := by decide +kernel
theorem dX1_endsAll_31 : decode cX1_endsAll 31 = .ok (.iconst 1, 1) := by decide +kernel
theorem dX1_endsAll_32 : decode cX1_endsAll 32 = .ok (.goto 4, 3) := by decide +kernel
theorem dX1_endsAll_35 : decode cX1_endsAll 35 = .ok (.iconst 0, 1) := by decide +kernel
theorem dX1_endsAll_36 : decode cX1_endsAll 36 = .ok (.ireturn, 1) := by decide +kernel
theorem dX1_endsAll_37 : decode cX1_endsAll 37 = .ok (.aload_n 0, 1) := by decide +kernel
theorem dX1_endsAll_38 : decode cX1_endsAll 38 = .ok (.iload_n 1, 1) := by decide +kernel
theorem dX1_endsAll_39 : decode cX1_endsAll 39 = .ok (.iload_n 2, 1) := by decide +kernel
theorem dX1_endsAll_40 : decode cX1_endsAll 40 = .ok (.iload_n 3, 1) := by decide +kernel
theorem dX1_endsAll_41 : decode cX1_endsAll 41 = .ok (.invokevirtual 54, 3) := by decide +kernel
theorem dX1_endsAll_44 : decode cX1_endsAll 44 = .ok (.istore 4, 2) := by decide +kernel
theorem dX1_endsAll_46 : decode cX1_endsAll 46 = .ok (.iconst 0, 1) := by decide +kernel
theorem dX1_endsAll_47 : decode cX1_endsAll 47 = .ok (.istore 5, 2) := by decide +kernel
theorem dX1_endsAll_49 : decode cX1_endsAll 49 = .ok (.iload 5, 2) := by decide +kernel
theorem dX1_endsAll_51 : decode cX1_endsAll 51 = .ok (.bipush 8, 2) := by decide +kernel
theorem dX1_endsAll_53 : decode cX1_endsAll 53 = .ok (.if_icmp .ge 64, 3) := by decide +kernel
theorem dX1_endsAll_56 : decode cX1_endsAll 56 = .ok (.iconst 0, 1) := by decide +kernel
theorem dX1_endsAll_57 : decode cX1_endsAll 57 = .ok (.istore 6, 2) := by decide +kernel
theorem dX1_endsAll_59 : decode cX1_endsAll 59 = .ok (.iload 6, 2) := by decide +kernel
theorem dX1_endsAll_61 : decode cX1_endsAll 61 = .ok (.bipush 6, 2) := by decide +kernel
theorem dX1_endsAll_63 : decode cX1_endsAll 63 = .ok (.if_icmp .ge 48, 3) := by decide +kernel
theorem dX1_endsAll_66 : decode cX1_endsAll 66 = .ok (.iload 4, 2) := by decide +kernel
theorem dX1_endsAll_68 : decode cX1_endsAll 68 = .ok (.iload 5, 2) := by decide +kernel
theorem dX1_endsAll_70 : decode cX1_endsAll 70 = .ok (.ishr, 1) := by decide +kernel
theorem dX1_endsAll_71 : decode cX1_endsAll 71 = .ok (.iconst 1, 1) := by decide +kernel
theorem dX1_endsAll_72 : decode cX1_endsAll 72 = .ok (.iand, 1) := by decide +kernel
theorem dX1_endsAll_73 : decode cX1_endsAll 73 = .ok (.iconst 1, 1) := by decide +kernel
theorem dX1_endsAll_74 : decode cX1_endsAll 74 = .ok (.if_icmp .ne 37, 3) := by decide +kernel
theorem dX1_endsAll_77 : decode cX1_endsAll 77 = .ok (.aload_n 0, 1) := by decide +kernel
theorem dX1_endsAll_78 : decode cX1_endsAll 78 = .ok (.iload_n 1, 1) := by decide +kernel
theorem dX1_endsAll_79 : decode cX1_endsAll 79 = .ok (.iload 5, 2) := by decide +kernel
theorem dX1_endsAll_81 : decode cX1_endsAll 81 = .ok (.iload 6, 2) := by decide +kernel
theorem dX1_endsAll_83 : decode cX1_endsAll 83 = .ok (.invokevirtual 58, 3) := by decide +kernel
theorem dX1_endsAll_86 : decode cX1_endsAll 86 = .ok (.ifCond .eq 19, 3) := by decide +kernel
theorem dX1_endsAll_89 : decode cX1_endsAll 89 = .ok (.aload_n 0, 1) := by decide +kernel
theorem dX1_endsAll_90 : decode cX1_endsAll 90 = .ok (.iload_n 1, 1) := by decide +kernel
theorem dX1_endsAll_91 : decode cX1_endsAll 91 = .ok (.iconst 1, 1) := by decide +kernel
theorem dX1_endsAll_92 : decode cX1_endsAll 92 = .ok (.iadd, 1) := by decide +kernel
theorem dX1_endsAll_93 : decode cX1_endsAll 93 = .ok (.iload_n 2, 1) := by decide +kernel
theorem dX1_endsAll_94 : decode cX1_endsAll 94 = .ok (.iconst 1, 1) := by decide +kernel
theorem dX1_endsAll_95 : decode cX1_endsAll 95 = .ok (.isub, 1) := by decide +kernel
theorem dX1_endsAll_96 : decode cX1_endsAll 96 = .ok (.iload_n 3, 1) := by decide +kernel
theorem dX1_endsAll_97 : decode cX1_endsAll 97 = .ok (.invokestatic 40, 3) := by decide +kernel
theorem dX1_endsAll_100 : decode cX1_endsAll 100 = .ok (.ifCond .eq 5, 3) := by decide +kernel
theorem dX1_endsAll_103 : decode cX1_endsAll 103 = .ok (.iconst 1, 1) := by decide +kernel
theorem dX1_endsAll_104 : decode cX1_endsAll 104 = .ok (.ireturn, 1) := by decide +kernel
theorem dX1_endsAll_105 : decode cX1_endsAll 105 = .ok (.iinc 6 1, 3) := by decide +kernel
theorem dX1_endsAll_108 : decode cX1_endsAll 108 = .ok (.goto (-49), 3) := by decide +kernel
theorem dX1_endsAll_111 : decode cX1_endsAll 111 = .ok (.iinc 5 1, 3) := by decide +kernel
theorem dX1_endsAll_114 : decode cX1_endsAll 114 = .ok (.goto (-65), 3) := by decide +kernel
theorem dX1_endsAll_117 : decode cX1_endsAll 117 = .ok (.iconst 0, 1) := by decide +kernel
theorem dX1_endsAll_118 : decode cX1_endsAll 118 = .ok (.ireturn, 1) := by decide +kernel
theorem dX1_usefulThings_0 : decode cX1_usefulThings 0 = .ok (.aload_n 0, 1) := by decide +kernel
theorem dX1_usefulThings_1 : decode cX1_usefulThings 1 = .ok (.getfield 11, 3) := by decide +kernel
theorem dX1_usefulThings_4 : decode cX1_usefulThings 4 = .ok (.iload_n 1, 1) := by decide +kernel
theorem dX1_usefulThings_5 : decode cX1_usefulThings 5 = .ok (.aaload, 1) := by decide +kernel
theorem dX1_usefulThings_6 : decode cX1_usefulThings 6 = .ok (.astore 4, 2) := by decide +kernel
theorem dX1_usefulThings_8 : decode cX1_usefulThings 8 = .ok (.iconst 0, 1) := by decide +kernel
theorem dX1_usefulThings_9 : decode cX1_usefulThings 9 = .ok (.istore 5, 2) := by decide +kernel
theorem dX1_usefulThings_11 : decode cX1_usefulThings 11 = .ok (.iconst (-1), 1) := by decide +kernel
theorem dX1_usefulThings_12 : decode cX1_usefulThings 12 = .ok (.istore 6, 2) := by decide +kernel
theorem dX1_usefulThings_14 : decode cX1_usefulThings 14 = .ok (.iconst 0, 1) := by decide +kernel
theorem dX1_usefulThings_15 : decode cX1_usefulThings 15 = .ok (.istore 7, 2) := by decide +kernel
theorem dX1_usefulThings_17 : decode cX1_usefulThings 17 = .ok (.iload 7, 2) := by decide +kernel
theorem dX1_usefulThings_19 : decode cX1_usefulThings 19 = .ok (.aload 4, 2) := by decide +kernel
theorem dX1_usefulThings_21 : decode cX1_usefulThings 21 = .ok (.getfield 51, 3) := by decide +kernel
theorem dX1_usefulThings_24 : decode cX1_usefulThings 24 = .ok (.if_icmp .ge 62, 3) := by decide +kernel
theorem dX1_usefulThings_27 : decode cX1_usefulThings 27 = .ok (.aload 4, 2) := by decide +kernel
theorem dX1_usefulThings_29 : decode cX1_usefulThings 29 = .ok (.iload 7, 2) := by decide +kernel
theorem dX1_usefulThings_31 : decode cX1_usefulThings 31 = .ok (.invokevirtual 62, 3) := by decide +kernel
theorem dX1_usefulThings_34 : decode cX1_usefulThings 34 = .ok (.ifCond .ne 46, 3) := by decide +kernel
theorem dX1_usefulThings_37 : decode cX1_usefulThings 37 = .ok (.iload_n 3, 1) := by decide +kernel
theorem dX1_usefulThings_38 : decode cX1_usefulThings 38 = .ok (.iload 7, 2) := by decide +kernel
theorem dX1_usefulThings_40 : decode cX1_usefulThings 40 = .ok (.ishr, 1) := by decide +kernel
theorem dX1_usefulThings_41 : decode cX1_usefulThings 41 = .ok (.iconst 1, 1) := by decide +kernel
theorem dX1_usefulThings_42 : decode cX1_usefulThings 42 = .ok (.iand, 1) := by decide +kernel
theorem dX1_usefulThings_43 : decode cX1_usefulThings 43 = .ok (.ifCond .ne 37, 3) := by decide +kernel
theorem dX1_usefulThings_46 : decode cX1_usefulThings 46 = .ok (.aload 4, 2) := by decide +kernel
theorem dX1_usefulThings_48 : decode cX1_usefulThings 48 = .ok (.iload 7, 2) := by decide +kernel
theorem dX1_usefulThings_50 : decode cX1_usefulThings 50 = .ok (.invokevirtual 66, 3) := by decide +kernel
theorem dX1_usefulThings_53 : decode cX1_usefulThings 53 = .ok (.sipush 255, 3) := by decide +kernel
theorem dX1_usefulThings_56 : decode cX1_usefulThings 56 = .ok (.iand, 1) := by decide +kernel
theorem dX1_usefulThings_57 : decode cX1_usefulThings 57 = .ok (.istore 8, 2) := by decide +kernel
theorem dX1_usefulThings_59 : decode cX1_usefulThings 59 = .ok (.iload 8, 2) := by decide +kernel
theorem dX1_usefulThings_61 : decode cX1_usefulThings 61 = .ok (.ifCond .ne 5, 3) := by decide +kernel
theorem dX1_usefulThings_64 : decode cX1_usefulThings 64 = .ok (.iconst 0, 1) := by decide +kernel
theorem dX1_usefulThings_65 : decode cX1_usefulThings 65 = .ok (.ireturn, 1) := by decide +kernel
theorem dX1_usefulThings_66 : decode cX1_usefulThings 66 = .ok (.iload 5, 2) := by decide +kernel
theorem dX1_usefulThings_68 : decode cX1_usefulThings 68 = .ok (.iload 8, 2) := by decide +kernel
theorem dX1_usefulThings_70 : decode cX1_usefulThings 70 = .ok (.ior, 1) := by decide +kernel
theorem dX1_usefulThings_71 : decode cX1_usefulThings 71 = .ok (.istore 5, 2) := by decide +kernel
theorem dX1_usefulThings_73 : decode cX1_usefulThings 73 = .ok (.iload 6, 2) := by decide +kernel
theorem dX1_usefulThings_75 : decode cX1_usefulThings 75 = .ok (.iload 8, 2) := by decide +kernel
theorem dX1_usefulThings_77 : decode cX1_usefulThings 77 = .ok (.iand, 1) := by decide +kernel
theorem dX1_usefulThings_78 : decode cX1_usefulThings 78 = .ok (.istore 6, 2) := by decide +kernel
theorem dX1_usefulThings_80 : decode cX1_usefulThings 80 = .ok (.iinc 7 1, 3) := by decide +kernel
theorem dX1_usefulThings_83 : decode cX1_usefulThings 83 = .ok (.goto (-66), 3) := by decide +kernel
theorem dX1_usefulThings_86 : decode cX1_usefulThings 86 = .ok (.iload_n 2, 1) := by decide +kernel
theorem dX1_usefulThings_87 : decode cX1_usefulThings 87 = .ok (.iconst 1, 1) := by decide +kernel
theorem dX1_usefulThings_88 : decode cX1_usefulThings 88 = .ok (.if_icmp .ne 11, 3) := by decide +kernel
theorem dX1_usefulThings_91 : decode cX1_usefulThings 91 = .ok (.iload 5, 2) := by decide +kernel
theorem dX1_usefulThings_93 : decode cX1_usefulThings 93 = .ok (.iload 6, 2) := by decide +kernel
theorem dX1_usefulThings_95 : decode cX1_usefulThings 95 = .ok (.iand, 1) := by decide +kernel
theorem dX1_usefulThings_96 : decode cX1_usefulThings 96 = .ok (.goto 5, 3) := by decide +kernel
theorem dX1_usefulThings_99 : decode cX1_usefulThings 99 = .ok (.iload 5, 2) := by decide +kernel
theorem dX1_usefulThings_101 : decode cX1_usefulThings 101 = .ok (.ireturn, 1) := by decide +kernel
theorem dX1_step_0 : decode cX1_step 0 = .ok (.aload_n 0, 1) := by decide +kernel
theorem dX1_step_1 : decode cX1_step 1 = .ok (.getfield 11, 3) := by decide +kernel
theorem dX1_step_4 : decode cX1_step 4 = .ok (.iload_n 1, 1) := by decide +kernel
theorem dX1_step_5 : decode cX1_step 5 = .ok (.aaload, 1) := by decide +kernel
theorem dX1_step_6 : decode cX1_step 6 = .ok (.astore 4, 2) := by decide +kernel
theorem dX1_step_8 : decode cX1_step 8 = .ok (.aload 4, 2) := by decide +kernel
theorem dX1_step_10 : decode cX1_step 10 = .ok (.getfield 70, 3) := by decide +kernel
theorem dX1_step_13 : decode cX1_step 13 = .ok (.iload_n 2, 1) := by decide +kernel
theorem dX1_step_14 : decode cX1_step 14 = .ok (.iaload, 1) := by decide +kernel
theorem dX1_step_15 : decode cX1_step 15 = .ok (.iload_n 3, 1) := by decide +kernel
theorem dX1_step_16 : decode cX1_step 16 = .ok (.if_icmp .ne 5, 3) := by decide +kernel
theorem dX1_step_19 : decode cX1_step 19 = .ok (.iconst 0, 1) := by decide +kernel
theorem dX1_step_20 : decode cX1_step 20 = .ok (.ireturn, 1) := by decide +kernel
theorem dX1_step_21 : decode cX1_step 21 = .ok (.aload_n 0, 1) := by decide +kernel
theorem dX1_step_22 : decode cX1_step 22 = .ok (.getfield 11, 3) := by decide +kernel
theorem dX1_step_25 : decode cX1_step 25 = .ok (.iload_n 1, 1) := by decide +kernel
theorem dX1_step_26 : decode cX1_step 26 = .ok (.iconst 1, 1) := by decide +kernel
theorem dX1_step_27 : decode cX1_step 27 = .ok (.iadd, 1) := by decide +kernel
theorem dX1_step_28 : decode cX1_step 28 = .ok (.aaload, 1) := by decide +kernel
theorem dX1_step_29 : decode cX1_step 29 = .ok (.aload 4, 2) := by decide +kernel
theorem dX1_step_31 : decode cX1_step 31 = .ok (.invokevirtual 32, 3) := by decide +kernel
theorem dX1_step_34 : decode cX1_step 34 = .ok (.aload_n 0, 1) := by decide +kernel
theorem dX1_step_35 : decode cX1_step 35 = .ok (.getfield 11, 3) := by decide +kernel
theorem dX1_step_38 : decode cX1_step 38 = .ok (.iload_n 1, 1) := by decide +kernel
theorem dX1_step_39 : decode cX1_step 39 = .ok (.iconst 1, 1) := by decide +kernel
theorem dX1_step_40 : decode cX1_step 40 = .ok (.iadd, 1) := by decide +kernel
theorem dX1_step_41 : decode cX1_step 41 = .ok (.aaload, 1) := by decide +kernel
theorem dX1_step_42 : decode cX1_step 42 = .ok (.iload_n 2, 1) := by decide +kernel
theorem dX1_step_43 : decode cX1_step 43 = .ok (.iload_n 3, 1) := by decide +kernel
theorem dX1_step_44 : decode cX1_step 44 = .ok (.invokevirtual 73, 3) := by decide +kernel
theorem dX1_step_47 : decode cX1_step 47 = .ok (.pop, 1) := by decide +kernel
theorem dX1_step_48 : decode cX1_step 48 = .ok (.aload_n 0, 1) := by decide +kernel
theorem dX1_step_49 : decode cX1_step 49 = .ok (.getfield 17, 3) := by decide +kernel
theorem dX1_step_52 : decode cX1_step 52 = .ok (.iload_n 1, 1) := by decide +kernel
theorem dX1_step_53 : decode cX1_step 53 = .ok (.bipush 10, 2) := by decide +kernel
theorem dX1_step_55 : decode cX1_step 55 = .ok (.iload_n 2, 1) := by decide +kernel
theorem dX1_step_56 : decode cX1_step 56 = .ok (.imul, 1) := by decide +kernel
theorem dX1_step_57 : decode cX1_step 57 = .ok (.iload_n 3, 1) := by decide +kernel
theorem dX1_step_58 : decode cX1_step 58 = .ok (.iadd, 1) := by decide +kernel
theorem dX1_step_59 : decode cX1_step 59 = .ok (.iastore, 1) := by decide +kernel
theorem dX1_step_60 : decode cX1_step 60 = .ok (.iconst 1, 1) := by decide +kernel
theorem dX1_step_61 : decode cX1_step 61 = .ok (.ireturn, 1) := by decide +kernel
theorem dX1_seekBest_0 : decode cX1_seekBest 0 = .ok (.aload_n 0, 1) := by decide +kernel
theorem dX1_seekBest_1 : decode cX1_seekBest 1 = .ok (.getfield 11, 3) := by decide +kernel
theorem dX1_seekBest_4 : decode cX1_seekBest 4 = .ok (.iconst 0, 1) := by decide +kernel
theorem dX1_seekBest_5 : decode cX1_seekBest 5 = .ok (.aaload, 1) := by decide +kernel
theorem dX1_seekBest_6 : decode cX1_seekBest 6 = .ok (.aload_n 1, 1) := by decide +kernel
theorem dX1_seekBest_7 : decode cX1_seekBest 7 = .ok (.invokevirtual 32, 3) := by decide +kernel
theorem dX1_seekBest_10 : decode cX1_seekBest 10 = .ok (.aload_n 0, 1) := by decide +kernel
theorem dX1_seekBest_11 : decode cX1_seekBest 11 = .ok (.aload_n 1, 1) := by decide +kernel
theorem dX1_seekBest_12 : decode cX1_seekBest 12 = .ok (.aload_n 2, 1) := by decide +kernel
theorem dX1_seekBest_13 : decode cX1_seekBest 13 = .ok (.invokevirtual 77, 3) := by decide +kernel
theorem dX1_seekBest_16 : decode cX1_seekBest 16 = .ok (.iload_n 3, 1) := by decide +kernel
theorem dX1_seekBest_17 : decode cX1_seekBest 17 = .ok (.imul, 1) := by decide +kernel
theorem dX1_seekBest_18 : decode cX1_seekBest 18 = .ok (.putfield 28, 3) := by decide +kernel
theorem dX1_seekBest_21 : decode cX1_seekBest 21 = .ok (.aload_n 0, 1) := by decide +kernel
theorem dX1_seekBest_22 : decode cX1_seekBest 22 = .ok (.iconst 0, 1) := by decide +kernel
theorem dX1_seekBest_23 : decode cX1_seekBest 23 = .ok (.putfield 24, 3) := by decide +kernel
theorem dX1_seekBest_26 : decode cX1_seekBest 26 = .ok (.aload_n 0, 1) := by decide +kernel
theorem dX1_seekBest_27 : decode cX1_seekBest 27 = .ok (.iconst 0, 1) := by decide +kernel
theorem dX1_seekBest_28 : decode cX1_seekBest 28 = .ok (.aload_n 2, 1) := by decide +kernel
theorem dX1_seekBest_29 : decode cX1_seekBest 29 = .ok (.iload_n 3, 1) := by decide +kernel
theorem dX1_seekBest_30 : decode cX1_seekBest 30 = .ok (.invokestatic 81, 3) := by decide +kernel
theorem dX1_seekBest_33 : decode cX1_seekBest 33 = .ok (.return_, 1) := by decide +kernel
theorem dX1_weighRows_0 : decode cX1_weighRows 0 = .ok (.iload_n 1, 1) := by decide +kernel
theorem dX1_weighRows_1 : decode cX1_weighRows 1 = .ok (.iconst 2, 1) := by decide +kernel
theorem dX1_weighRows_2 : decode cX1_weighRows 2 = .ok (.if_icmp .lt 4, 3) := by decide +kernel
theorem dX1_weighRows_5 : decode cX1_weighRows 5 = .ok (.return_, 1) := by decide +kernel
theorem dX1_weighRows_6 : decode cX1_weighRows 6 = .ok (.iconst 0, 1) := by decide +kernel
theorem dX1_weighRows_7 : decode cX1_weighRows 7 = .ok (.istore 4, 2) := by decide +kernel
theorem dX1_weighRows_9 : decode cX1_weighRows 9 = .ok (.iload 4, 2) := by decide +kernel
theorem dX1_weighRows_11 : decode cX1_weighRows 11 = .ok (.bipush 8, 2) := by decide +kernel
theorem dX1_weighRows_13 : decode cX1_weighRows 13 = .ok (.if_icmp .ge 65, 3) := by decide +kernel
theorem dX1_weighRows_16 : decode cX1_weighRows 16 = .ok (.iconst 0, 1) := by decide +kernel
theorem dX1_weighRows_17 : decode cX1_weighRows 17 = .ok (.istore 5, 2) := by decide +kernel
theorem dX1_weighRows_19 : decode cX1_weighRows 19 = .ok (.iload 5, 2) := by decide +kernel
theorem dX1_weighRows_21 : decode cX1_weighRows 21 = .ok (.bipush 6, 2) := by decide +kernel
theorem dX1_weighRows_23 : decode cX1_weighRows 23 = .ok (.if_icmp .ge 49, 3) := by decide +kernel
theorem dX1_weighRows_26 : decode cX1_weighRows 26 = .ok (.aload_n 0, 1) := by decide +kernel
theorem dX1_weighRows_27 : decode cX1_weighRows 27 = .ok (.iload_n 1, 1) := by decide +kernel
theorem dX1_weighRows_28 : decode cX1_weighRows 28 = .ok (.iload 4, 2) := by decide +kernel
theorem dX1_weighRows_30 : decode cX1_weighRows 30 = .ok (.invokevirtual 85, 3) := by decide +kernel
theorem dX1_weighRows_33 : decode cX1_weighRows 33 = .ok (.ifCond .eq 39, 3) := by decide +kernel
theorem dX1_weighRows_36 : decode cX1_weighRows 36 = .ok (.aload_n 0, 1) := by decide +kernel
theorem dX1_weighRows_37 : decode cX1_weighRows 37 = .ok (.iload_n 1, 1) := by decide +kernel
theorem dX1_weighRows_38 : decode cX1_weighRows 38 = .ok (.iload 4, 2) := by decide +kernel
theorem dX1_weighRows_40 : decode cX1_weighRows 40 = .ok (.iload 5, 2) := by decide +kernel
theorem dX1_weighRows_42 : decode cX1_weighRows 42 = .ok (.invokevirtual 58, 3) := by decide +kernel
theorem dX1_weighRows_45 : decode cX1_weighRows 45 = .ok (.ifCond .eq 21, 3) := by decide +kernel
theorem dX1_weighRows_48 : decode cX1_weighRows 48 = .ok (.aload_n 0, 1) := by decide +kernel
theorem dX1_weighRows_49 : decode cX1_weighRows 49 = .ok (.iload_n 1, 1) := by decide +kernel
theorem dX1_weighRows_50 : decode cX1_weighRows 50 = .ok (.iconst 1, 1) := by decide +kernel
theorem dX1_weighRows_51 : decode cX1_weighRows 51 = .ok (.iadd, 1) := by decide +kernel
theorem dX1_weighRows_52 : decode cX1_weighRows 52 = .ok (.aload_n 2, 1) := by decide +kernel
theorem dX1_weighRows_53 : decode cX1_weighRows 53 = .ok (.iload_n 3, 1) := by decide +kernel
theorem dX1_weighRows_54 : decode cX1_weighRows 54 = .ok (.invokevirtual 89, 3) := by decide +kernel
theorem dX1_weighRows_57 : decode cX1_weighRows 57 = .ok (.aload_n 0, 1) := by decide +kernel
theorem dX1_weighRows_58 : decode cX1_weighRows 58 = .ok (.iload_n 1, 1) := by decide +kernel
theorem dX1_weighRows_59 : decode cX1_weighRows 59 = .ok (.iconst 1, 1) := by decide +kernel
theorem dX1_weighRows_60 : decode cX1_weighRows 60 = .ok (.iadd, 1) := by decide +kernel
theorem dX1_weighRows_61 : decode cX1_weighRows 61 = .ok (.aload_n 2, 1) := by decide +kernel
theorem dX1_weighRows_62 : decode cX1_weighRows 62 = .ok (.iload_n 3, 1) := by decide +kernel
theorem dX1_weighRows_63 : decode cX1_weighRows 63 = .ok (.invokestatic 81, 3) := by decide +kernel
theorem dX1_weighRows_66 : decode cX1_weighRows 66 = .ok (.iinc 5 1, 3) := by decide +kernel
theorem dX1_weighRows_69 : decode cX1_weighRows 69 = .ok (.goto (-50), 3) := by decide +kernel
theorem dX1_weighRows_72 : decode cX1_weighRows 72 = .ok (.iinc 4 1, 3) := by decide +kernel
theorem dX1_weighRows_75 : decode cX1_weighRows 75 = .ok (.goto (-66), 3) := by decide +kernel
theorem dX1_weighRows_78 : decode cX1_weighRows 78 = .ok (.return_, 1) := by decide +kernel
theorem dX1_isSide_0 : decode cX1_isSide 0 = .ok (.aload_n 0, 1) := by decide +kernel
theorem dX1_isSide_1 : decode cX1_isSide 1 = .ok (.getfield 11, 3) := by decide +kernel
theorem dX1_isSide_4 : decode cX1_isSide 4 = .ok (.iload_n 1, 1) := by decide +kernel
theorem dX1_isSide_5 : decode cX1_isSide 5 = .ok (.aaload, 1) := by decide +kernel
theorem dX1_isSide_6 : decode cX1_isSide 6 = .ok (.astore_n 3, 1) := by decide +kernel
theorem dX1_isSide_7 : decode cX1_isSide 7 = .ok (.iconst 0, 1) := by decide +kernel
theorem dX1_isSide_8 : decode cX1_isSide 8 = .ok (.istore 4, 2) := by decide +kernel
theorem dX1_isSide_10 : decode cX1_isSide 10 = .ok (.iload 4, 2) := by decide +kernel
theorem dX1_isSide_12 : decode cX1_isSide 12 = .ok (.aload_n 3, 1) := by decide +kernel
theorem dX1_isSide_13 : decode cX1_isSide 13 = .ok (.getfield 51, 3) := by decide +kernel
theorem dX1_isSide_16 : decode cX1_isSide 16 = .ok (.if_icmp .ge 34, 3) := by decide +kernel
theorem dX1_isSide_19 : decode cX1_isSide 19 = .ok (.aload_n 3, 1) := by decide +kernel
theorem dX1_isSide_20 : decode cX1_isSide 20 = .ok (.iload 4, 2) := by decide +kernel
theorem dX1_isSide_22 : decode cX1_isSide 22 = .ok (.invokevirtual 62, 3) := by decide +kernel
theorem dX1_isSide_25 : decode cX1_isSide 25 = .ok (.ifCond .ne 19, 3) := by decide +kernel
theorem dX1_isSide_28 : decode cX1_isSide 28 = .ok (.aload_n 3, 1) := by decide +kernel
theorem dX1_isSide_29 : decode cX1_isSide 29 = .ok (.iload 4, 2) := by decide +kernel
theorem dX1_isSide_31 : decode cX1_isSide 31 = .ok (.invokevirtual 66, 3) := by decide +kernel
theorem dX1_isSide_34 : decode cX1_isSide 34 = .ok (.iload_n 2, 1) := by decide +kernel
theorem dX1_isSide_35 : decode cX1_isSide 35 = .ok (.ishr, 1) := by decide +kernel
theorem dX1_isSide_36 : decode cX1_isSide 36 = .ok (.iconst 1, 1) := by decide +kernel
theorem dX1_isSide_37 : decode cX1_isSide 37 = .ok (.iand, 1) := by decide +kernel
theorem dX1_isSide_38 : decode cX1_isSide 38 = .ok (.iconst 1, 1) := by decide +kernel
theorem dX1_isSide_39 : decode cX1_isSide 39 = .ok (.if_icmp .ne 5, 3) := by decide +kernel
theorem dX1_isSide_42 : decode cX1_isSide 42 = .ok (.iconst 1, 1) := by decide +kernel
theorem dX1_isSide_43 : decode cX1_isSide 43 = .ok (.ireturn, 1) := by decide +kernel
theorem dX1_isSide_44 : decode cX1_isSide 44 = .ok (.iinc 4 1, 3) := by decide +kernel
theorem dX1_isSide_47 : decode cX1_isSide 47 = .ok (.goto (-37), 3) := by decide +kernel
theorem dX1_isSide_50 : decode cX1_isSide 50 = .ok (.iconst 0, 1) := by decide +kernel
theorem dX1_isSide_51 : decode cX1_isSide 51 = .ok (.ireturn, 1) := by decide +kernel
theorem dX1_weigh_0 : decode cX1_weigh 0 = .ok (.aload_n 0, 1) := by decide +kernel
theorem dX1_weigh_1 : decode cX1_weigh 1 = .ok (.getfield 11, 3) := by decide +kernel
theorem dX1_weigh_4 : decode cX1_weigh 4 = .ok (.iload_n 1, 1) := by decide +kernel
theorem dX1_weigh_5 : decode cX1_weigh 5 = .ok (.aaload, 1) := by decide +kernel
theorem dX1_weigh_6 : decode cX1_weigh 6 = .ok (.aload_n 2, 1) := by decide +kernel
theorem dX1_weigh_7 : decode cX1_weigh 7 = .ok (.invokevirtual 77, 3) := by decide +kernel
theorem dX1_weigh_10 : decode cX1_weigh 10 = .ok (.iload_n 3, 1) := by decide +kernel
theorem dX1_weigh_11 : decode cX1_weigh 11 = .ok (.imul, 1) := by decide +kernel
theorem dX1_weigh_12 : decode cX1_weigh 12 = .ok (.iload_n 1, 1) := by decide +kernel
theorem dX1_weigh_13 : decode cX1_weigh 13 = .ok (.iadd, 1) := by decide +kernel
theorem dX1_weigh_14 : decode cX1_weigh 14 = .ok (.istore 4, 2) := by decide +kernel
theorem dX1_weigh_16 : decode cX1_weigh 16 = .ok (.iload 4, 2) := by decide +kernel
theorem dX1_weigh_18 : decode cX1_weigh 18 = .ok (.aload_n 0, 1) := by decide +kernel
theorem dX1_weigh_19 : decode cX1_weigh 19 = .ok (.getfield 28, 3) := by decide +kernel
theorem dX1_weigh_22 : decode cX1_weigh 22 = .ok (.if_icmp .lt 20, 3) := by decide +kernel
theorem dX1_weigh_25 : decode cX1_weigh 25 = .ok (.iload 4, 2) := by decide +kernel
theorem dX1_weigh_27 : decode cX1_weigh 27 = .ok (.aload_n 0, 1) := by decide +kernel
theorem dX1_weigh_28 : decode cX1_weigh 28 = .ok (.getfield 28, 3) := by decide +kernel
theorem dX1_weigh_31 : decode cX1_weigh 31 = .ok (.if_icmp .ne 22, 3) := by decide +kernel
theorem dX1_weigh_34 : decode cX1_weigh 34 = .ok (.iload_n 1, 1) := by decide +kernel
theorem dX1_weigh_35 : decode cX1_weigh 35 = .ok (.aload_n 0, 1) := by decide +kernel
theorem dX1_weigh_36 : decode cX1_weigh 36 = .ok (.getfield 24, 3) := by decide +kernel
theorem dX1_weigh_39 : decode cX1_weigh 39 = .ok (.if_icmp .ge 14, 3) := by decide +kernel
theorem dX1_weigh_42 : decode cX1_weigh 42 = .ok (.aload_n 0, 1) := by decide +kernel
theorem dX1_weigh_43 : decode cX1_weigh 43 = .ok (.iload 4, 2) := by decide +kernel
theorem dX1_weigh_45 : decode cX1_weigh 45 = .ok (.putfield 28, 3) := by decide +kernel
theorem dX1_weigh_48 : decode cX1_weigh 48 = .ok (.aload_n 0, 1) := by decide +kernel
theorem dX1_weigh_49 : decode cX1_weigh 49 = .ok (.iload_n 1, 1) := by decide +kernel
theorem dX1_weigh_50 : decode cX1_weigh 50 = .ok (.invokevirtual 44, 3) := by decide +kernel
theorem dX1_weigh_53 : decode cX1_weigh 53 = .ok (.return_, 1) := by decide +kernel
theorem dX1_choose_0 : decode cX1_choose 0 = .ok (.aload_n 0, 1) := by decide +kernel
theorem dX1_choose_1 : decode cX1_choose 1 = .ok (.iload_n 1, 1) := by decide +kernel
theorem dX1_choose_2 : decode cX1_choose 2 = .ok (.putfield 24, 3) := by decide +kernel
theorem dX1_choose_5 : decode cX1_choose 5 = .ok (.aload_n 0, 1) := by decide +kernel
theorem dX1_choose_6 : decode cX1_choose 6 = .ok (.getfield 17, 3) := by decide +kernel
theorem dX1_choose_9 : decode cX1_choose 9 = .ok (.iconst 0, 1) := by decide +kernel
theorem dX1_choose_10 : decode cX1_choose 10 = .ok (.aload_n 0, 1) := by decide +kernel
theorem dX1_choose_11 : decode cX1_choose 11 = .ok (.getfield 21, 3) := by decide +kernel
theorem dX1_choose_14 : decode cX1_choose 14 = .ok (.iconst 0, 1) := by decide +kernel
theorem dX1_choose_15 : decode cX1_choose 15 = .ok (.iload_n 1, 1) := by decide +kernel
theorem dX1_choose_16 : decode cX1_choose 16 = .ok (.invokestatic 93, 3) := by decide +kernel
theorem dX1_choose_19 : decode cX1_choose 19 = .ok (.return_, 1) := by decide +kernel
theorem dX2_init_0 : decode cX2_init 0 = .ok (.aload_n 0, 1) := by decide +kernel
theorem dX2_init_1 : decode cX2_init 1 = .ok (.invokespecial 3, 3) := by decide +kernel
theorem dX2_init_4 : decode cX2_init 4 = .ok (.aload_n 0, 1) := by decide +kernel
theorem dX2_init_5 : decode cX2_init 5 = .ok (.bipush 24, 2) := by decide +kernel
theorem dX2_init_7 : decode cX2_init 7 = .ok (.newarray .int, 2) := by decide +kernel
theorem dX2_init_9 : decode cX2_init 9 = .ok (.putfield 9, 3) := by decide +kernel
theorem dX2_init_12 : decode cX2_init 12 = .ok (.aload_n 0, 1) := by decide +kernel
theorem dX2_init_13 : decode cX2_init 13 = .ok (.iconst 1, 1) := by decide +kernel
theorem dX2_init_14 : decode cX2_init 14 = .ok (.putfield 15, 3) := by decide +kernel
theorem dX2_init_17 : decode cX2_init 17 = .ok (.aload_n 0, 1) := by decide +kernel
theorem dX2_init_18 : decode cX2_init 18 = .ok (.iconst 0, 1) := by decide +kernel
theorem dX2_init_19 : decode cX2_init 19 = .ok (.putfield 19, 3) := by decide +kernel
theorem dX2_init_22 : decode cX2_init 22 = .ok (.aload_n 0, 1) := by decide +kernel
theorem dX2_init_23 : decode cX2_init 23 = .ok (.iconst 0, 1) := by decide +kernel
theorem dX2_init_24 : decode cX2_init 24 = .ok (.putfield 23, 3) := by decide +kernel
theorem dX2_init_27 : decode cX2_init 27 = .ok (.return_, 1) := by decide +kernel
theorem dX2_begin_0 : decode cX2_begin 0 = .ok (.aload_n 0, 1) := by decide +kernel
theorem dX2_begin_1 : decode cX2_begin 1 = .ok (.iconst 0, 1) := by decide +kernel
theorem dX2_begin_2 : decode cX2_begin 2 = .ok (.putfield 15, 3) := by decide +kernel
theorem dX2_begin_5 : decode cX2_begin 5 = .ok (.aload_n 0, 1) := by decide +kernel
theorem dX2_begin_6 : decode cX2_begin 6 = .ok (.iload_n 1, 1) := by decide +kernel
theorem dX2_begin_7 : decode cX2_begin 7 = .ok (.putfield 19, 3) := by decide +kernel
theorem dX2_begin_10 : decode cX2_begin 10 = .ok (.aload_n 0, 1) := by decide +kernel
theorem dX2_begin_11 : decode cX2_begin 11 = .ok (.iload_n 2, 1) := by decide +kernel
theorem dX2_begin_12 : decode cX2_begin 12 = .ok (.putfield 23, 3) := by decide +kernel
theorem dX2_begin_15 : decode cX2_begin 15 = .ok (.iconst 0, 1) := by decide +kernel
theorem dX2_begin_16 : decode cX2_begin 16 = .ok (.istore_n 3, 1) := by decide +kernel
theorem dX2_begin_17 : decode cX2_begin 17 = .ok (.iload_n 3, 1) := by decide +kernel
theorem dX2_begin_18 : decode cX2_begin 18 = .ok (.aload_n 0, 1) := by decide +kernel
theorem dX2_begin_19 : decode cX2_begin 19 = .ok (.getfield 9, 3) := by decide +kernel
theorem dX2_begin_22 : decode cX2_begin 22 = .ok (.arraylength, 1) := by decide +kernel
theorem dX2_begin_23 : decode cX2_begin 23 = .ok (.if_icmp .ge 16, 3) := by decide +kernel
theorem dX2_begin_26 : decode cX2_begin 26 = .ok (.aload_n 0, 1) := by decide +kernel
theorem dX2_begin_27 : decode cX2_begin 27 = .ok (.getfield 9, 3) := by decide +kernel
theorem dX2_begin_30 : decode cX2_begin 30 = .ok (.iload_n 3, 1) := by decide +kernel
theorem dX2_begin_31 : decode cX2_begin 31 = .ok (.iconst 0, 1) := by decide +kernel
theorem dX2_begin_32 : decode cX2_begin 32 = .ok (.iastore, 1) := by decide +kernel
theorem dX2_begin_33 : decode cX2_begin 33 = .ok (.iinc 3 1, 3) := by decide +kernel
theorem dX2_begin_36 : decode cX2_begin 36 = .ok (.goto (-19), 3) := by decide +kernel
theorem dX2_begin_39 : decode cX2_begin 39 = .ok (.return_, 1) := by decide +kernel
theorem dX2_refuses_0 : decode cX2_refuses 0 = .ok (.aload_n 0, 1) := by decide +kernel
theorem dX2_refuses_1 : decode cX2_refuses 1 = .ok (.getfield 15, 3) := by decide +kernel
theorem dX2_refuses_4 : decode cX2_refuses 4 = .ok (.ifCond .eq 6, 3) := by decide +kernel
theorem dX2_refuses_7 : decode cX2_refuses 7 = .ok (.bipush (-11), 2) := by decide +kernel
theorem dX2_refuses_9 : decode cX2_refuses 9 = .ok (.ireturn, 1) := by decide +kernel
theorem dX2_refuses_10 : decode cX2_refuses 10 = .ok (.aload_n 0, 1) := by decide +kernel
theorem dX2_refuses_11 : decode cX2_refuses 11 = .ok (.getfield 19, 3) := by decide +kernel
theorem dX2_refuses_14 : decode cX2_refuses 14 = .ok (.iload_n 1, 1) := by decide +kernel
theorem dX2_refuses_15 : decode cX2_refuses 15 = .ok (.if_icmp .ne 7, 3) := by decide +kernel
theorem dX2_refuses_18 : decode cX2_refuses 18 = .ok (.iconst 0, 1) := by decide +kernel
theorem dX2_refuses_19 : decode cX2_refuses 19 = .ok (.goto 5, 3) := by decide +kernel
theorem dX2_refuses_22 : decode cX2_refuses 22 = .ok (.bipush (-12), 2) := by decide +kernel
theorem dX2_refuses_24 : decode cX2_refuses 24 = .ok (.ireturn, 1) := by decide +kernel
theorem dX2_holds_0 : decode cX2_holds 0 = .ok (.iload_n 1, 1) := by decide +kernel
theorem dX2_holds_1 : decode cX2_holds 1 = .ok (.ifCond .lt 21, 3) := by decide +kernel
theorem dX2_holds_4 : decode cX2_holds 4 = .ok (.iload_n 2, 1) := by decide +kernel
theorem dX2_holds_5 : decode cX2_holds 5 = .ok (.ifCond .lt 17, 3) := by decide +kernel
theorem dX2_holds_8 : decode cX2_holds 8 = .ok (.iload_n 1, 1) := by decide +kernel
theorem dX2_holds_9 : decode cX2_holds 9 = .ok (.aload_n 0, 1) := by decide +kernel
theorem dX2_holds_10 : decode cX2_holds 10 = .ok (.getfield 23, 3) := by decide +kernel
theorem dX2_holds_13 : decode cX2_holds 13 = .ok (.iload_n 2, 1) := by decide +kernel
theorem dX2_holds_14 : decode cX2_holds 14 = .ok (.isub, 1) := by decide +kernel
theorem dX2_holds_15 : decode cX2_holds 15 = .ok (.if_icmp .gt 7, 3) := by decide +kernel
theorem dX2_holds_18 : decode cX2_holds 18 = .ok (.iconst 1, 1) := by decide +kernel
theorem dX2_holds_19 : decode cX2_holds 19 = .ok (.goto 4, 3) := by decide +kernel
theorem dX2_holds_22 : decode cX2_holds 22 = .ok (.iconst 0, 1) := by decide +kernel
theorem dX2_holds_23 : decode cX2_holds 23 = .ok (.ireturn, 1) := by decide +kernel
theorem dX2_lowestBits_0 : decode cX2_lowestBits 0 = .ok (.iload_n 0, 1) := by decide +kernel
theorem dX2_lowestBits_1 : decode cX2_lowestBits 1 = .ok (.ifCond .ne 6, 3) := by decide +kernel
theorem dX2_lowestBits_4 : decode cX2_lowestBits 4 = .ok (.iload_n 1, 1) := by decide +kernel
theorem dX2_lowestBits_5 : decode cX2_lowestBits 5 = .ok (.i2b, 1) := by decide +kernel
theorem dX2_lowestBits_6 : decode cX2_lowestBits 6 = .ok (.ireturn, 1) := by decide +kernel
theorem dX2_lowestBits_7 : decode cX2_lowestBits 7 = .ok (.iload_n 0, 1) := by decide +kernel
theorem dX2_lowestBits_8 : decode cX2_lowestBits 8 = .ok (.iconst 1, 1) := by decide +kernel
theorem dX2_lowestBits_9 : decode cX2_lowestBits 9 = .ok (.if_icmp .ne 8, 3) := by decide +kernel
theorem dX2_lowestBits_12 : decode cX2_lowestBits 12 = .ok (.iload_n 1, 1) := by decide +kernel
theorem dX2_lowestBits_13 : decode cX2_lowestBits 13 = .ok (.i2s, 1) := by decide +kernel
theorem dX2_lowestBits_14 : decode cX2_lowestBits 14 = .ok (.goto 4, 3) := by decide +kernel
theorem dX2_lowestBits_17 : decode cX2_lowestBits 17 = .ok (.iload_n 1, 1) := by decide +kernel
theorem dX2_lowestBits_18 : decode cX2_lowestBits 18 = .ok (.ireturn, 1) := by decide +kernel
theorem dX3_init_0 : decode cX3_init 0 = .ok (.aload_n 0, 1) := by decide +kernel
theorem dX3_init_1 : decode cX3_init 1 = .ok (.invokespecial 3, 3) := by decide +kernel
theorem dX3_init_4 : decode cX3_init 4 = .ok (.aload_n 0, 1) := by decide +kernel
theorem dX3_init_5 : decode cX3_init 5 = .ok (.bipush 80, 2) := by decide +kernel
theorem dX3_init_7 : decode cX3_init 7 = .ok (.newarray .int, 2) := by decide +kernel
theorem dX3_init_9 : decode cX3_init 9 = .ok (.putfield 9, 3) := by decide +kernel
theorem dX3_init_12 : decode cX3_init 12 = .ok (.aload_n 0, 1) := by decide +kernel
theorem dX3_init_13 : decode cX3_init 13 = .ok (.iconst 0, 1) := by decide +kernel
theorem dX3_init_14 : decode cX3_init 14 = .ok (.putfield 15, 3) := by decide +kernel
theorem dX3_init_17 : decode cX3_init 17 = .ok (.aload_n 0, 1) := by decide +kernel
theorem dX3_init_18 : decode cX3_init 18 = .ok (.iconst 0, 1) := by decide +kernel
theorem dX3_init_19 : decode cX3_init 19 = .ok (.putfield 19, 3) := by decide +kernel
theorem dX3_init_22 : decode cX3_init 22 = .ok (.aload_n 0, 1) := by decide +kernel
theorem dX3_init_23 : decode cX3_init 23 = .ok (.bipush 56, 2) := by decide +kernel
theorem dX3_init_25 : decode cX3_init 25 = .ok (.newarray .int, 2) := by decide +kernel
theorem dX3_init_27 : decode cX3_init 27 = .ok (.putfield 22, 3) := by decide +kernel
theorem dX3_init_30 : decode cX3_init 30 = .ok (.return_, 1) := by decide +kernel
theorem dX3_byteOf_0 : decode cX3_byteOf 0 = .ok (.lload_n 0, 1) := by decide +kernel
theorem dX3_byteOf_1 : decode cX3_byteOf 1 = .ok (.bipush 8, 2) := by decide +kernel
theorem dX3_byteOf_3 : decode cX3_byteOf 3 = .ok (.iload_n 2, 1) := by decide +kernel
theorem dX3_byteOf_4 : decode cX3_byteOf 4 = .ok (.imul, 1) := by decide +kernel
theorem dX3_byteOf_5 : decode cX3_byteOf 5 = .ok (.lshr, 1) := by decide +kernel
theorem dX3_byteOf_6 : decode cX3_byteOf 6 = .ok (.l2i, 1) := by decide +kernel
theorem dX3_byteOf_7 : decode cX3_byteOf 7 = .ok (.sipush 255, 3) := by decide +kernel
theorem dX3_byteOf_10 : decode cX3_byteOf 10 = .ok (.iand, 1) := by decide +kernel
theorem dX3_byteOf_11 : decode cX3_byteOf 11 = .ok (.ireturn, 1) := by decide +kernel
theorem dX3_isPlain_0 : decode cX3_isPlain 0 = .ok (.iconst 0, 1) := by decide +kernel
theorem dX3_isPlain_1 : decode cX3_isPlain 1 = .ok (.istore_n 3, 1) := by decide +kernel
theorem dX3_isPlain_2 : decode cX3_isPlain 2 = .ok (.iload_n 3, 1) := by decide +kernel
theorem dX3_isPlain_3 : decode cX3_isPlain 3 = .ok (.iload_n 2, 1) := by decide +kernel
theorem dX3_isPlain_4 : decode cX3_isPlain 4 = .ok (.if_icmp .ge 32, 3) := by decide +kernel
theorem dX3_isPlain_7 : decode cX3_isPlain 7 = .ok (.lload_n 0, 1) := by decide +kernel
theorem dX3_isPlain_8 : decode cX3_isPlain 8 = .ok (.iload_n 3, 1) := by decide +kernel
theorem dX3_isPlain_9 : decode cX3_isPlain 9 = .ok (.invokestatic 25, 3) := by decide +kernel
theorem dX3_isPlain_12 : decode cX3_isPlain 12 = .ok (.istore 4, 2) := by decide +kernel
theorem dX3_isPlain_14 : decode cX3_isPlain 14 = .ok (.iload 4, 2) := by decide +kernel
theorem dX3_isPlain_16 : decode cX3_isPlain 16 = .ok (.bipush 32, 2) := by decide +kernel
theorem dX3_isPlain_18 : decode cX3_isPlain 18 = .ok (.if_icmp .lt 10, 3) := by decide +kernel
theorem dX3_isPlain_21 : decode cX3_isPlain 21 = .ok (.iload 4, 2) := by decide +kernel
theorem dX3_isPlain_23 : decode cX3_isPlain 23 = .ok (.bipush 126, 2) := by decide +kernel
theorem dX3_isPlain_25 : decode cX3_isPlain 25 = .ok (.if_icmp .le 5, 3) := by decide +kernel
theorem dX3_isPlain_28 : decode cX3_isPlain 28 = .ok (.iconst 0, 1) := by decide +kernel
theorem dX3_isPlain_29 : decode cX3_isPlain 29 = .ok (.ireturn, 1) := by decide +kernel
theorem dX3_isPlain_30 : decode cX3_isPlain 30 = .ok (.iinc 3 1, 3) := by decide +kernel
theorem dX3_isPlain_33 : decode cX3_isPlain 33 = .ok (.goto (-31), 3) := by decide +kernel
theorem dX3_isPlain_36 : decode cX3_isPlain 36 = .ok (.iconst 1, 1) := by decide +kernel
theorem dX3_isPlain_37 : decode cX3_isPlain 37 = .ok (.ireturn, 1) := by decide +kernel
theorem dX3_add_0 : decode cX3_add 0 = .ok (.iload_n 3, 1) := by decide +kernel
theorem dX3_add_1 : decode cX3_add 1 = .ok (.iconst 1, 1) := by decide +kernel
theorem dX3_add_2 : decode cX3_add 2 = .ok (.isub, 1) := by decide +kernel
theorem dX3_add_3 : decode cX3_add 3 = .ok (.istore 4, 2) := by decide +kernel
theorem dX3_add_5 : decode cX3_add 5 = .ok (.iload 4, 2) := by decide +kernel
theorem dX3_add_7 : decode cX3_add 7 = .ok (.ifCond .lt 46, 3) := by decide +kernel
theorem dX3_add_10 : decode cX3_add 10 = .ok (.aload_n 0, 1) := by decide +kernel
theorem dX3_add_11 : decode cX3_add 11 = .ok (.getfield 19, 3) := by decide +kernel
theorem dX3_add_14 : decode cX3_add 14 = .ok (.aload_n 0, 1) := by decide +kernel
theorem dX3_add_15 : decode cX3_add 15 = .ok (.getfield 9, 3) := by decide +kernel
theorem dX3_add_18 : decode cX3_add 18 = .ok (.arraylength, 1) := by decide +kernel
theorem dX3_add_19 : decode cX3_add 19 = .ok (.if_icmp .ge 34, 3) := by decide +kernel
theorem dX3_add_22 : decode cX3_add 22 = .ok (.aload_n 0, 1) := by decide +kernel
theorem dX3_add_23 : decode cX3_add 23 = .ok (.getfield 9, 3) := by decide +kernel
theorem dX3_add_26 : decode cX3_add 26 = .ok (.aload_n 0, 1) := by decide +kernel
theorem dX3_add_27 : decode cX3_add 27 = .ok (.getfield 19, 3) := by decide +kernel
theorem dX3_add_30 : decode cX3_add 30 = .ok (.lload_n 1, 1) := by decide +kernel
theorem dX3_add_31 : decode cX3_add 31 = .ok (.iload 4, 2) := by decide +kernel
theorem dX3_add_33 : decode cX3_add 33 = .ok (.invokestatic 25, 3) := by decide +kernel
theorem dX3_add_36 : decode cX3_add 36 = .ok (.iastore, 1) := by decide +kernel
theorem dX3_add_37 : decode cX3_add 37 = .ok (.aload_n 0, 1) := by decide +kernel
theorem dX3_add_38 : decode cX3_add 38 = .ok (.dup, 1) := by decide +kernel
theorem dX3_add_39 : decode cX3_add 39 = .ok (.getfield 19, 3) := by decide +kernel
theorem dX3_add_42 : decode cX3_add 42 = .ok (.iconst 1, 1) := by decide +kernel
theorem dX3_add_43 : decode cX3_add 43 = .ok (.iadd, 1) := by decide +kernel
theorem dX3_add_44 : decode cX3_add 44 = .ok (.putfield 19, 3) := by decide +kernel
theorem dX3_add_47 : decode cX3_add 47 = .ok (.iinc 4 (-1), 3) := by decide +kernel
theorem dX3_add_50 : decode cX3_add 50 = .ok (.goto (-45), 3) := by decide +kernel
theorem dX3_add_53 : decode cX3_add 53 = .ok (.return_, 1) := by decide +kernel
theorem dX3_nextSign_0 : decode cX3_nextSign 0 = .ok (.aload_n 0, 1) := by decide +kernel
theorem dX3_nextSign_1 : decode cX3_nextSign 1 = .ok (.getfield 15, 3) := by decide +kernel
theorem dX3_nextSign_4 : decode cX3_nextSign 4 = .ok (.aload_n 0, 1) := by decide +kernel
theorem dX3_nextSign_5 : decode cX3_nextSign 5 = .ok (.getfield 19, 3) := by decide +kernel
theorem dX3_nextSign_8 : decode cX3_nextSign 8 = .ok (.if_icmp .ge 30, 3) := by decide +kernel
theorem dX3_nextSign_11 : decode cX3_nextSign 11 = .ok (.aload_n 0, 1) := by decide +kernel
theorem dX3_nextSign_12 : decode cX3_nextSign 12 = .ok (.getfield 9, 3) := by decide +kernel
theorem dX3_nextSign_15 : decode cX3_nextSign 15 = .ok (.aload_n 0, 1) := by decide +kernel
theorem dX3_nextSign_16 : decode cX3_nextSign 16 = .ok (.getfield 15, 3) := by decide +kernel
theorem dX3_nextSign_19 : decode cX3_nextSign 19 = .ok (.iaload, 1) := by decide +kernel
theorem dX3_nextSign_20 : decode cX3_nextSign 20 = .ok (.bipush 32, 2) := by decide +kernel
theorem dX3_nextSign_22 : decode cX3_nextSign 22 = .ok (.if_icmp .ne 16, 3) := by decide +kernel
theorem dX3_nextSign_25 : decode cX3_nextSign 25 = .ok (.aload_n 0, 1) := by decide +kernel
theorem dX3_nextSign_26 : decode cX3_nextSign 26 = .ok (.dup, 1) := by decide +kernel
theorem dX3_nextSign_27 : decode cX3_nextSign 27 = .ok (.getfield 15, 3) := by decide +kernel
theorem dX3_nextSign_30 : decode cX3_nextSign 30 = .ok (.iconst 1, 1) := by decide +kernel
theorem dX3_nextSign_31 : decode cX3_nextSign 31 = .ok (.iadd, 1) := by decide +kernel
theorem dX3_nextSign_32 : decode cX3_nextSign 32 = .ok (.putfield 15, 3) := by decide +kernel
theorem dX3_nextSign_35 : decode cX3_nextSign 35 = .ok (.goto (-35), 3) := by decide +kernel
theorem dX3_nextSign_38 : decode cX3_nextSign 38 = .ok (.aload_n 0, 1) := by decide +kernel
theorem dX3_nextSign_39 : decode cX3_nextSign 39 = .ok (.getfield 15, 3) := by decide +kernel
theorem dX3_nextSign_42 : decode cX3_nextSign 42 = .ok (.aload_n 0, 1) := by decide +kernel
theorem dX3_nextSign_43 : decode cX3_nextSign 43 = .ok (.getfield 19, 3) := by decide +kernel
theorem dX3_nextSign_46 : decode cX3_nextSign 46 = .ok (.if_icmp .ge 15, 3) := by decide +kernel
theorem dX3_nextSign_49 : decode cX3_nextSign 49 = .ok (.aload_n 0, 1) := by decide +kernel
theorem dX3_nextSign_50 : decode cX3_nextSign 50 = .ok (.getfield 9, 3) := by decide +kernel
theorem dX3_nextSign_53 : decode cX3_nextSign 53 = .ok (.aload_n 0, 1) := by decide +kernel
theorem dX3_nextSign_54 : decode cX3_nextSign 54 = .ok (.getfield 15, 3) := by decide +kernel
theorem dX3_nextSign_57 : decode cX3_nextSign 57 = .ok (.iaload, 1) := by decide +kernel
theorem dX3_nextSign_58 : decode cX3_nextSign 58 = .ok (.goto 4, 3) := by decide +kernel
theorem dX3_nextSign_61 : decode cX3_nextSign 61 = .ok (.iconst (-1), 1) := by decide +kernel
theorem dX3_nextSign_62 : decode cX3_nextSign 62 = .ok (.ireturn, 1) := by decide +kernel
theorem dX3_fault_0 : decode cX3_fault 0 = .ok (.bipush (-20), 2) := by decide +kernel
theorem dX3_fault_2 : decode cX3_fault 2 = .ok (.aload_n 0, 1) := by decide +kernel
theorem dX3_fault_3 : decode cX3_fault 3 = .ok (.getfield 15, 3) := by decide +kernel
theorem dX3_fault_6 : decode cX3_fault 6 = .ok (.isub, 1) := by decide +kernel
theorem dX3_fault_7 : decode cX3_fault 7 = .ok (.ireturn, 1) := by decide +kernel
theorem dX3_readThings_0 : decode cX3_readThings 0 = .ok (.aload_n 0, 1) := by decide +kernel
theorem dX3_readThings_1 : decode cX3_readThings 1 = .ok (.iconst 0, 1) := by decide +kernel
theorem dX3_readThings_2 : decode cX3_readThings 2 = .ok (.putfield 15, 3) := by decide +kernel
theorem dX3_readThings_5 : decode cX3_readThings 5 = .ok (.iconst 0, 1) := by decide +kernel
theorem dX3_readThings_6 : decode cX3_readThings 6 = .ok (.istore_n 1, 1) := by decide +kernel
theorem dX3_readThings_7 : decode cX3_readThings 7 = .ok (.iload_n 1, 1) := by decide +kernel
theorem dX3_readThings_8 : decode cX3_readThings 8 = .ok (.bipush 8, 2) := by decide +kernel
theorem dX3_readThings_10 : decode cX3_readThings 10 = .ok (.if_icmp .ge 59, 3) := by decide +kernel
theorem dX3_readThings_13 : decode cX3_readThings 13 = .ok (.aload_n 0, 1) := by decide +kernel
theorem dX3_readThings_14 : decode cX3_readThings 14 = .ok (.iload_n 1, 1) := by decide +kernel
theorem dX3_readThings_15 : decode cX3_readThings 15 = .ok (.bipush 7, 2) := by decide +kernel
theorem dX3_readThings_17 : decode cX3_readThings 17 = .ok (.imul, 1) := by decide +kernel
theorem dX3_readThings_18 : decode cX3_readThings 18 = .ok (.invokevirtual 29, 3) := by decide +kernel
theorem dX3_readThings_21 : decode cX3_readThings 21 = .ok (.ifCond .eq 48, 3) := by decide +kernel
theorem dX3_readThings_24 : decode cX3_readThings 24 = .ok (.iinc 1 1, 3) := by decide +kernel
theorem dX3_readThings_27 : decode cX3_readThings 27 = .ok (.aload_n 0, 1) := by decide +kernel
theorem dX3_readThings_28 : decode cX3_readThings 28 = .ok (.invokevirtual 33, 3) := by decide +kernel
theorem dX3_readThings_31 : decode cX3_readThings 31 = .ok (.istore_n 2, 1) := by decide +kernel
theorem dX3_readThings_32 : decode cX3_readThings 32 = .ok (.iload_n 2, 1) := by decide +kernel
theorem dX3_readThings_33 : decode cX3_readThings 33 = .ok (.iconst (-1), 1) := by decide +kernel
theorem dX3_readThings_34 : decode cX3_readThings 34 = .ok (.if_icmp .ne 5, 3) := by decide +kernel
theorem dX3_readThings_37 : decode cX3_readThings 37 = .ok (.iload_n 1, 1) := by decide +kernel
theorem dX3_readThings_38 : decode cX3_readThings 38 = .ok (.ireturn, 1) := by decide +kernel
theorem dX3_readThings_39 : decode cX3_readThings 39 = .ok (.iload_n 2, 1) := by decide +kernel
theorem dX3_readThings_40 : decode cX3_readThings 40 = .ok (.bipush 59, 2) := by decide +kernel
theorem dX3_readThings_42 : decode cX3_readThings 42 = .ok (.if_icmp .ne 9, 3) := by decide +kernel
theorem dX3_readThings_45 : decode cX3_readThings 45 = .ok (.iload_n 1, 1) := by decide +kernel
theorem dX3_readThings_46 : decode cX3_readThings 46 = .ok (.bipush 8, 2) := by decide +kernel
theorem dX3_readThings_48 : decode cX3_readThings 48 = .ok (.if_icmp .ne 8, 3) := by decide +kernel
theorem dX3_readThings_51 : decode cX3_readThings 51 = .ok (.aload_n 0, 1) := by decide +kernel
theorem dX3_readThings_52 : decode cX3_readThings 52 = .ok (.invokevirtual 37, 3) := by decide +kernel
theorem dX3_readThings_55 : decode cX3_readThings 55 = .ok (.ireturn, 1) := by decide +kernel
theorem dX3_readThings_56 : decode cX3_readThings 56 = .ok (.aload_n 0, 1) := by decide +kernel
theorem dX3_readThings_57 : decode cX3_readThings 57 = .ok (.dup, 1) := by decide +kernel
theorem dX3_readThings_58 : decode cX3_readThings 58 = .ok (.getfield 15, 3) := by decide +kernel
theorem dX3_readThings_61 : decode cX3_readThings 61 = .ok (.iconst 1, 1) := by decide +kernel
theorem dX3_readThings_62 : decode cX3_readThings 62 = .ok (.iadd, 1) := by decide +kernel
theorem dX3_readThings_63 : decode cX3_readThings 63 = .ok (.putfield 15, 3) := by decide +kernel
theorem dX3_readThings_66 : decode cX3_readThings 66 = .ok (.goto (-59), 3) := by decide +kernel
theorem dX3_readThings_69 : decode cX3_readThings 69 = .ok (.aload_n 0, 1) := by decide +kernel
theorem dX3_readThings_70 : decode cX3_readThings 70 = .ok (.invokevirtual 37, 3) := by decide +kernel
theorem dX3_readThings_73 : decode cX3_readThings 73 = .ok (.ireturn, 1) := by decide +kernel
theorem dX3_readThing_0 : decode cX3_readThing 0 = .ok (.aload_n 0, 1) := by decide +kernel
theorem dX3_readThing_1 : decode cX3_readThing 1 = .ok (.invokevirtual 33, 3) := by decide +kernel
theorem dX3_readThing_4 : decode cX3_readThing 4 = .ok (.istore_n 2, 1) := by decide +kernel
theorem dX3_readThing_5 : decode cX3_readThing 5 = .ok (.iload_n 2, 1) := by decide +kernel
theorem dX3_readThing_6 : decode cX3_readThing 6 = .ok (.bipush 45, 2) := by decide +kernel
theorem dX3_readThing_8 : decode cX3_readThing 8 = .ok (.if_icmp .ne 14, 3) := by decide +kernel
theorem dX3_readThing_11 : decode cX3_readThing 11 = .ok (.aload_n 0, 1) := by decide +kernel
theorem dX3_readThing_12 : decode cX3_readThing 12 = .ok (.getfield 22, 3) := by decide +kernel
theorem dX3_readThing_15 : decode cX3_readThing 15 = .ok (.iload_n 1, 1) := by decide +kernel
theorem dX3_readThing_16 : decode cX3_readThing 16 = .ok (.bipush 6, 2) := by decide +kernel
theorem dX3_readThing_18 : decode cX3_readThing 18 = .ok (.iastore, 1) := by decide +kernel
theorem dX3_readThing_19 : decode cX3_readThing 19 = .ok (.goto 30, 3) := by decide +kernel
theorem dX3_readThing_22 : decode cX3_readThing 22 = .ok (.iload_n 2, 1) := by decide +kernel
theorem dX3_readThing_23 : decode cX3_readThing 23 = .ok (.bipush 48, 2) := by decide +kernel
theorem dX3_readThing_25 : decode cX3_readThing 25 = .ok (.if_icmp .lt 22, 3) := by decide +kernel
theorem dX3_readThing_28 : decode cX3_readThing 28 = .ok (.iload_n 2, 1) := by decide +kernel
theorem dX3_readThing_29 : decode cX3_readThing 29 = .ok (.bipush 54, 2) := by decide +kernel
theorem dX3_readThing_31 : decode cX3_readThing 31 = .ok (.if_icmp .ge 16, 3) := by decide +kernel
theorem dX3_readThing_34 : decode cX3_readThing 34 = .ok (.aload_n 0, 1) := by decide +kernel
theorem dX3_readThing_35 : decode cX3_readThing 35 = .ok (.getfield 22, 3) := by decide +kernel
theorem dX3_readThing_38 : decode cX3_readThing 38 = .ok (.iload_n 1, 1) := by decide +kernel
theorem dX3_readThing_39 : decode cX3_readThing 39 = .ok (.iload_n 2, 1) := by decide +kernel
theorem dX3_readThing_40 : decode cX3_readThing 40 = .ok (.bipush 48, 2) := by decide +kernel
theorem dX3_readThing_42 : decode cX3_readThing 42 = .ok (.isub, 1) := by decide +kernel
theorem dX3_readThing_43 : decode cX3_readThing 43 = .ok (.iastore, 1) := by decide +kernel
theorem dX3_readThing_44 : decode cX3_readThing 44 = .ok (.goto 5, 3) := by decide +kernel
theorem dX3_readThing_47 : decode cX3_readThing 47 = .ok (.iconst 0, 1) := by decide +kernel
theorem dX3_readThing_48 : decode cX3_readThing 48 = .ok (.ireturn, 1) := by decide +kernel
theorem dX3_readThing_49 : decode cX3_readThing 49 = .ok (.aload_n 0, 1) := by decide +kernel
theorem dX3_readThing_50 : decode cX3_readThing 50 = .ok (.dup, 1) := by decide +kernel
theorem dX3_readThing_51 : decode cX3_readThing 51 = .ok (.getfield 15, 3) := by decide +kernel
theorem dX3_readThing_54 : decode cX3_readThing 54 = .ok (.iconst 1, 1) := by decide +kernel
theorem dX3_readThing_55 : decode cX3_readThing 55 = .ok (.iadd, 1) := by decide +kernel
theorem dX3_readThing_56 : decode cX3_readThing 56 = .ok (.putfield 15, 3) := by decide +kernel
theorem dX3_readThing_59 : decode cX3_readThing 59 = .ok (.iconst 1, 1) := by decide +kernel
theorem dX3_readThing_60 : decode cX3_readThing 60 = .ok (.istore_n 3, 1) := by decide +kernel
theorem dX3_readThing_61 : decode cX3_readThing 61 = .ok (.iload_n 3, 1) := by decide +kernel
theorem dX3_readThing_62 : decode cX3_readThing 62 = .ok (.bipush 7, 2) := by decide +kernel
theorem dX3_readThing_64 : decode cX3_readThing 64 = .ok (.if_icmp .ge 50, 3) := by decide +kernel
theorem dX3_readThing_67 : decode cX3_readThing 67 = .ok (.aload_n 0, 1) := by decide +kernel
theorem dX3_readThing_68 : decode cX3_readThing 68 = .ok (.invokevirtual 33, 3) := by decide +kernel
theorem dX3_readThing_71 : decode cX3_readThing 71 = .ok (.istore_n 2, 1) := by decide +kernel
theorem dX3_readThing_72 : decode cX3_readThing 72 = .ok (.iload_n 2, 1) := by decide +kernel
theorem dX3_readThing_73 : decode cX3_readThing 73 = .ok (.bipush 48, 2) := by decide +kernel
theorem dX3_readThing_75 : decode cX3_readThing 75 = .ok (.if_icmp .lt 9, 3) := by decide +kernel
theorem dX3_readThing_78 : decode cX3_readThing 78 = .ok (.iload_n 2, 1) := by decide +kernel
theorem dX3_readThing_79 : decode cX3_readThing 79 = .ok (.bipush 57, 2) := by decide +kernel
theorem dX3_readThing_81 : decode cX3_readThing 81 = .ok (.if_icmp .le 5, 3) := by decide +kernel
theorem dX3_readThing_84 : decode cX3_readThing 84 = .ok (.iconst 0, 1) := by decide +kernel
theorem dX3_readThing_85 : decode cX3_readThing 85 = .ok (.ireturn, 1) := by decide +kernel
theorem dX3_readThing_86 : decode cX3_readThing 86 = .ok (.aload_n 0, 1) := by decide +kernel
theorem dX3_readThing_87 : decode cX3_readThing 87 = .ok (.getfield 22, 3) := by decide +kernel
theorem dX3_readThing_90 : decode cX3_readThing 90 = .ok (.iload_n 1, 1) := by decide +kernel
theorem dX3_readThing_91 : decode cX3_readThing 91 = .ok (.iload_n 3, 1) := by decide +kernel
theorem dX3_readThing_92 : decode cX3_readThing 92 = .ok (.iadd, 1) := by decide +kernel
theorem dX3_readThing_93 : decode cX3_readThing 93 = .ok (.iload_n 2, 1) := by decide +kernel
theorem dX3_readThing_94 : decode cX3_readThing 94 = .ok (.bipush 48, 2) := by decide +kernel
theorem dX3_readThing_96 : decode cX3_readThing 96 = .ok (.isub, 1) := by decide +kernel
theorem dX3_readThing_97 : decode cX3_readThing 97 = .ok (.iastore, 1) := by decide +kernel
theorem dX3_readThing_98 : decode cX3_readThing 98 = .ok (.aload_n 0, 1) := by decide +kernel
theorem dX3_readThing_99 : decode cX3_readThing 99 = .ok (.dup, 1) := by decide +kernel
theorem dX3_readThing_100 : decode cX3_readThing 100 = .ok (.getfield 15, 3) := by decide +kernel
theorem dX3_readThing_103 : decode cX3_readThing 103 = .ok (.iconst 1, 1) := by decide +kernel
theorem dX3_readThing_104 : decode cX3_readThing 104 = .ok (.iadd, 1) := by decide +kernel
theorem dX3_readThing_105 : decode cX3_readThing 105 = .ok (.putfield 15, 3) := by decide +kernel
theorem dX3_readThing_108 : decode cX3_readThing 108 = .ok (.iinc 3 1, 3) := by decide +kernel
theorem dX3_readThing_111 : decode cX3_readThing 111 = .ok (.goto (-50), 3) := by decide +kernel
theorem dX3_readThing_114 : decode cX3_readThing 114 = .ok (.iconst 1, 1) := by decide +kernel
theorem dX3_readThing_115 : decode cX3_readThing 115 = .ok (.ireturn, 1) := by decide +kernel
theorem dX3_readSuits_0 : decode cX3_readSuits 0 = .ok (.aload_n 0, 1) := by decide +kernel
theorem dX3_readSuits_1 : decode cX3_readSuits 1 = .ok (.iconst 0, 1) := by decide +kernel
theorem dX3_readSuits_2 : decode cX3_readSuits 2 = .ok (.putfield 15, 3) := by decide +kernel
theorem dX3_readSuits_5 : decode cX3_readSuits 5 = .ok (.iconst 0, 1) := by decide +kernel
theorem dX3_readSuits_6 : decode cX3_readSuits 6 = .ok (.istore_n 2, 1) := by decide +kernel
theorem dX3_readSuits_7 : decode cX3_readSuits 7 = .ok (.iload_n 2, 1) := by decide +kernel
theorem dX3_readSuits_8 : decode cX3_readSuits 8 = .ok (.bipush 12, 2) := by decide +kernel
theorem dX3_readSuits_10 : decode cX3_readSuits 10 = .ok (.if_icmp .ge 59, 3) := by decide +kernel
theorem dX3_readSuits_13 : decode cX3_readSuits 13 = .ok (.aload_n 0, 1) := by decide +kernel
theorem dX3_readSuits_14 : decode cX3_readSuits 14 = .ok (.iconst 2, 1) := by decide +kernel
theorem dX3_readSuits_15 : decode cX3_readSuits 15 = .ok (.iload_n 2, 1) := by decide +kernel
theorem dX3_readSuits_16 : decode cX3_readSuits 16 = .ok (.imul, 1) := by decide +kernel
theorem dX3_readSuits_17 : decode cX3_readSuits 17 = .ok (.iload_n 1, 1) := by decide +kernel
theorem dX3_readSuits_18 : decode cX3_readSuits 18 = .ok (.invokevirtual 40, 3) := by decide +kernel
theorem dX3_readSuits_21 : decode cX3_readSuits 21 = .ok (.ifCond .eq 48, 3) := by decide +kernel
theorem dX3_readSuits_24 : decode cX3_readSuits 24 = .ok (.iinc 2 1, 3) := by decide +kernel
theorem dX3_readSuits_27 : decode cX3_readSuits 27 = .ok (.aload_n 0, 1) := by decide +kernel
theorem dX3_readSuits_28 : decode cX3_readSuits 28 = .ok (.invokevirtual 33, 3) := by decide +kernel
theorem dX3_readSuits_31 : decode cX3_readSuits 31 = .ok (.istore_n 3, 1) := by decide +kernel
theorem dX3_readSuits_32 : decode cX3_readSuits 32 = .ok (.iload_n 3, 1) := by decide +kernel
theorem dX3_readSuits_33 : decode cX3_readSuits 33 = .ok (.iconst (-1), 1) := by decide +kernel
theorem dX3_readSuits_34 : decode cX3_readSuits 34 = .ok (.if_icmp .ne 5, 3) := by decide +kernel
theorem dX3_readSuits_37 : decode cX3_readSuits 37 = .ok (.iload_n 2, 1) := by decide +kernel
theorem dX3_readSuits_38 : decode cX3_readSuits 38 = .ok (.ireturn, 1) := by decide +kernel
theorem dX3_readSuits_39 : decode cX3_readSuits 39 = .ok (.iload_n 3, 1) := by decide +kernel
theorem dX3_readSuits_40 : decode cX3_readSuits 40 = .ok (.bipush 44, 2) := by decide +kernel
theorem dX3_readSuits_42 : decode cX3_readSuits 42 = .ok (.if_icmp .ne 9, 3) := by decide +kernel
theorem dX3_readSuits_45 : decode cX3_readSuits 45 = .ok (.iload_n 2, 1) := by decide +kernel
theorem dX3_readSuits_46 : decode cX3_readSuits 46 = .ok (.bipush 12, 2) := by decide +kernel
theorem dX3_readSuits_48 : decode cX3_readSuits 48 = .ok (.if_icmp .ne 8, 3) := by decide +kernel
theorem dX3_readSuits_51 : decode cX3_readSuits 51 = .ok (.aload_n 0, 1) := by decide +kernel
theorem dX3_readSuits_52 : decode cX3_readSuits 52 = .ok (.invokevirtual 37, 3) := by decide +kernel
theorem dX3_readSuits_55 : decode cX3_readSuits 55 = .ok (.ireturn, 1) := by decide +kernel
theorem dX3_readSuits_56 : decode cX3_readSuits 56 = .ok (.aload_n 0, 1) := by decide +kernel
theorem dX3_readSuits_57 : decode cX3_readSuits 57 = .ok (.dup, 1) := by decide +kernel
theorem dX3_readSuits_58 : decode cX3_readSuits 58 = .ok (.getfield 15, 3) := by decide +kernel
theorem dX3_readSuits_61 : decode cX3_readSuits 61 = .ok (.iconst 1, 1) := by decide +kernel
theorem dX3_readSuits_62 : decode cX3_readSuits 62 = .ok (.iadd, 1) := by decide +kernel
theorem dX3_readSuits_63 : decode cX3_readSuits 63 = .ok (.putfield 15, 3) := by decide +kernel
theorem dX3_readSuits_66 : decode cX3_readSuits 66 = .ok (.goto (-59), 3) := by decide +kernel
theorem dX3_readSuits_69 : decode cX3_readSuits 69 = .ok (.aload_n 0, 1) := by decide +kernel
theorem dX3_readSuits_70 : decode cX3_readSuits 70 = .ok (.invokevirtual 37, 3) := by decide +kernel
theorem dX3_readSuits_73 : decode cX3_readSuits 73 = .ok (.ireturn, 1) := by decide +kernel
theorem dX3_readSuit_0 : decode cX3_readSuit 0 = .ok (.aload_n 0, 1) := by decide +kernel
theorem dX3_readSuit_1 : decode cX3_readSuit 1 = .ok (.invokevirtual 33, 3) := by decide +kernel
theorem dX3_readSuit_4 : decode cX3_readSuit 4 = .ok (.iload_n 2, 1) := by decide +kernel
theorem dX3_readSuit_5 : decode cX3_readSuit 5 = .ok (.invokestatic 44, 3) := by decide +kernel
theorem dX3_readSuit_8 : decode cX3_readSuit 8 = .ok (.istore_n 3, 1) := by decide +kernel
theorem dX3_readSuit_9 : decode cX3_readSuit 9 = .ok (.iload_n 3, 1) := by decide +kernel
theorem dX3_readSuit_10 : decode cX3_readSuit 10 = .ok (.ifCond .ge 5, 3) := by decide +kernel
theorem dX3_readSuit_13 : decode cX3_readSuit 13 = .ok (.iconst 0, 1) := by decide +kernel
theorem dX3_readSuit_14 : decode cX3_readSuit 14 = .ok (.ireturn, 1) := by decide +kernel
theorem dX3_readSuit_15 : decode cX3_readSuit 15 = .ok (.aload_n 0, 1) := by decide +kernel
theorem dX3_readSuit_16 : decode cX3_readSuit 16 = .ok (.dup, 1) := by decide +kernel
theorem dX3_readSuit_17 : decode cX3_readSuit 17 = .ok (.getfield 15, 3) := by decide +kernel
theorem dX3_readSuit_20 : decode cX3_readSuit 20 = .ok (.iconst 1, 1) := by decide +kernel
theorem dX3_readSuit_21 : decode cX3_readSuit 21 = .ok (.iadd, 1) := by decide +kernel
theorem dX3_readSuit_22 : decode cX3_readSuit 22 = .ok (.putfield 15, 3) := by decide +kernel
theorem dX3_readSuit_25 : decode cX3_readSuit 25 = .ok (.aload_n 0, 1) := by decide +kernel
theorem dX3_readSuit_26 : decode cX3_readSuit 26 = .ok (.invokevirtual 33, 3) := by decide +kernel
theorem dX3_readSuit_29 : decode cX3_readSuit 29 = .ok (.iload_n 2, 1) := by decide +kernel
theorem dX3_readSuit_30 : decode cX3_readSuit 30 = .ok (.invokestatic 44, 3) := by decide +kernel
theorem dX3_readSuit_33 : decode cX3_readSuit 33 = .ok (.istore 4, 2) := by decide +kernel
theorem dX3_readSuit_35 : decode cX3_readSuit 35 = .ok (.iload 4, 2) := by decide +kernel
theorem dX3_readSuit_37 : decode cX3_readSuit 37 = .ok (.ifCond .lt 9, 3) := by decide +kernel
theorem dX3_readSuit_40 : decode cX3_readSuit 40 = .ok (.iload 4, 2) := by decide +kernel
theorem dX3_readSuit_42 : decode cX3_readSuit 42 = .ok (.iload_n 3, 1) := by decide +kernel
theorem dX3_readSuit_43 : decode cX3_readSuit 43 = .ok (.if_icmp .ne 5, 3) := by decide +kernel
theorem dX3_readSuit_46 : decode cX3_readSuit 46 = .ok (.iconst 0, 1) := by decide +kernel
theorem dX3_readSuit_47 : decode cX3_readSuit 47 = .ok (.ireturn, 1) := by decide +kernel
theorem dX3_readSuit_48 : decode cX3_readSuit 48 = .ok (.aload_n 0, 1) := by decide +kernel
theorem dX3_readSuit_49 : decode cX3_readSuit 49 = .ok (.dup, 1) := by decide +kernel
theorem dX3_readSuit_50 : decode cX3_readSuit 50 = .ok (.getfield 15, 3) := by decide +kernel
theorem dX3_readSuit_53 : decode cX3_readSuit 53 = .ok (.iconst 1, 1) := by decide +kernel
theorem dX3_readSuit_54 : decode cX3_readSuit 54 = .ok (.iadd, 1) := by decide +kernel
theorem dX3_readSuit_55 : decode cX3_readSuit 55 = .ok (.putfield 15, 3) := by decide +kernel
theorem dX3_readSuit_58 : decode cX3_readSuit 58 = .ok (.aload_n 0, 1) := by decide +kernel
theorem dX3_readSuit_59 : decode cX3_readSuit 59 = .ok (.getfield 22, 3) := by decide +kernel
theorem dX3_readSuit_62 : decode cX3_readSuit 62 = .ok (.iload_n 1, 1) := by decide +kernel
theorem dX3_readSuit_63 : decode cX3_readSuit 63 = .ok (.iload_n 3, 1) := by decide +kernel
theorem dX3_readSuit_64 : decode cX3_readSuit 64 = .ok (.iastore, 1) := by decide +kernel
theorem dX3_readSuit_65 : decode cX3_readSuit 65 = .ok (.aload_n 0, 1) := by decide +kernel
theorem dX3_readSuit_66 : decode cX3_readSuit 66 = .ok (.getfield 22, 3) := by decide +kernel
theorem dX3_readSuit_69 : decode cX3_readSuit 69 = .ok (.iload_n 1, 1) := by decide +kernel
theorem dX3_readSuit_70 : decode cX3_readSuit 70 = .ok (.iconst 1, 1) := by decide +kernel
theorem dX3_readSuit_71 : decode cX3_readSuit 71 = .ok (.iadd, 1) := by decide +kernel
theorem dX3_readSuit_72 : decode cX3_readSuit 72 = .ok (.iload 4, 2) := by decide +kernel
theorem dX3_readSuit_74 : decode cX3_readSuit 74 = .ok (.iastore, 1) := by decide +kernel
theorem dX3_readSuit_75 : decode cX3_readSuit 75 = .ok (.iconst 1, 1) := by decide +kernel
theorem dX3_readSuit_76 : decode cX3_readSuit 76 = .ok (.ireturn, 1) := by decide +kernel
theorem dX3_sideOf_0 : decode cX3_sideOf 0 = .ok (.iload_n 0, 1) := by decide +kernel
theorem dX3_sideOf_1 : decode cX3_sideOf 1 = .ok (.bipush 97, 2) := by decide +kernel
theorem dX3_sideOf_3 : decode cX3_sideOf 3 = .ok (.if_icmp .lt 16, 3) := by decide +kernel
theorem dX3_sideOf_6 : decode cX3_sideOf 6 = .ok (.iload_n 0, 1) := by decide +kernel
theorem dX3_sideOf_7 : decode cX3_sideOf 7 = .ok (.bipush 97, 2) := by decide +kernel
theorem dX3_sideOf_9 : decode cX3_sideOf 9 = .ok (.iload_n 1, 1) := by decide +kernel
theorem dX3_sideOf_10 : decode cX3_sideOf 10 = .ok (.iadd, 1) := by decide +kernel
theorem dX3_sideOf_11 : decode cX3_sideOf 11 = .ok (.if_icmp .ge 8, 3) := by decide +kernel
theorem dX3_sideOf_14 : decode cX3_sideOf 14 = .ok (.iload_n 0, 1) := by decide +kernel
theorem dX3_sideOf_15 : decode cX3_sideOf 15 = .ok (.bipush 97, 2) := by decide +kernel
theorem dX3_sideOf_17 : decode cX3_sideOf 17 = .ok (.isub, 1) := by decide +kernel
theorem dX3_sideOf_18 : decode cX3_sideOf 18 = .ok (.ireturn, 1) := by decide +kernel
theorem dX3_sideOf_19 : decode cX3_sideOf 19 = .ok (.iload_n 0, 1) := by decide +kernel
theorem dX3_sideOf_20 : decode cX3_sideOf 20 = .ok (.bipush 48, 2) := by decide +kernel
theorem dX3_sideOf_22 : decode cX3_sideOf 22 = .ok (.if_icmp .lt 17, 3) := by decide +kernel
theorem dX3_sideOf_25 : decode cX3_sideOf 25 = .ok (.iload_n 0, 1) := by decide +kernel
theorem dX3_sideOf_26 : decode cX3_sideOf 26 = .ok (.bipush 54, 2) := by decide +kernel
theorem dX3_sideOf_28 : decode cX3_sideOf 28 = .ok (.if_icmp .ge 11, 3) := by decide +kernel
theorem dX3_sideOf_31 : decode cX3_sideOf 31 = .ok (.bipush 10, 2) := by decide +kernel
theorem dX3_sideOf_33 : decode cX3_sideOf 33 = .ok (.iload_n 0, 1) := by decide +kernel
theorem dX3_sideOf_34 : decode cX3_sideOf 34 = .ok (.iadd, 1) := by decide +kernel
theorem dX3_sideOf_35 : decode cX3_sideOf 35 = .ok (.bipush 48, 2) := by decide +kernel
theorem dX3_sideOf_37 : decode cX3_sideOf 37 = .ok (.isub, 1) := by decide +kernel
theorem dX3_sideOf_38 : decode cX3_sideOf 38 = .ok (.ireturn, 1) := by decide +kernel
theorem dX3_sideOf_39 : decode cX3_sideOf 39 = .ok (.iconst (-1), 1) := by decide +kernel
theorem dX3_sideOf_40 : decode cX3_sideOf 40 = .ok (.ireturn, 1) := by decide +kernel
theorem dX4_init_0 : decode cX4_init 0 = .ok (.aload_n 0, 1) := by decide +kernel
theorem dX4_init_1 : decode cX4_init 1 = .ok (.invokespecial 3, 3) := by decide +kernel
theorem dX4_init_4 : decode cX4_init 4 = .ok (.aload_n 0, 1) := by decide +kernel
theorem dX4_init_5 : decode cX4_init 5 = .ok (.new 9, 3) := by decide +kernel
theorem dX4_init_8 : decode cX4_init 8 = .ok (.dup, 1) := by decide +kernel
theorem dX4_init_9 : decode cX4_init 9 = .ok (.invokespecial 11, 3) := by decide +kernel
theorem dX4_init_12 : decode cX4_init 12 = .ok (.putfield 12, 3) := by decide +kernel
theorem dX4_init_15 : decode cX4_init 15 = .ok (.aload_n 0, 1) := by decide +kernel
theorem dX4_init_16 : decode cX4_init 16 = .ok (.bipush 6, 2) := by decide +kernel
theorem dX4_init_18 : decode cX4_init 18 = .ok (.newarray .int, 2) := by decide +kernel
theorem dX4_init_20 : decode cX4_init 20 = .ok (.putfield 18, 3) := by decide +kernel
theorem dX4_init_23 : decode cX4_init 23 = .ok (.aload_n 0, 1) := by decide +kernel
theorem dX4_init_24 : decode cX4_init 24 = .ok (.bipush 6, 2) := by decide +kernel
theorem dX4_init_26 : decode cX4_init 26 = .ok (.newarray .int, 2) := by decide +kernel
theorem dX4_init_28 : decode cX4_init 28 = .ok (.putfield 22, 3) := by decide +kernel
theorem dX4_init_31 : decode cX4_init 31 = .ok (.aload_n 0, 1) := by decide +kernel
theorem dX4_init_32 : decode cX4_init 32 = .ok (.bipush 48, 2) := by decide +kernel
theorem dX4_init_34 : decode cX4_init 34 = .ok (.newarray .int, 2) := by decide +kernel
theorem dX4_init_36 : decode cX4_init 36 = .ok (.putfield 25, 3) := by decide +kernel
theorem dX4_init_39 : decode cX4_init 39 = .ok (.aload_n 0, 1) := by decide +kernel
theorem dX4_init_40 : decode cX4_init 40 = .ok (.iconst 0, 1) := by decide +kernel
theorem dX4_init_41 : decode cX4_init 41 = .ok (.putfield 28, 3) := by decide +kernel
theorem dX4_init_44 : decode cX4_init 44 = .ok (.iconst 0, 1) := by decide +kernel
theorem dX4_init_45 : decode cX4_init 45 = .ok (.istore_n 1, 1) := by decide +kernel
theorem dX4_init_46 : decode cX4_init 46 = .ok (.iload_n 1, 1) := by decide +kernel
theorem dX4_init_47 : decode cX4_init 47 = .ok (.bipush 6, 2) := by decide +kernel
theorem dX4_init_49 : decode cX4_init 49 = .ok (.if_icmp .ge 24, 3) := by decide +kernel
theorem dX4_init_52 : decode cX4_init 52 = .ok (.aload_n 0, 1) := by decide +kernel
theorem dX4_init_53 : decode cX4_init 53 = .ok (.getfield 18, 3) := by decide +kernel
theorem dX4_init_56 : decode cX4_init 56 = .ok (.iload_n 1, 1) := by decide +kernel
theorem dX4_init_57 : decode cX4_init 57 = .ok (.bipush 50, 2) := by decide +kernel
theorem dX4_init_59 : decode cX4_init 59 = .ok (.iastore, 1) := by decide +kernel
theorem dX4_init_60 : decode cX4_init 60 = .ok (.aload_n 0, 1) := by decide +kernel
theorem dX4_init_61 : decode cX4_init 61 = .ok (.getfield 22, 3) := by decide +kernel
theorem dX4_init_64 : decode cX4_init 64 = .ok (.iload_n 1, 1) := by decide +kernel
theorem dX4_init_65 : decode cX4_init 65 = .ok (.iconst 3, 1) := by decide +kernel
theorem dX4_init_66 : decode cX4_init 66 = .ok (.iastore, 1) := by decide +kernel
theorem dX4_init_67 : decode cX4_init 67 = .ok (.iinc 1 1, 3) := by decide +kernel
theorem dX4_init_70 : decode cX4_init 70 = .ok (.goto (-24), 3) := by decide +kernel
theorem dX4_init_73 : decode cX4_init 73 = .ok (.return_, 1) := by decide +kernel
theorem dX4_become_0 : decode cX4_become 0 = .ok (.aload_n 0, 1) := by decide +kernel
theorem dX4_become_1 : decode cX4_become 1 = .ok (.getfield 12, 3) := by decide +kernel
theorem dX4_become_4 : decode cX4_become 4 = .ok (.aload_n 1, 1) := by decide +kernel
theorem dX4_become_5 : decode cX4_become 5 = .ok (.getfield 12, 3) := by decide +kernel
theorem dX4_become_8 : decode cX4_become 8 = .ok (.invokevirtual 32, 3) := by decide +kernel
theorem dX4_become_11 : decode cX4_become 11 = .ok (.aload_n 1, 1) := by decide +kernel
theorem dX4_become_12 : decode cX4_become 12 = .ok (.getfield 18, 3) := by decide +kernel
theorem dX4_become_15 : decode cX4_become 15 = .ok (.iconst 0, 1) := by decide +kernel
theorem dX4_become_16 : decode cX4_become 16 = .ok (.aload_n 0, 1) := by decide +kernel
theorem dX4_become_17 : decode cX4_become 17 = .ok (.getfield 18, 3) := by decide +kernel
theorem dX4_become_20 : decode cX4_become 20 = .ok (.iconst 0, 1) := by decide +kernel
theorem dX4_become_21 : decode cX4_become 21 = .ok (.aload_n 0, 1) := by decide +kernel
theorem dX4_become_22 : decode cX4_become 22 = .ok (.getfield 18, 3) := by decide +kernel
theorem dX4_become_25 : decode cX4_become 25 = .ok (.arraylength, 1) := by decide +kernel
theorem dX4_become_26 : decode cX4_become 26 = .ok (.invokestatic 36, 3) := by decide +kernel
theorem dX4_become_29 : decode cX4_become 29 = .ok (.aload_n 1, 1) := by decide +kernel
theorem dX4_become_30 : decode cX4_become 30 = .ok (.getfield 22, 3) := by decide +kernel
theorem dX4_become_33 : decode cX4_become 33 = .ok (.iconst 0, 1) := by decide +kernel
theorem dX4_become_34 : decode cX4_become 34 = .ok (.aload_n 0, 1) := by decide +kernel
theorem dX4_become_35 : decode cX4_become 35 = .ok (.getfield 22, 3) := by decide +kernel
theorem dX4_become_38 : decode cX4_become 38 = .ok (.iconst 0, 1) := by decide +kernel
theorem dX4_become_39 : decode cX4_become 39 = .ok (.aload_n 0, 1) := by decide +kernel
theorem dX4_become_40 : decode cX4_become 40 = .ok (.getfield 22, 3) := by decide +kernel
theorem dX4_become_43 : decode cX4_become 43 = .ok (.arraylength, 1) := by decide +kernel
theorem dX4_become_44 : decode cX4_become 44 = .ok (.invokestatic 36, 3) := by decide +kernel
theorem dX4_become_47 : decode cX4_become 47 = .ok (.aload_n 1, 1) := by decide +kernel
theorem dX4_become_48 : decode cX4_become 48 = .ok (.getfield 25, 3) := by decide +kernel
theorem dX4_become_51 : decode cX4_become 51 = .ok (.iconst 0, 1) := by decide +kernel
theorem dX4_become_52 : decode cX4_become 52 = .ok (.aload_n 0, 1) := by decide +kernel
theorem dX4_become_53 : decode cX4_become 53 = .ok (.getfield 25, 3) := by decide +kernel
theorem dX4_become_56 : decode cX4_become 56 = .ok (.iconst 0, 1) := by decide +kernel
theorem dX4_become_57 : decode cX4_become 57 = .ok (.aload_n 0, 1) := by decide +kernel
theorem dX4_become_58 : decode cX4_become 58 = .ok (.getfield 25, 3) := by decide +kernel
theorem dX4_become_61 : decode cX4_become 61 = .ok (.arraylength, 1) := by decide +kernel
theorem dX4_become_62 : decode cX4_become 62 = .ok (.invokestatic 36, 3) := by decide +kernel
theorem dX4_become_65 : decode cX4_become 65 = .ok (.aload_n 0, 1) := by decide +kernel
theorem dX4_become_66 : decode cX4_become 66 = .ok (.aload_n 1, 1) := by decide +kernel
theorem dX4_become_67 : decode cX4_become 67 = .ok (.getfield 28, 3) := by decide +kernel
theorem dX4_become_70 : decode cX4_become 70 = .ok (.putfield 28, 3) := by decide +kernel
theorem dX4_become_73 : decode cX4_become 73 = .ok (.return_, 1) := by decide +kernel
theorem dX4_addThing_0 : decode cX4_addThing 0 = .ok (.aload_n 0, 1) := by decide +kernel
theorem dX4_addThing_1 : decode cX4_addThing 1 = .ok (.getfield 12, 3) := by decide +kernel
theorem dX4_addThing_4 : decode cX4_addThing 4 = .ok (.iload_n 1, 1) := by decide +kernel
theorem dX4_addThing_5 : decode cX4_addThing 5 = .ok (.invokevirtual 42, 3) := by decide +kernel
theorem dX4_addThing_8 : decode cX4_addThing 8 = .ok (.istore_n 2, 1) := by decide +kernel
theorem dX4_addThing_9 : decode cX4_addThing 9 = .ok (.iconst 0, 1) := by decide +kernel
theorem dX4_addThing_10 : decode cX4_addThing 10 = .ok (.istore_n 3, 1) := by decide +kernel
theorem dX4_addThing_11 : decode cX4_addThing 11 = .ok (.iload_n 3, 1) := by decide +kernel
theorem dX4_addThing_12 : decode cX4_addThing 12 = .ok (.bipush 6, 2) := by decide +kernel
theorem dX4_addThing_14 : decode cX4_addThing 14 = .ok (.if_icmp .ge 21, 3) := by decide +kernel
theorem dX4_addThing_17 : decode cX4_addThing 17 = .ok (.aload_n 0, 1) := by decide +kernel
theorem dX4_addThing_18 : decode cX4_addThing 18 = .ok (.getfield 25, 3) := by decide +kernel
theorem dX4_addThing_21 : decode cX4_addThing 21 = .ok (.iload_n 2, 1) := by decide +kernel
theorem dX4_addThing_22 : decode cX4_addThing 22 = .ok (.bipush 6, 2) := by decide +kernel
theorem dX4_addThing_24 : decode cX4_addThing 24 = .ok (.imul, 1) := by decide +kernel
theorem dX4_addThing_25 : decode cX4_addThing 25 = .ok (.iload_n 3, 1) := by decide +kernel
theorem dX4_addThing_26 : decode cX4_addThing 26 = .ok (.iadd, 1) := by decide +kernel
theorem dX4_addThing_27 : decode cX4_addThing 27 = .ok (.iconst 5, 1) := by decide +kernel
theorem dX4_addThing_28 : decode cX4_addThing 28 = .ok (.iastore, 1) := by decide +kernel
theorem dX4_addThing_29 : decode cX4_addThing 29 = .ok (.iinc 3 1, 3) := by decide +kernel
theorem dX4_addThing_32 : decode cX4_addThing 32 = .ok (.goto (-21), 3) := by decide +kernel
theorem dX4_addThing_35 : decode cX4_addThing 35 = .ok (.iload_n 2, 1) := by decide +kernel
theorem dX4_addThing_36 : decode cX4_addThing 36 = .ok (.ireturn, 1) := by decide +kernel
theorem dX4_takeThings_0 : decode cX4_takeThings 0 = .ok (.aload_n 0, 1) := by decide +kernel
theorem dX4_takeThings_1 : decode cX4_takeThings 1 = .ok (.getfield 12, 3) := by decide +kernel
theorem dX4_takeThings_4 : decode cX4_takeThings 4 = .ok (.iconst 0, 1) := by decide +kernel
theorem dX4_takeThings_5 : decode cX4_takeThings 5 = .ok (.putfield 46, 3) := by decide +kernel
theorem dX4_takeThings_8 : decode cX4_takeThings 8 = .ok (.aload_n 0, 1) := by decide +kernel
theorem dX4_takeThings_9 : decode cX4_takeThings 9 = .ok (.getfield 12, 3) := by decide +kernel
theorem dX4_takeThings_12 : decode cX4_takeThings 12 = .ok (.iconst 0, 1) := by decide +kernel
theorem dX4_takeThings_13 : decode cX4_takeThings 13 = .ok (.putfield 49, 3) := by decide +kernel
theorem dX4_takeThings_16 : decode cX4_takeThings 16 = .ok (.aload_n 0, 1) := by decide +kernel
theorem dX4_takeThings_17 : decode cX4_takeThings 17 = .ok (.getfield 12, 3) := by decide +kernel
theorem dX4_takeThings_20 : decode cX4_takeThings 20 = .ok (.iconst 0, 1) := by decide +kernel
theorem dX4_takeThings_21 : decode cX4_takeThings 21 = .ok (.putfield 52, 3) := by decide +kernel
theorem dX4_takeThings_24 : decode cX4_takeThings 24 = .ok (.iconst 0, 1) := by decide +kernel
theorem dX4_takeThings_25 : decode cX4_takeThings 25 = .ok (.istore_n 3, 1) := by decide +kernel
theorem dX4_takeThings_26 : decode cX4_takeThings 26 = .ok (.iload_n 3, 1) := by decide +kernel
theorem dX4_takeThings_27 : decode cX4_takeThings 27 = .ok (.iload_n 2, 1) := by decide +kernel
theorem dX4_takeThings_28 : decode cX4_takeThings 28 = .ok (.if_icmp .ge 43, 3) := by decide +kernel
theorem dX4_takeThings_31 : decode cX4_takeThings 31 = .ok (.aload_n 0, 1) := by decide +kernel
theorem dX4_takeThings_32 : decode cX4_takeThings 32 = .ok (.getfield 12, 3) := by decide +kernel
theorem dX4_takeThings_35 : decode cX4_takeThings 35 = .ok (.aload_n 1, 1) := by decide +kernel
theorem dX4_takeThings_36 : decode cX4_takeThings 36 = .ok (.iload_n 3, 1) := by decide +kernel
theorem dX4_takeThings_37 : decode cX4_takeThings 37 = .ok (.bipush 7, 2) := by decide +kernel
theorem dX4_takeThings_39 : decode cX4_takeThings 39 = .ok (.imul, 1) := by decide +kernel
theorem dX4_takeThings_40 : decode cX4_takeThings 40 = .ok (.iaload, 1) := by decide +kernel
theorem dX4_takeThings_41 : decode cX4_takeThings 41 = .ok (.invokevirtual 42, 3) := by decide +kernel
theorem dX4_takeThings_44 : decode cX4_takeThings 44 = .ok (.pop, 1) := by decide +kernel
theorem dX4_takeThings_45 : decode cX4_takeThings 45 = .ok (.aload_n 1, 1) := by decide +kernel
theorem dX4_takeThings_46 : decode cX4_takeThings 46 = .ok (.iload_n 3, 1) := by decide +kernel
theorem dX4_takeThings_47 : decode cX4_takeThings 47 = .ok (.bipush 7, 2) := by decide +kernel
theorem dX4_takeThings_49 : decode cX4_takeThings 49 = .ok (.imul, 1) := by decide +kernel
theorem dX4_takeThings_50 : decode cX4_takeThings 50 = .ok (.iconst 1, 1) := by decide +kernel
theorem dX4_takeThings_51 : decode cX4_takeThings 51 = .ok (.iadd, 1) := by decide +kernel
theorem dX4_takeThings_52 : decode cX4_takeThings 52 = .ok (.aload_n 0, 1) := by decide +kernel
theorem dX4_takeThings_53 : decode cX4_takeThings 53 = .ok (.getfield 25, 3) := by decide +kernel
theorem dX4_takeThings_56 : decode cX4_takeThings 56 = .ok (.iload_n 3, 1) := by decide +kernel
theorem dX4_takeThings_57 : decode cX4_takeThings 57 = .ok (.bipush 6, 2) := by decide +kernel
theorem dX4_takeThings_59 : decode cX4_takeThings 59 = .ok (.imul, 1) := by decide +kernel
theorem dX4_takeThings_60 : decode cX4_takeThings 60 = .ok (.bipush 6, 2) := by decide +kernel
theorem dX4_takeThings_62 : decode cX4_takeThings 62 = .ok (.invokestatic 36, 3) := by decide +kernel
theorem dX4_takeThings_65 : decode cX4_takeThings 65 = .ok (.iinc 3 1, 3) := by decide +kernel
theorem dX4_takeThings_68 : decode cX4_takeThings 68 = .ok (.goto (-42), 3) := by decide +kernel
theorem dX4_takeThings_71 : decode cX4_takeThings 71 = .ok (.return_, 1) := by decide +kernel
theorem dX4_sell_0 : decode cX4_sell 0 = .ok (.aload_n 0, 1) := by decide +kernel
theorem dX4_sell_1 : decode cX4_sell 1 = .ok (.getfield 12, 3) := by decide +kernel
theorem dX4_sell_4 : decode cX4_sell 4 = .ok (.getfield 57, 3) := by decide +kernel
theorem dX4_sell_7 : decode cX4_sell 7 = .ok (.iload_n 1, 1) := by decide +kernel
theorem dX4_sell_8 : decode cX4_sell 8 = .ok (.iaload, 1) := by decide +kernel
theorem dX4_sell_9 : decode cX4_sell 9 = .ok (.istore 4, 2) := by decide +kernel
theorem dX4_sell_11 : decode cX4_sell 11 = .ok (.aload_n 0, 1) := by decide +kernel
theorem dX4_sell_12 : decode cX4_sell 12 = .ok (.getfield 18, 3) := by decide +kernel
theorem dX4_sell_15 : decode cX4_sell 15 = .ok (.iload_n 2, 1) := by decide +kernel
theorem dX4_sell_16 : decode cX4_sell 16 = .ok (.dup2, 1) := by decide +kernel
theorem dX4_sell_17 : decode cX4_sell 17 = .ok (.iaload, 1) := by decide +kernel
theorem dX4_sell_18 : decode cX4_sell 18 = .ok (.iload_n 3, 1) := by decide +kernel
theorem dX4_sell_19 : decode cX4_sell 19 = .ok (.isub, 1) := by decide +kernel
theorem dX4_sell_20 : decode cX4_sell 20 = .ok (.iastore, 1) := by decide +kernel
theorem dX4_sell_21 : decode cX4_sell 21 = .ok (.iload 4, 2) := by decide +kernel
theorem dX4_sell_23 : decode cX4_sell 23 = .ok (.bipush 6, 2) := by decide +kernel
theorem dX4_sell_25 : decode cX4_sell 25 = .ok (.if_icmp .eq 25, 3) := by decide +kernel
theorem dX4_sell_28 : decode cX4_sell 28 = .ok (.aload_n 0, 1) := by decide +kernel
theorem dX4_sell_29 : decode cX4_sell 29 = .ok (.getfield 18, 3) := by decide +kernel
theorem dX4_sell_32 : decode cX4_sell 32 = .ok (.iload 4, 2) := by decide +kernel
theorem dX4_sell_34 : decode cX4_sell 34 = .ok (.sipush 9999, 3) := by decide +kernel
theorem dX4_sell_37 : decode cX4_sell 37 = .ok (.aload_n 0, 1) := by decide +kernel
theorem dX4_sell_38 : decode cX4_sell 38 = .ok (.getfield 18, 3) := by decide +kernel
theorem dX4_sell_41 : decode cX4_sell 41 = .ok (.iload 4, 2) := by decide +kernel
theorem dX4_sell_43 : decode cX4_sell 43 = .ok (.iaload, 1) := by decide +kernel
theorem dX4_sell_44 : decode cX4_sell 44 = .ok (.iload_n 3, 1) := by decide +kernel
theorem dX4_sell_45 : decode cX4_sell 45 = .ok (.iadd, 1) := by decide +kernel
theorem dX4_sell_46 : decode cX4_sell 46 = .ok (.invokestatic 60, 3) := by decide +kernel
theorem dX4_sell_49 : decode cX4_sell 49 = .ok (.iastore, 1) := by decide +kernel
theorem dX4_sell_50 : decode cX4_sell 50 = .ok (.aload_n 0, 1) := by decide +kernel
theorem dX4_sell_51 : decode cX4_sell 51 = .ok (.dup, 1) := by decide +kernel
theorem dX4_sell_52 : decode cX4_sell 52 = .ok (.getfield 28, 3) := by decide +kernel
theorem dX4_sell_55 : decode cX4_sell 55 = .ok (.iconst 1, 1) := by decide +kernel
theorem dX4_sell_56 : decode cX4_sell 56 = .ok (.iadd, 1) := by decide +kernel
theorem dX4_sell_57 : decode cX4_sell 57 = .ok (.putfield 28, 3) := by decide +kernel
theorem dX4_sell_60 : decode cX4_sell 60 = .ok (.aload_n 0, 1) := by decide +kernel
theorem dX4_sell_61 : decode cX4_sell 61 = .ok (.getfield 12, 3) := by decide +kernel
theorem dX4_sell_64 : decode cX4_sell 64 = .ok (.iload_n 1, 1) := by decide +kernel
theorem dX4_sell_65 : decode cX4_sell 65 = .ok (.iload_n 2, 1) := by decide +kernel
theorem dX4_sell_66 : decode cX4_sell 66 = .ok (.invokevirtual 66, 3) := by decide +kernel
theorem dX4_sell_69 : decode cX4_sell 69 = .ok (.ireturn, 1) := by decide +kernel
theorem dX4_split_0 : decode cX4_split 0 = .ok (.aload_n 0, 1) := by decide +kernel
theorem dX4_split_1 : decode cX4_split 1 = .ok (.getfield 12, 3) := by decide +kernel
theorem dX4_split_4 : decode cX4_split 4 = .ok (.iload_n 1, 1) := by decide +kernel
theorem dX4_split_5 : decode cX4_split 5 = .ok (.iload_n 2, 1) := by decide +kernel
theorem dX4_split_6 : decode cX4_split 6 = .ok (.invokevirtual 69, 3) := by decide +kernel
theorem dX4_split_9 : decode cX4_split 9 = .ok (.istore_n 3, 1) := by decide +kernel
theorem dX4_split_10 : decode cX4_split 10 = .ok (.iconst 0, 1) := by decide +kernel
theorem dX4_split_11 : decode cX4_split 11 = .ok (.istore 4, 2) := by decide +kernel
theorem dX4_split_13 : decode cX4_split 13 = .ok (.iload 4, 2) := by decide +kernel
theorem dX4_split_15 : decode cX4_split 15 = .ok (.bipush 6, 2) := by decide +kernel
theorem dX4_split_17 : decode cX4_split 17 = .ok (.if_icmp .ge 60, 3) := by decide +kernel
theorem dX4_split_20 : decode cX4_split 20 = .ok (.aload_n 0, 1) := by decide +kernel
theorem dX4_split_21 : decode cX4_split 21 = .ok (.getfield 25, 3) := by decide +kernel
theorem dX4_split_24 : decode cX4_split 24 = .ok (.iload_n 1, 1) := by decide +kernel
theorem dX4_split_25 : decode cX4_split 25 = .ok (.bipush 6, 2) := by decide +kernel
theorem dX4_split_27 : decode cX4_split 27 = .ok (.imul, 1) := by decide +kernel
theorem dX4_split_28 : decode cX4_split 28 = .ok (.iload 4, 2) := by decide +kernel
theorem dX4_split_30 : decode cX4_split 30 = .ok (.iadd, 1) := by decide +kernel
theorem dX4_split_31 : decode cX4_split 31 = .ok (.iaload, 1) := by decide +kernel
theorem dX4_split_32 : decode cX4_split 32 = .ok (.istore 5, 2) := by decide +kernel
theorem dX4_split_34 : decode cX4_split 34 = .ok (.iload 5, 2) := by decide +kernel
theorem dX4_split_36 : decode cX4_split 36 = .ok (.iconst 2, 1) := by decide +kernel
theorem dX4_split_37 : decode cX4_split 37 = .ok (.idiv, 1) := by decide +kernel
theorem dX4_split_38 : decode cX4_split 38 = .ok (.istore 6, 2) := by decide +kernel
theorem dX4_split_40 : decode cX4_split 40 = .ok (.aload_n 0, 1) := by decide +kernel
theorem dX4_split_41 : decode cX4_split 41 = .ok (.getfield 25, 3) := by decide +kernel
theorem dX4_split_44 : decode cX4_split 44 = .ok (.iload_n 3, 1) := by decide +kernel
theorem dX4_split_45 : decode cX4_split 45 = .ok (.bipush 6, 2) := by decide +kernel
theorem dX4_split_47 : decode cX4_split 47 = .ok (.imul, 1) := by decide +kernel
theorem dX4_split_48 : decode cX4_split 48 = .ok (.iload 4, 2) := by decide +kernel
theorem dX4_split_50 : decode cX4_split 50 = .ok (.iadd, 1) := by decide +kernel
theorem dX4_split_51 : decode cX4_split 51 = .ok (.iload 6, 2) := by decide +kernel
theorem dX4_split_53 : decode cX4_split 53 = .ok (.iastore, 1) := by decide +kernel
theorem dX4_split_54 : decode cX4_split 54 = .ok (.aload_n 0, 1) := by decide +kernel
theorem dX4_split_55 : decode cX4_split 55 = .ok (.getfield 25, 3) := by decide +kernel
theorem dX4_split_58 : decode cX4_split 58 = .ok (.iload_n 1, 1) := by decide +kernel
theorem dX4_split_59 : decode cX4_split 59 = .ok (.bipush 6, 2) := by decide +kernel
theorem dX4_split_61 : decode cX4_split 61 = .ok (.imul, 1) := by decide +kernel
theorem dX4_split_62 : decode cX4_split 62 = .ok (.iload 4, 2) := by decide +kernel
theorem dX4_split_64 : decode cX4_split 64 = .ok (.iadd, 1) := by decide +kernel
theorem dX4_split_65 : decode cX4_split 65 = .ok (.iload 5, 2) := by decide +kernel
theorem dX4_split_67 : decode cX4_split 67 = .ok (.iload 6, 2) := by decide +kernel
theorem dX4_split_69 : decode cX4_split 69 = .ok (.isub, 1) := by decide +kernel
theorem dX4_split_70 : decode cX4_split 70 = .ok (.iastore, 1) := by decide +kernel
theorem dX4_split_71 : decode cX4_split 71 = .ok (.iinc 4 1, 3) := by decide +kernel
theorem dX4_split_74 : decode cX4_split 74 = .ok (.goto (-61), 3) := by decide +kernel
theorem dX4_split_77 : decode cX4_split 77 = .ok (.iload_n 3, 1) := by decide +kernel
theorem dX4_split_78 : decode cX4_split 78 = .ok (.ireturn, 1) := by decide +kernel
theorem dX4_valueTo_0 : decode cX4_valueTo 0 = .ok (.aload_n 0, 1) := by decide +kernel
theorem dX4_valueTo_1 : decode cX4_valueTo 1 = .ok (.getfield 22, 3) := by decide +kernel
theorem dX4_valueTo_4 : decode cX4_valueTo 4 = .ok (.iload_n 1, 1) := by decide +kernel
theorem dX4_valueTo_5 : decode cX4_valueTo 5 = .ok (.iaload, 1) := by decide +kernel
theorem dX4_valueTo_6 : decode cX4_valueTo 6 = .ok (.ineg, 1) := by decide +kernel
theorem dX4_valueTo_7 : decode cX4_valueTo 7 = .ok (.aload_n 2, 1) := by decide +kernel
theorem dX4_valueTo_8 : decode cX4_valueTo 8 = .ok (.iload_n 1, 1) := by decide +kernel
theorem dX4_valueTo_9 : decode cX4_valueTo 9 = .ok (.invokevirtual 72, 3) := by decide +kernel
theorem dX4_valueTo_12 : decode cX4_valueTo 12 = .ok (.imul, 1) := by decide +kernel
theorem dX4_valueTo_13 : decode cX4_valueTo 13 = .ok (.istore_n 3, 1) := by decide +kernel
theorem dX4_valueTo_14 : decode cX4_valueTo 14 = .ok (.iconst 0, 1) := by decide +kernel
theorem dX4_valueTo_15 : decode cX4_valueTo 15 = .ok (.istore 4, 2) := by decide +kernel
theorem dX4_valueTo_17 : decode cX4_valueTo 17 = .ok (.iload 4, 2) := by decide +kernel
theorem dX4_valueTo_19 : decode cX4_valueTo 19 = .ok (.aload_n 2, 1) := by decide +kernel
theorem dX4_valueTo_20 : decode cX4_valueTo 20 = .ok (.getfield 46, 3) := by decide +kernel
theorem dX4_valueTo_23 : decode cX4_valueTo 23 = .ok (.if_icmp .ge 35, 3) := by decide +kernel
theorem dX4_valueTo_26 : decode cX4_valueTo 26 = .ok (.aload_n 2, 1) := by decide +kernel
theorem dX4_valueTo_27 : decode cX4_valueTo 27 = .ok (.getfield 57, 3) := by decide +kernel
theorem dX4_valueTo_30 : decode cX4_valueTo 30 = .ok (.iload 4, 2) := by decide +kernel
theorem dX4_valueTo_32 : decode cX4_valueTo 32 = .ok (.iaload, 1) := by decide +kernel
theorem dX4_valueTo_33 : decode cX4_valueTo 33 = .ok (.iload_n 1, 1) := by decide +kernel
theorem dX4_valueTo_34 : decode cX4_valueTo 34 = .ok (.if_icmp .ne 18, 3) := by decide +kernel
theorem dX4_valueTo_37 : decode cX4_valueTo 37 = .ok (.iload_n 3, 1) := by decide +kernel
theorem dX4_valueTo_38 : decode cX4_valueTo 38 = .ok (.aload_n 0, 1) := by decide +kernel
theorem dX4_valueTo_39 : decode cX4_valueTo 39 = .ok (.getfield 25, 3) := by decide +kernel
theorem dX4_valueTo_42 : decode cX4_valueTo 42 = .ok (.iload 4, 2) := by decide +kernel
theorem dX4_valueTo_44 : decode cX4_valueTo 44 = .ok (.bipush 6, 2) := by decide +kernel
theorem dX4_valueTo_46 : decode cX4_valueTo 46 = .ok (.imul, 1) := by decide +kernel
theorem dX4_valueTo_47 : decode cX4_valueTo 47 = .ok (.iload_n 1, 1) := by decide +kernel
theorem dX4_valueTo_48 : decode cX4_valueTo 48 = .ok (.iadd, 1) := by decide +kernel
theorem dX4_valueTo_49 : decode cX4_valueTo 49 = .ok (.iaload, 1) := by decide +kernel
theorem dX4_valueTo_50 : decode cX4_valueTo 50 = .ok (.iadd, 1) := by decide +kernel
theorem dX4_valueTo_51 : decode cX4_valueTo 51 = .ok (.istore_n 3, 1) := by decide +kernel
theorem dX4_valueTo_52 : decode cX4_valueTo 52 = .ok (.iinc 4 1, 3) := by decide +kernel
theorem dX4_valueTo_55 : decode cX4_valueTo 55 = .ok (.goto (-38), 3) := by decide +kernel
theorem dX4_valueTo_58 : decode cX4_valueTo 58 = .ok (.iload_n 3, 1) := by decide +kernel
theorem dX4_valueTo_59 : decode cX4_valueTo 59 = .ok (.ireturn, 1) := by decide +kernel
theorem dX5_init_0 : decode cX5_init 0 = .ok (.aload_n 0, 1) := by decide +kernel
theorem dX5_init_1 : decode cX5_init 1 = .ok (.invokespecial 1, 3) := by decide +kernel
theorem dX5_init_4 : decode cX5_init 4 = .ok (.aload_n 0, 1) := by decide +kernel
theorem dX5_init_5 : decode cX5_init 5 = .ok (.new 7, 3) := by decide +kernel
theorem dX5_init_8 : decode cX5_init 8 = .ok (.dup, 1) := by decide +kernel
theorem dX5_init_9 : decode cX5_init 9 = .ok (.invokespecial 9, 3) := by decide +kernel
theorem dX5_init_12 : decode cX5_init 12 = .ok (.putfield 10, 3) := by decide +kernel
theorem dX5_init_15 : decode cX5_init 15 = .ok (.aload_n 0, 1) := by decide +kernel
theorem dX5_init_16 : decode cX5_init 16 = .ok (.new 7, 3) := by decide +kernel
theorem dX5_init_19 : decode cX5_init 19 = .ok (.dup, 1) := by decide +kernel
theorem dX5_init_20 : decode cX5_init 20 = .ok (.invokespecial 9, 3) := by decide +kernel
theorem dX5_init_23 : decode cX5_init 23 = .ok (.putfield 16, 3) := by decide +kernel
theorem dX5_init_26 : decode cX5_init 26 = .ok (.aload_n 0, 1) := by decide +kernel
theorem dX5_init_27 : decode cX5_init 27 = .ok (.iconst 0, 1) := by decide +kernel
theorem dX5_init_28 : decode cX5_init 28 = .ok (.putfield 19, 3) := by decide +kernel
theorem dX5_init_31 : decode cX5_init 31 = .ok (.aload_n 0, 1) := by decide +kernel
theorem dX5_init_32 : decode cX5_init 32 = .ok (.new 23, 3) := by decide +kernel
theorem dX5_init_35 : decode cX5_init 35 = .ok (.dup, 1) := by decide +kernel
theorem dX5_init_36 : decode cX5_init 36 = .ok (.invokespecial 25, 3) := by decide +kernel
theorem dX5_init_39 : decode cX5_init 39 = .ok (.putfield 26, 3) := by decide +kernel
theorem dX5_init_42 : decode cX5_init 42 = .ok (.aload_n 0, 1) := by decide +kernel
theorem dX5_init_43 : decode cX5_init 43 = .ok (.new 30, 3) := by decide +kernel
theorem dX5_init_46 : decode cX5_init 46 = .ok (.dup, 1) := by decide +kernel
theorem dX5_init_47 : decode cX5_init 47 = .ok (.invokespecial 32, 3) := by decide +kernel
theorem dX5_init_50 : decode cX5_init 50 = .ok (.putfield 33, 3) := by decide +kernel
theorem dX5_init_53 : decode cX5_init 53 = .ok (.aload_n 0, 1) := by decide +kernel
theorem dX5_init_54 : decode cX5_init 54 = .ok (.new 37, 3) := by decide +kernel
theorem dX5_init_57 : decode cX5_init 57 = .ok (.dup, 1) := by decide +kernel
theorem dX5_init_58 : decode cX5_init 58 = .ok (.invokespecial 39, 3) := by decide +kernel
theorem dX5_init_61 : decode cX5_init 61 = .ok (.putfield 40, 3) := by decide +kernel
theorem dX5_init_64 : decode cX5_init 64 = .ok (.aload_n 0, 1) := by decide +kernel
theorem dX5_init_65 : decode cX5_init 65 = .ok (.iconst 4, 1) := by decide +kernel
theorem dX5_init_66 : decode cX5_init 66 = .ok (.anewarray 44, 3) := by decide +kernel
theorem dX5_init_69 : decode cX5_init 69 = .ok (.putfield 46, 3) := by decide +kernel
theorem dX5_init_72 : decode cX5_init 72 = .ok (.iconst 0, 1) := by decide +kernel
theorem dX5_init_73 : decode cX5_init 73 = .ok (.istore_n 1, 1) := by decide +kernel
theorem dX5_init_74 : decode cX5_init 74 = .ok (.iload_n 1, 1) := by decide +kernel
theorem dX5_init_75 : decode cX5_init 75 = .ok (.aload_n 0, 1) := by decide +kernel
theorem dX5_init_76 : decode cX5_init 76 = .ok (.getfield 46, 3) := by decide +kernel
theorem dX5_init_79 : decode cX5_init 79 = .ok (.arraylength, 1) := by decide +kernel
theorem dX5_init_80 : decode cX5_init 80 = .ok (.if_icmp .ge 22, 3) := by decide +kernel
theorem dX5_init_83 : decode cX5_init 83 = .ok (.aload_n 0, 1) := by decide +kernel
theorem dX5_init_84 : decode cX5_init 84 = .ok (.getfield 46, 3) := by decide +kernel
theorem dX5_init_87 : decode cX5_init 87 = .ok (.iload_n 1, 1) := by decide +kernel
theorem dX5_init_88 : decode cX5_init 88 = .ok (.new 44, 3) := by decide +kernel
theorem dX5_init_91 : decode cX5_init 91 = .ok (.dup, 1) := by decide +kernel
theorem dX5_init_92 : decode cX5_init 92 = .ok (.invokespecial 50, 3) := by decide +kernel
theorem dX5_init_95 : decode cX5_init 95 = .ok (.aastore, 1) := by decide +kernel
theorem dX5_init_96 : decode cX5_init 96 = .ok (.iinc 1 1, 3) := by decide +kernel
theorem dX5_init_99 : decode cX5_init 99 = .ok (.goto (-25), 3) := by decide +kernel
theorem dX5_init_102 : decode cX5_init 102 = .ok (.return_, 1) := by decide +kernel
theorem dX5_person_0 : decode cX5_person 0 = .ok (.iload_n 1, 1) := by decide +kernel
theorem dX5_person_1 : decode cX5_person 1 = .ok (.invokestatic 51, 3) := by decide +kernel
theorem dX5_person_4 : decode cX5_person 4 = .ok (.ifCond .ne 5, 3) := by decide +kernel
theorem dX5_person_7 : decode cX5_person 7 = .ok (.iconst (-1), 1) := by decide +kernel
theorem dX5_person_8 : decode cX5_person 8 = .ok (.ireturn, 1) := by decide +kernel
theorem dX5_person_9 : decode cX5_person 9 = .ok (.iload_n 2, 1) := by decide +kernel
theorem dX5_person_10 : decode cX5_person 10 = .ok (.ifCond .ne 26, 3) := by decide +kernel
theorem dX5_person_13 : decode cX5_person 13 = .ok (.iload_n 3, 1) := by decide +kernel
theorem dX5_person_14 : decode cX5_person 14 = .ok (.sipush 999, 3) := by decide +kernel
theorem dX5_person_17 : decode cX5_person 17 = .ok (.invokestatic 55, 3) := by decide +kernel
theorem dX5_person_20 : decode cX5_person 20 = .ok (.ifCond .eq 16, 3) := by decide +kernel
theorem dX5_person_23 : decode cX5_person 23 = .ok (.aload_n 0, 1) := by decide +kernel
theorem dX5_person_24 : decode cX5_person 24 = .ok (.getfield 10, 3) := by decide +kernel
theorem dX5_person_27 : decode cX5_person 27 = .ok (.getfield 59, 3) := by decide +kernel
theorem dX5_person_30 : decode cX5_person 30 = .ok (.iload_n 1, 1) := by decide +kernel
theorem dX5_person_31 : decode cX5_person 31 = .ok (.iload_n 3, 1) := by decide +kernel
theorem dX5_person_32 : decode cX5_person 32 = .ok (.invokestatic 63, 3) := by decide +kernel
theorem dX5_person_35 : decode cX5_person 35 = .ok (.ireturn, 1) := by decide +kernel
theorem dX5_person_36 : decode cX5_person 36 = .ok (.iload_n 2, 1) := by decide +kernel
theorem dX5_person_37 : decode cX5_person 37 = .ok (.iconst 1, 1) := by decide +kernel
theorem dX5_person_38 : decode cX5_person 38 = .ok (.if_icmp .ne 25, 3) := by decide +kernel
theorem dX5_person_41 : decode cX5_person 41 = .ok (.iload_n 3, 1) := by decide +kernel
theorem dX5_person_42 : decode cX5_person 42 = .ok (.bipush 99, 2) := by decide +kernel
theorem dX5_person_44 : decode cX5_person 44 = .ok (.invokestatic 55, 3) := by decide +kernel
theorem dX5_person_47 : decode cX5_person 47 = .ok (.ifCond .eq 16, 3) := by decide +kernel
theorem dX5_person_50 : decode cX5_person 50 = .ok (.aload_n 0, 1) := by decide +kernel
theorem dX5_person_51 : decode cX5_person 51 = .ok (.getfield 10, 3) := by decide +kernel
theorem dX5_person_54 : decode cX5_person 54 = .ok (.getfield 67, 3) := by decide +kernel
theorem dX5_person_57 : decode cX5_person 57 = .ok (.iload_n 1, 1) := by decide +kernel
theorem dX5_person_58 : decode cX5_person 58 = .ok (.iload_n 3, 1) := by decide +kernel
theorem dX5_person_59 : decode cX5_person 59 = .ok (.invokestatic 63, 3) := by decide +kernel
theorem dX5_person_62 : decode cX5_person 62 = .ok (.ireturn, 1) := by decide +kernel
theorem dX5_person_63 : decode cX5_person 63 = .ok (.iconst (-1), 1) := by decide +kernel
theorem dX5_person_64 : decode cX5_person 64 = .ok (.ireturn, 1) := by decide +kernel
theorem dX5_rule_0 : decode cX5_rule 0 = .ok (.iload_n 1, 1) := by decide +kernel
theorem dX5_rule_1 : decode cX5_rule 1 = .ok (.iconst 1, 1) := by decide +kernel
theorem dX5_rule_2 : decode cX5_rule 2 = .ok (.invokestatic 55, 3) := by decide +kernel
theorem dX5_rule_5 : decode cX5_rule 5 = .ok (.ifCond .eq 11, 3) := by decide +kernel
theorem dX5_rule_8 : decode cX5_rule 8 = .ok (.iload_n 2, 1) := by decide +kernel
theorem dX5_rule_9 : decode cX5_rule 9 = .ok (.iconst 1, 1) := by decide +kernel
theorem dX5_rule_10 : decode cX5_rule 10 = .ok (.invokestatic 55, 3) := by decide +kernel
theorem dX5_rule_13 : decode cX5_rule 13 = .ok (.ifCond .ne 5, 3) := by decide +kernel
theorem dX5_rule_16 : decode cX5_rule 16 = .ok (.iconst (-1), 1) := by decide +kernel
theorem dX5_rule_17 : decode cX5_rule 17 = .ok (.ireturn, 1) := by decide +kernel
theorem dX5_rule_18 : decode cX5_rule 18 = .ok (.aload_n 0, 1) := by decide +kernel
theorem dX5_rule_19 : decode cX5_rule 19 = .ok (.getfield 10, 3) := by decide +kernel
theorem dX5_rule_22 : decode cX5_rule 22 = .ok (.getfield 70, 3) := by decide +kernel
theorem dX5_rule_25 : decode cX5_rule 25 = .ok (.getfield 73, 3) := by decide +kernel
theorem dX5_rule_28 : decode cX5_rule 28 = .ok (.iload_n 1, 1) := by decide +kernel
theorem dX5_rule_29 : decode cX5_rule 29 = .ok (.iload_n 2, 1) := by decide +kernel
theorem dX5_rule_30 : decode cX5_rule 30 = .ok (.invokestatic 63, 3) := by decide +kernel
theorem dX5_rule_33 : decode cX5_rule 33 = .ok (.istore_n 3, 1) := by decide +kernel
theorem dX5_rule_34 : decode cX5_rule 34 = .ok (.aload_n 0, 1) := by decide +kernel
theorem dX5_rule_35 : decode cX5_rule 35 = .ok (.getfield 10, 3) := by decide +kernel
theorem dX5_rule_38 : decode cX5_rule 38 = .ok (.getfield 70, 3) := by decide +kernel
theorem dX5_rule_41 : decode cX5_rule 41 = .ok (.invokevirtual 76, 3) := by decide +kernel
theorem dX5_rule_44 : decode cX5_rule 44 = .ok (.pop, 1) := by decide +kernel
theorem dX5_rule_45 : decode cX5_rule 45 = .ok (.iload_n 3, 1) := by decide +kernel
theorem dX5_rule_46 : decode cX5_rule 46 = .ok (.ireturn, 1) := by decide +kernel
theorem dX5_thing_0 : decode cX5_thing 0 = .ok (.iload_n 1, 1) := by decide +kernel
theorem dX5_thing_1 : decode cX5_thing 1 = .ok (.bipush 6, 2) := by decide +kernel
theorem dX5_thing_3 : decode cX5_thing 3 = .ok (.invokestatic 55, 3) := by decide +kernel
theorem dX5_thing_6 : decode cX5_thing 6 = .ok (.ifCond .ne 5, 3) := by decide +kernel
theorem dX5_thing_9 : decode cX5_thing 9 = .ok (.iconst (-1), 1) := by decide +kernel
theorem dX5_thing_10 : decode cX5_thing 10 = .ok (.ireturn, 1) := by decide +kernel
theorem dX5_thing_11 : decode cX5_thing 11 = .ok (.aload_n 0, 1) := by decide +kernel
theorem dX5_thing_12 : decode cX5_thing 12 = .ok (.getfield 10, 3) := by decide +kernel
theorem dX5_thing_15 : decode cX5_thing 15 = .ok (.getfield 70, 3) := by decide +kernel
theorem dX5_thing_18 : decode cX5_thing 18 = .ok (.getfield 80, 3) := by decide +kernel
theorem dX5_thing_21 : decode cX5_thing 21 = .ok (.bipush 8, 2) := by decide +kernel
theorem dX5_thing_23 : decode cX5_thing 23 = .ok (.if_icmp .lt 6, 3) := by decide +kernel
theorem dX5_thing_26 : decode cX5_thing 26 = .ok (.bipush (-3), 2) := by decide +kernel
theorem dX5_thing_28 : decode cX5_thing 28 = .ok (.ireturn, 1) := by decide +kernel
theorem dX5_thing_29 : decode cX5_thing 29 = .ok (.aload_n 0, 1) := by decide +kernel
theorem dX5_thing_30 : decode cX5_thing 30 = .ok (.getfield 10, 3) := by decide +kernel
theorem dX5_thing_33 : decode cX5_thing 33 = .ok (.iload_n 1, 1) := by decide +kernel
theorem dX5_thing_34 : decode cX5_thing 34 = .ok (.invokevirtual 84, 3) := by decide +kernel
theorem dX5_thing_37 : decode cX5_thing 37 = .ok (.ireturn, 1) := by decide +kernel
theorem dX5_worth_0 : decode cX5_worth 0 = .ok (.aload_n 0, 1) := by decide +kernel
theorem dX5_worth_1 : decode cX5_worth 1 = .ok (.iload_n 1, 1) := by decide +kernel
theorem dX5_worth_2 : decode cX5_worth 2 = .ok (.invokevirtual 88, 3) := by decide +kernel
theorem dX5_worth_5 : decode cX5_worth 5 = .ok (.ifCond .eq 19, 3) := by decide +kernel
theorem dX5_worth_8 : decode cX5_worth 8 = .ok (.iload_n 2, 1) := by decide +kernel
theorem dX5_worth_9 : decode cX5_worth 9 = .ok (.invokestatic 51, 3) := by decide +kernel
theorem dX5_worth_12 : decode cX5_worth 12 = .ok (.ifCond .eq 12, 3) := by decide +kernel
theorem dX5_worth_15 : decode cX5_worth 15 = .ok (.iload_n 3, 1) := by decide +kernel
theorem dX5_worth_16 : decode cX5_worth 16 = .ok (.bipush 99, 2) := by decide +kernel
theorem dX5_worth_18 : decode cX5_worth 18 = .ok (.invokestatic 55, 3) := by decide +kernel
theorem dX5_worth_21 : decode cX5_worth 21 = .ok (.ifCond .ne 5, 3) := by decide +kernel
theorem dX5_worth_24 : decode cX5_worth 24 = .ok (.iconst (-1), 1) := by decide +kernel
theorem dX5_worth_25 : decode cX5_worth 25 = .ok (.ireturn, 1) := by decide +kernel
theorem dX5_worth_26 : decode cX5_worth 26 = .ok (.aload_n 0, 1) := by decide +kernel
theorem dX5_worth_27 : decode cX5_worth 27 = .ok (.getfield 10, 3) := by decide +kernel
theorem dX5_worth_30 : decode cX5_worth 30 = .ok (.getfield 91, 3) := by decide +kernel
theorem dX5_worth_33 : decode cX5_worth 33 = .ok (.iload_n 1, 1) := by decide +kernel
theorem dX5_worth_34 : decode cX5_worth 34 = .ok (.bipush 6, 2) := by decide +kernel
theorem dX5_worth_36 : decode cX5_worth 36 = .ok (.imul, 1) := by decide +kernel
theorem dX5_worth_37 : decode cX5_worth 37 = .ok (.iload_n 2, 1) := by decide +kernel
