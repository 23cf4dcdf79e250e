theorem dX6_standsIn_26 : decode cX6_standsIn 26 = .ok (.iload_n 3, 1) := by decide +kernel
theorem dX6_standsIn_27 : decode cX6_standsIn 27 = .ok (.iaload, 1) := by decide +kernel
theorem dX6_standsIn_28 : decode cX6_standsIn 28 = .ok (.invokevirtual 91, 3) := by decide +kernel
theorem dX6_standsIn_31 : decode cX6_standsIn 31 = .ok (.iload_n 1, 1) := by decide +kernel
theorem dX6_standsIn_32 : decode cX6_standsIn 32 = .ok (.if_icmp .eq 17, 3) := by decide +kernel
theorem dX6_standsIn_35 : decode cX6_standsIn 35 = .ok (.aload_n 0, 1) := by decide +kernel
theorem dX6_standsIn_36 : decode cX6_standsIn 36 = .ok (.aload_n 0, 1) := by decide +kernel
theorem dX6_standsIn_37 : decode cX6_standsIn 37 = .ok (.getfield 28, 3) := by decide +kernel
theorem dX6_standsIn_40 : decode cX6_standsIn 40 = .ok (.iload_n 3, 1) := by decide +kernel
theorem dX6_standsIn_41 : decode cX6_standsIn 41 = .ok (.iaload, 1) := by decide +kernel
theorem dX6_standsIn_42 : decode cX6_standsIn 42 = .ok (.invokevirtual 91, 3) := by decide +kernel
theorem dX6_standsIn_45 : decode cX6_standsIn 45 = .ok (.iload_n 1, 1) := by decide +kernel
theorem dX6_standsIn_46 : decode cX6_standsIn 46 = .ok (.if_icmp .ne 7, 3) := by decide +kernel
theorem dX6_standsIn_49 : decode cX6_standsIn 49 = .ok (.iconst 1, 1) := by decide +kernel
theorem dX6_standsIn_50 : decode cX6_standsIn 50 = .ok (.goto 4, 3) := by decide +kernel
theorem dX6_standsIn_53 : decode cX6_standsIn 53 = .ok (.iconst 0, 1) := by decide +kernel
theorem dX6_standsIn_54 : decode cX6_standsIn 54 = .ok (.iadd, 1) := by decide +kernel
theorem dX6_standsIn_55 : decode cX6_standsIn 55 = .ok (.istore_n 2, 1) := by decide +kernel
theorem dX6_standsIn_56 : decode cX6_standsIn 56 = .ok (.iinc 3 1, 3) := by decide +kernel
theorem dX6_standsIn_59 : decode cX6_standsIn 59 = .ok (.goto (-55), 3) := by decide +kernel
theorem dX6_standsIn_62 : decode cX6_standsIn 62 = .ok (.iload_n 2, 1) := by decide +kernel
theorem dX6_standsIn_63 : decode cX6_standsIn 63 = .ok (.ireturn, 1) := by decide +kernel
theorem dX6_valueOf_0 : decode cX6_valueOf 0 = .ok (.aload_n 0, 1) := by decide +kernel
theorem dX6_valueOf_1 : decode cX6_valueOf 1 = .ok (.getfield 13, 3) := by decide +kernel
theorem dX6_valueOf_4 : decode cX6_valueOf 4 = .ok (.iload_n 1, 1) := by decide +kernel
theorem dX6_valueOf_5 : decode cX6_valueOf 5 = .ok (.iaload, 1) := by decide +kernel
theorem dX6_valueOf_6 : decode cX6_valueOf 6 = .ok (.ineg, 1) := by decide +kernel
theorem dX6_valueOf_7 : decode cX6_valueOf 7 = .ok (.aload_n 0, 1) := by decide +kernel
theorem dX6_valueOf_8 : decode cX6_valueOf 8 = .ok (.iload_n 1, 1) := by decide +kernel
theorem dX6_valueOf_9 : decode cX6_valueOf 9 = .ok (.invokevirtual 120, 3) := by decide +kernel
theorem dX6_valueOf_12 : decode cX6_valueOf 12 = .ok (.imul, 1) := by decide +kernel
theorem dX6_valueOf_13 : decode cX6_valueOf 13 = .ok (.istore_n 2, 1) := by decide +kernel
theorem dX6_valueOf_14 : decode cX6_valueOf 14 = .ok (.iconst 0, 1) := by decide +kernel
theorem dX6_valueOf_15 : decode cX6_valueOf 15 = .ok (.istore_n 3, 1) := by decide +kernel
theorem dX6_valueOf_16 : decode cX6_valueOf 16 = .ok (.iload_n 3, 1) := by decide +kernel
theorem dX6_valueOf_17 : decode cX6_valueOf 17 = .ok (.aload_n 0, 1) := by decide +kernel
theorem dX6_valueOf_18 : decode cX6_valueOf 18 = .ok (.getfield 73, 3) := by decide +kernel
theorem dX6_valueOf_21 : decode cX6_valueOf 21 = .ok (.if_icmp .ge 37, 3) := by decide +kernel
theorem dX6_valueOf_24 : decode cX6_valueOf 24 = .ok (.iload_n 2, 1) := by decide +kernel
theorem dX6_valueOf_25 : decode cX6_valueOf 25 = .ok (.aload_n 0, 1) := by decide +kernel
theorem dX6_valueOf_26 : decode cX6_valueOf 26 = .ok (.getfield 19, 3) := by decide +kernel
theorem dX6_valueOf_29 : decode cX6_valueOf 29 = .ok (.iload_n 3, 1) := by decide +kernel
theorem dX6_valueOf_30 : decode cX6_valueOf 30 = .ok (.iaload, 1) := by decide +kernel
theorem dX6_valueOf_31 : decode cX6_valueOf 31 = .ok (.iload_n 1, 1) := by decide +kernel
theorem dX6_valueOf_32 : decode cX6_valueOf 32 = .ok (.if_icmp .ne 17, 3) := by decide +kernel
theorem dX6_valueOf_35 : decode cX6_valueOf 35 = .ok (.aload_n 0, 1) := by decide +kernel
theorem dX6_valueOf_36 : decode cX6_valueOf 36 = .ok (.getfield 22, 3) := by decide +kernel
theorem dX6_valueOf_39 : decode cX6_valueOf 39 = .ok (.bipush 6, 2) := by decide +kernel
theorem dX6_valueOf_41 : decode cX6_valueOf 41 = .ok (.iload_n 3, 1) := by decide +kernel
theorem dX6_valueOf_42 : decode cX6_valueOf 42 = .ok (.imul, 1) := by decide +kernel
theorem dX6_valueOf_43 : decode cX6_valueOf 43 = .ok (.iload_n 1, 1) := by decide +kernel
theorem dX6_valueOf_44 : decode cX6_valueOf 44 = .ok (.iadd, 1) := by decide +kernel
theorem dX6_valueOf_45 : decode cX6_valueOf 45 = .ok (.iaload, 1) := by decide +kernel
theorem dX6_valueOf_46 : decode cX6_valueOf 46 = .ok (.goto 4, 3) := by decide +kernel
theorem dX6_valueOf_49 : decode cX6_valueOf 49 = .ok (.iconst 0, 1) := by decide +kernel
theorem dX6_valueOf_50 : decode cX6_valueOf 50 = .ok (.iadd, 1) := by decide +kernel
theorem dX6_valueOf_51 : decode cX6_valueOf 51 = .ok (.istore_n 2, 1) := by decide +kernel
theorem dX6_valueOf_52 : decode cX6_valueOf 52 = .ok (.iinc 3 1, 3) := by decide +kernel
theorem dX6_valueOf_55 : decode cX6_valueOf 55 = .ok (.goto (-39), 3) := by decide +kernel
theorem dX6_valueOf_58 : decode cX6_valueOf 58 = .ok (.iload_n 2, 1) := by decide +kernel
theorem dX6_valueOf_59 : decode cX6_valueOf 59 = .ok (.ireturn, 1) := by decide +kernel
theorem dX6_value_0 : decode cX6_value 0 = .ok (.iload_n 1, 1) := by decide +kernel
theorem dX6_value_1 : decode cX6_value 1 = .ok (.invokestatic 98, 3) := by decide +kernel
theorem dX6_value_4 : decode cX6_value 4 = .ok (.ifCond .eq 11, 3) := by decide +kernel
theorem dX6_value_7 : decode cX6_value 7 = .ok (.aload_n 0, 1) := by decide +kernel
theorem dX6_value_8 : decode cX6_value 8 = .ok (.iload_n 1, 1) := by decide +kernel
theorem dX6_value_9 : decode cX6_value 9 = .ok (.invokevirtual 123, 3) := by decide +kernel
theorem dX6_value_12 : decode cX6_value 12 = .ok (.goto 5, 3) := by decide +kernel
theorem dX6_value_15 : decode cX6_value 15 = .ok (.ldc 126, 2) := by decide +kernel
theorem dX6_value_17 : decode cX6_value 17 = .ok (.ireturn, 1) := by decide +kernel
theorem dX6_size_0 : decode cX6_size 0 = .ok (.iconst 0, 1) := by decide +kernel
theorem dX6_size_1 : decode cX6_size 1 = .ok (.istore_n 1, 1) := by decide +kernel
theorem dX6_size_2 : decode cX6_size 2 = .ok (.iload_n 0, 1) := by decide +kernel
theorem dX6_size_3 : decode cX6_size 3 = .ok (.istore_n 2, 1) := by decide +kernel
theorem dX6_size_4 : decode cX6_size 4 = .ok (.iload_n 2, 1) := by decide +kernel
theorem dX6_size_5 : decode cX6_size 5 = .ok (.ifCond .eq 15, 3) := by decide +kernel
theorem dX6_size_8 : decode cX6_size 8 = .ok (.iinc 1 1, 3) := by decide +kernel
theorem dX6_size_11 : decode cX6_size 11 = .ok (.iload_n 2, 1) := by decide +kernel
theorem dX6_size_12 : decode cX6_size 12 = .ok (.iload_n 2, 1) := by decide +kernel
theorem dX6_size_13 : decode cX6_size 13 = .ok (.iconst 1, 1) := by decide +kernel
theorem dX6_size_14 : decode cX6_size 14 = .ok (.isub, 1) := by decide +kernel
theorem dX6_size_15 : decode cX6_size 15 = .ok (.iand, 1) := by decide +kernel
theorem dX6_size_16 : decode cX6_size 16 = .ok (.istore_n 2, 1) := by decide +kernel
theorem dX6_size_17 : decode cX6_size 17 = .ok (.goto (-13), 3) := by decide +kernel
theorem dX6_size_20 : decode cX6_size 20 = .ok (.iload_n 1, 1) := by decide +kernel
theorem dX6_size_21 : decode cX6_size 21 = .ok (.ireturn, 1) := by decide +kernel
theorem dX6_costAll_0 : decode cX6_costAll 0 = .ok (.iconst 0, 1) := by decide +kernel
theorem dX6_costAll_1 : decode cX6_costAll 1 = .ok (.istore_n 1, 1) := by decide +kernel
theorem dX6_costAll_2 : decode cX6_costAll 2 = .ok (.iconst 0, 1) := by decide +kernel
theorem dX6_costAll_3 : decode cX6_costAll 3 = .ok (.istore_n 2, 1) := by decide +kernel
theorem dX6_costAll_4 : decode cX6_costAll 4 = .ok (.iload_n 2, 1) := by decide +kernel
theorem dX6_costAll_5 : decode cX6_costAll 5 = .ok (.bipush 6, 2) := by decide +kernel
theorem dX6_costAll_7 : decode cX6_costAll 7 = .ok (.if_icmp .ge 24, 3) := by decide +kernel
theorem dX6_costAll_10 : decode cX6_costAll 10 = .ok (.iload_n 1, 1) := by decide +kernel
theorem dX6_costAll_11 : decode cX6_costAll 11 = .ok (.aload_n 0, 1) := by decide +kernel
theorem dX6_costAll_12 : decode cX6_costAll 12 = .ok (.getfield 13, 3) := by decide +kernel
theorem dX6_costAll_15 : decode cX6_costAll 15 = .ok (.iload_n 2, 1) := by decide +kernel
theorem dX6_costAll_16 : decode cX6_costAll 16 = .ok (.iaload, 1) := by decide +kernel
theorem dX6_costAll_17 : decode cX6_costAll 17 = .ok (.aload_n 0, 1) := by decide +kernel
theorem dX6_costAll_18 : decode cX6_costAll 18 = .ok (.iload_n 2, 1) := by decide +kernel
theorem dX6_costAll_19 : decode cX6_costAll 19 = .ok (.invokevirtual 120, 3) := by decide +kernel
theorem dX6_costAll_22 : decode cX6_costAll 22 = .ok (.imul, 1) := by decide +kernel
theorem dX6_costAll_23 : decode cX6_costAll 23 = .ok (.iadd, 1) := by decide +kernel
theorem dX6_costAll_24 : decode cX6_costAll 24 = .ok (.istore_n 1, 1) := by decide +kernel
theorem dX6_costAll_25 : decode cX6_costAll 25 = .ok (.iinc 2 1, 3) := by decide +kernel
theorem dX6_costAll_28 : decode cX6_costAll 28 = .ok (.goto (-24), 3) := by decide +kernel
theorem dX6_costAll_31 : decode cX6_costAll 31 = .ok (.iload_n 1, 1) := by decide +kernel
theorem dX6_costAll_32 : decode cX6_costAll 32 = .ok (.ireturn, 1) := by decide +kernel
theorem dX6_count_0 : decode cX6_count 0 = .ok (.iload_n 1, 1) := by decide +kernel
theorem dX6_count_1 : decode cX6_count 1 = .ok (.ifCond .ne 10, 3) := by decide +kernel
theorem dX6_count_4 : decode cX6_count 4 = .ok (.aload_n 0, 1) := by decide +kernel
theorem dX6_count_5 : decode cX6_count 5 = .ok (.getfield 73, 3) := by decide +kernel
theorem dX6_count_8 : decode cX6_count 8 = .ok (.goto 55, 3) := by decide +kernel
theorem dX6_count_11 : decode cX6_count 11 = .ok (.iload_n 1, 1) := by decide +kernel
theorem dX6_count_12 : decode cX6_count 12 = .ok (.iconst 1, 1) := by decide +kernel
theorem dX6_count_13 : decode cX6_count 13 = .ok (.if_icmp .ne 10, 3) := by decide +kernel
theorem dX6_count_16 : decode cX6_count 16 = .ok (.aload_n 0, 1) := by decide +kernel
theorem dX6_count_17 : decode cX6_count 17 = .ok (.getfield 88, 3) := by decide +kernel
theorem dX6_count_20 : decode cX6_count 20 = .ok (.goto 43, 3) := by decide +kernel
theorem dX6_count_23 : decode cX6_count 23 = .ok (.iload_n 1, 1) := by decide +kernel
theorem dX6_count_24 : decode cX6_count 24 = .ok (.iconst 2, 1) := by decide +kernel
theorem dX6_count_25 : decode cX6_count 25 = .ok (.if_icmp .ne 13, 3) := by decide +kernel
theorem dX6_count_28 : decode cX6_count 28 = .ok (.aload_n 0, 1) := by decide +kernel
theorem dX6_count_29 : decode cX6_count 29 = .ok (.getfield 85, 3) := by decide +kernel
theorem dX6_count_32 : decode cX6_count 32 = .ok (.invokestatic 127, 3) := by decide +kernel
theorem dX6_count_35 : decode cX6_count 35 = .ok (.goto 28, 3) := by decide +kernel
theorem dX6_count_38 : decode cX6_count 38 = .ok (.iload_n 1, 1) := by decide +kernel
theorem dX6_count_39 : decode cX6_count 39 = .ok (.iconst 3, 1) := by decide +kernel
theorem dX6_count_40 : decode cX6_count 40 = .ok (.if_icmp .ne 10, 3) := by decide +kernel
theorem dX6_count_43 : decode cX6_count 43 = .ok (.aload_n 0, 1) := by decide +kernel
theorem dX6_count_44 : decode cX6_count 44 = .ok (.invokevirtual 130, 3) := by decide +kernel
theorem dX6_count_47 : decode cX6_count 47 = .ok (.goto 16, 3) := by decide +kernel
theorem dX6_count_50 : decode cX6_count 50 = .ok (.iload_n 1, 1) := by decide +kernel
theorem dX6_count_51 : decode cX6_count 51 = .ok (.iconst 4, 1) := by decide +kernel
theorem dX6_count_52 : decode cX6_count 52 = .ok (.if_icmp .ne 10, 3) := by decide +kernel
theorem dX6_count_55 : decode cX6_count 55 = .ok (.aload_n 0, 1) := by decide +kernel
theorem dX6_count_56 : decode cX6_count 56 = .ok (.getfield 133, 3) := by decide +kernel
theorem dX6_count_59 : decode cX6_count 59 = .ok (.goto 4, 3) := by decide +kernel
theorem dX6_count_62 : decode cX6_count 62 = .ok (.iconst (-1), 1) := by decide +kernel
theorem dX6_count_63 : decode cX6_count 63 = .ok (.ireturn, 1) := by decide +kernel
theorem dX6_type_0 : decode cX6_type 0 = .ok (.iload_n 3, 1) := by decide +kernel
theorem dX6_type_1 : decode cX6_type 1 = .ok (.i2l, 1) := by decide +kernel
theorem dX6_type_2 : decode cX6_type 2 = .ok (.lconst 1, 1) := by decide +kernel
theorem dX6_type_3 : decode cX6_type 3 = .ok (.ldc2_w 136, 3) := by decide +kernel
theorem dX6_type_6 : decode cX6_type 6 = .ok (.invokestatic 69, 3) := by decide +kernel
theorem dX6_type_9 : decode cX6_type 9 = .ok (.ifCond .ne 5, 3) := by decide +kernel
theorem dX6_type_12 : decode cX6_type 12 = .ok (.iconst (-1), 1) := by decide +kernel
theorem dX6_type_13 : decode cX6_type 13 = .ok (.ireturn, 1) := by decide +kernel
theorem dX6_type_14 : decode cX6_type 14 = .ok (.iconst 0, 1) := by decide +kernel
theorem dX6_type_15 : decode cX6_type 15 = .ok (.istore 4, 2) := by decide +kernel
theorem dX6_type_17 : decode cX6_type 17 = .ok (.iload 4, 2) := by decide +kernel
theorem dX6_type_19 : decode cX6_type 19 = .ok (.iload_n 3, 1) := by decide +kernel
theorem dX6_type_20 : decode cX6_type 20 = .ok (.if_icmp .ge 34, 3) := by decide +kernel
theorem dX6_type_23 : decode cX6_type 23 = .ok (.lload_n 1, 1) := by decide +kernel
theorem dX6_type_24 : decode cX6_type 24 = .ok (.bipush 8, 2) := by decide +kernel
theorem dX6_type_26 : decode cX6_type 26 = .ok (.iload 4, 2) := by decide +kernel
theorem dX6_type_28 : decode cX6_type 28 = .ok (.imul, 1) := by decide +kernel
theorem dX6_type_29 : decode cX6_type 29 = .ok (.lshr, 1) := by decide +kernel
theorem dX6_type_30 : decode cX6_type 30 = .ok (.ldc2_w 138, 3) := by decide +kernel
theorem dX6_type_33 : decode cX6_type 33 = .ok (.land, 1) := by decide +kernel
theorem dX6_type_34 : decode cX6_type 34 = .ok (.ldc2_w 140, 3) := by decide +kernel
theorem dX6_type_37 : decode cX6_type 37 = .ok (.ldc2_w 142, 3) := by decide +kernel
theorem dX6_type_40 : decode cX6_type 40 = .ok (.invokestatic 69, 3) := by decide +kernel
theorem dX6_type_43 : decode cX6_type 43 = .ok (.ifCond .ne 5, 3) := by decide +kernel
theorem dX6_type_46 : decode cX6_type 46 = .ok (.iconst (-1), 1) := by decide +kernel
theorem dX6_type_47 : decode cX6_type 47 = .ok (.ireturn, 1) := by decide +kernel
theorem dX6_type_48 : decode cX6_type 48 = .ok (.iinc 4 1, 3) := by decide +kernel
theorem dX6_type_51 : decode cX6_type 51 = .ok (.goto (-34), 3) := by decide +kernel
theorem dX6_type_54 : decode cX6_type 54 = .ok (.aload_n 0, 1) := by decide +kernel
theorem dX6_type_55 : decode cX6_type 55 = .ok (.getfield 144, 3) := by decide +kernel
theorem dX6_type_58 : decode cX6_type 58 = .ok (.iload_n 3, 1) := by decide +kernel
theorem dX6_type_59 : decode cX6_type 59 = .ok (.iadd, 1) := by decide +kernel
theorem dX6_type_60 : decode cX6_type 60 = .ok (.bipush 80, 2) := by decide +kernel
theorem dX6_type_62 : decode cX6_type 62 = .ok (.if_icmp .le 6, 3) := by decide +kernel
theorem dX6_type_65 : decode cX6_type 65 = .ok (.bipush (-3), 2) := by decide +kernel
theorem dX6_type_67 : decode cX6_type 67 = .ok (.ireturn, 1) := by decide +kernel
theorem dX6_type_68 : decode cX6_type 68 = .ok (.iload_n 3, 1) := by decide +kernel
theorem dX6_type_69 : decode cX6_type 69 = .ok (.iconst 1, 1) := by decide +kernel
theorem dX6_type_70 : decode cX6_type 70 = .ok (.isub, 1) := by decide +kernel
theorem dX6_type_71 : decode cX6_type 71 = .ok (.istore 4, 2) := by decide +kernel
theorem dX6_type_73 : decode cX6_type 73 = .ok (.iload 4, 2) := by decide +kernel
theorem dX6_type_75 : decode cX6_type 75 = .ok (.ifCond .lt 40, 3) := by decide +kernel
theorem dX6_type_78 : decode cX6_type 78 = .ok (.aload_n 0, 1) := by decide +kernel
theorem dX6_type_79 : decode cX6_type 79 = .ok (.getfield 31, 3) := by decide +kernel
theorem dX6_type_82 : decode cX6_type 82 = .ok (.aload_n 0, 1) := by decide +kernel
theorem dX6_type_83 : decode cX6_type 83 = .ok (.getfield 144, 3) := by decide +kernel
theorem dX6_type_86 : decode cX6_type 86 = .ok (.lload_n 1, 1) := by decide +kernel
theorem dX6_type_87 : decode cX6_type 87 = .ok (.bipush 8, 2) := by decide +kernel
theorem dX6_type_89 : decode cX6_type 89 = .ok (.iload 4, 2) := by decide +kernel
theorem dX6_type_91 : decode cX6_type 91 = .ok (.imul, 1) := by decide +kernel
theorem dX6_type_92 : decode cX6_type 92 = .ok (.lshr, 1) := by decide +kernel
theorem dX6_type_93 : decode cX6_type 93 = .ok (.ldc2_w 138, 3) := by decide +kernel
theorem dX6_type_96 : decode cX6_type 96 = .ok (.land, 1) := by decide +kernel
theorem dX6_type_97 : decode cX6_type 97 = .ok (.l2i, 1) := by decide +kernel
theorem dX6_type_98 : decode cX6_type 98 = .ok (.iastore, 1) := by decide +kernel
theorem dX6_type_99 : decode cX6_type 99 = .ok (.aload_n 0, 1) := by decide +kernel
theorem dX6_type_100 : decode cX6_type 100 = .ok (.dup, 1) := by decide +kernel
theorem dX6_type_101 : decode cX6_type 101 = .ok (.getfield 144, 3) := by decide +kernel
theorem dX6_type_104 : decode cX6_type 104 = .ok (.iconst 1, 1) := by decide +kernel
theorem dX6_type_105 : decode cX6_type 105 = .ok (.iadd, 1) := by decide +kernel
theorem dX6_type_106 : decode cX6_type 106 = .ok (.putfield 144, 3) := by decide +kernel
theorem dX6_type_109 : decode cX6_type 109 = .ok (.iinc 4 (-1), 3) := by decide +kernel
theorem dX6_type_112 : decode cX6_type 112 = .ok (.goto (-39), 3) := by decide +kernel
theorem dX6_type_115 : decode cX6_type 115 = .ok (.aload_n 0, 1) := by decide +kernel
theorem dX6_type_116 : decode cX6_type 116 = .ok (.getfield 144, 3) := by decide +kernel
theorem dX6_type_119 : decode cX6_type 119 = .ok (.ireturn, 1) := by decide +kernel
theorem dX6_here_0 : decode cX6_here 0 = .ok (.aload_n 0, 1) := by decide +kernel
theorem dX6_here_1 : decode cX6_here 1 = .ok (.getfield 147, 3) := by decide +kernel
theorem dX6_here_4 : decode cX6_here 4 = .ok (.aload_n 0, 1) := by decide +kernel
theorem dX6_here_5 : decode cX6_here 5 = .ok (.getfield 144, 3) := by decide +kernel
theorem dX6_here_8 : decode cX6_here 8 = .ok (.if_icmp .ge 30, 3) := by decide +kernel
theorem dX6_here_11 : decode cX6_here 11 = .ok (.aload_n 0, 1) := by decide +kernel
theorem dX6_here_12 : decode cX6_here 12 = .ok (.getfield 31, 3) := by decide +kernel
theorem dX6_here_15 : decode cX6_here 15 = .ok (.aload_n 0, 1) := by decide +kernel
theorem dX6_here_16 : decode cX6_here 16 = .ok (.getfield 147, 3) := by decide +kernel
theorem dX6_here_19 : decode cX6_here 19 = .ok (.iaload, 1) := by decide +kernel
theorem dX6_here_20 : decode cX6_here 20 = .ok (.bipush 32, 2) := by decide +kernel
theorem dX6_here_22 : decode cX6_here 22 = .ok (.if_icmp .ne 16, 3) := by decide +kernel
theorem dX6_here_25 : decode cX6_here 25 = .ok (.aload_n 0, 1) := by decide +kernel
theorem dX6_here_26 : decode cX6_here 26 = .ok (.dup, 1) := by decide +kernel
theorem dX6_here_27 : decode cX6_here 27 = .ok (.getfield 147, 3) := by decide +kernel
theorem dX6_here_30 : decode cX6_here 30 = .ok (.iconst 1, 1) := by decide +kernel
theorem dX6_here_31 : decode cX6_here 31 = .ok (.iadd, 1) := by decide +kernel
theorem dX6_here_32 : decode cX6_here 32 = .ok (.putfield 147, 3) := by decide +kernel
theorem dX6_here_35 : decode cX6_here 35 = .ok (.goto (-35), 3) := by decide +kernel
theorem dX6_here_38 : decode cX6_here 38 = .ok (.aload_n 0, 1) := by decide +kernel
theorem dX6_here_39 : decode cX6_here 39 = .ok (.getfield 147, 3) := by decide +kernel
theorem dX6_here_42 : decode cX6_here 42 = .ok (.aload_n 0, 1) := by decide +kernel
theorem dX6_here_43 : decode cX6_here 43 = .ok (.getfield 144, 3) := by decide +kernel
theorem dX6_here_46 : decode cX6_here 46 = .ok (.if_icmp .ge 15, 3) := by decide +kernel
theorem dX6_here_49 : decode cX6_here 49 = .ok (.aload_n 0, 1) := by decide +kernel
theorem dX6_here_50 : decode cX6_here 50 = .ok (.getfield 31, 3) := by decide +kernel
theorem dX6_here_53 : decode cX6_here 53 = .ok (.aload_n 0, 1) := by decide +kernel
theorem dX6_here_54 : decode cX6_here 54 = .ok (.getfield 147, 3) := by decide +kernel
theorem dX6_here_57 : decode cX6_here 57 = .ok (.iaload, 1) := by decide +kernel
theorem dX6_here_58 : decode cX6_here 58 = .ok (.goto 4, 3) := by decide +kernel
theorem dX6_here_61 : decode cX6_here 61 = .ok (.iconst 0, 1) := by decide +kernel
theorem dX6_here_62 : decode cX6_here 62 = .ok (.ireturn, 1) := by decide +kernel
theorem dX6_has_0 : decode cX6_has 0 = .ok (.aload_n 0, 1) := by decide +kernel
theorem dX6_has_1 : decode cX6_has 1 = .ok (.getfield 150, 3) := by decide +kernel
theorem dX6_has_4 : decode cX6_has 4 = .ok (.ifCond .ne 15, 3) := by decide +kernel
theorem dX6_has_7 : decode cX6_has 7 = .ok (.aload_n 0, 1) := by decide +kernel
theorem dX6_has_8 : decode cX6_has 8 = .ok (.invokevirtual 154, 3) := by decide +kernel
theorem dX6_has_11 : decode cX6_has 11 = .ok (.iload_n 1, 1) := by decide +kernel
theorem dX6_has_12 : decode cX6_has 12 = .ok (.if_icmp .ne 7, 3) := by decide +kernel
theorem dX6_has_15 : decode cX6_has 15 = .ok (.iconst 1, 1) := by decide +kernel
theorem dX6_has_16 : decode cX6_has 16 = .ok (.goto 4, 3) := by decide +kernel
theorem dX6_has_19 : decode cX6_has 19 = .ok (.iconst 0, 1) := by decide +kernel
theorem dX6_has_20 : decode cX6_has 20 = .ok (.istore_n 2, 1) := by decide +kernel
theorem dX6_has_21 : decode cX6_has 21 = .ok (.aload_n 0, 1) := by decide +kernel
theorem dX6_has_22 : decode cX6_has 22 = .ok (.dup, 1) := by decide +kernel
theorem dX6_has_23 : decode cX6_has 23 = .ok (.getfield 147, 3) := by decide +kernel
theorem dX6_has_26 : decode cX6_has 26 = .ok (.iload_n 2, 1) := by decide +kernel
theorem dX6_has_27 : decode cX6_has 27 = .ok (.ifCond .eq 7, 3) := by decide +kernel
theorem dX6_has_30 : decode cX6_has 30 = .ok (.iconst 1, 1) := by decide +kernel
theorem dX6_has_31 : decode cX6_has 31 = .ok (.goto 4, 3) := by decide +kernel
theorem dX6_has_34 : decode cX6_has 34 = .ok (.iconst 0, 1) := by decide +kernel
theorem dX6_has_35 : decode cX6_has 35 = .ok (.iadd, 1) := by decide +kernel
theorem dX6_has_36 : decode cX6_has 36 = .ok (.putfield 147, 3) := by decide +kernel
theorem dX6_has_39 : decode cX6_has 39 = .ok (.iload_n 2, 1) := by decide +kernel
theorem dX6_has_40 : decode cX6_has 40 = .ok (.ireturn, 1) := by decide +kernel
theorem dX6_digit_0 : decode cX6_digit 0 = .ok (.aload_n 0, 1) := by decide +kernel
theorem dX6_digit_1 : decode cX6_digit 1 = .ok (.aload_n 0, 1) := by decide +kernel
theorem dX6_digit_2 : decode cX6_digit 2 = .ok (.getfield 150, 3) := by decide +kernel
theorem dX6_digit_5 : decode cX6_digit 5 = .ok (.ifCond .ne 22, 3) := by decide +kernel
theorem dX6_digit_8 : decode cX6_digit 8 = .ok (.aload_n 0, 1) := by decide +kernel
theorem dX6_digit_9 : decode cX6_digit 9 = .ok (.invokevirtual 154, 3) := by decide +kernel
theorem dX6_digit_12 : decode cX6_digit 12 = .ok (.i2l, 1) := by decide +kernel
theorem dX6_digit_13 : decode cX6_digit 13 = .ok (.ldc2_w 157, 3) := by decide +kernel
theorem dX6_digit_16 : decode cX6_digit 16 = .ok (.bipush 48, 2) := by decide +kernel
theorem dX6_digit_18 : decode cX6_digit 18 = .ok (.iload_n 1, 1) := by decide +kernel
theorem dX6_digit_19 : decode cX6_digit 19 = .ok (.iadd, 1) := by decide +kernel
theorem dX6_digit_20 : decode cX6_digit 20 = .ok (.i2l, 1) := by decide +kernel
theorem dX6_digit_21 : decode cX6_digit 21 = .ok (.invokestatic 69, 3) := by decide +kernel
theorem dX6_digit_24 : decode cX6_digit 24 = .ok (.ifCond .ne 7, 3) := by decide +kernel
theorem dX6_digit_27 : decode cX6_digit 27 = .ok (.iconst 1, 1) := by decide +kernel
theorem dX6_digit_28 : decode cX6_digit 28 = .ok (.goto 4, 3) := by decide +kernel
theorem dX6_digit_31 : decode cX6_digit 31 = .ok (.iconst 0, 1) := by decide +kernel
theorem dX6_digit_32 : decode cX6_digit 32 = .ok (.putfield 150, 3) := by decide +kernel
theorem dX6_digit_35 : decode cX6_digit 35 = .ok (.aload_n 0, 1) := by decide +kernel
theorem dX6_digit_36 : decode cX6_digit 36 = .ok (.getfield 150, 3) := by decide +kernel
theorem dX6_digit_39 : decode cX6_digit 39 = .ok (.ifCond .eq 7, 3) := by decide +kernel
theorem dX6_digit_42 : decode cX6_digit 42 = .ok (.iconst 0, 1) := by decide +kernel
theorem dX6_digit_43 : decode cX6_digit 43 = .ok (.goto 10, 3) := by decide +kernel
theorem dX6_digit_46 : decode cX6_digit 46 = .ok (.aload_n 0, 1) := by decide +kernel
theorem dX6_digit_47 : decode cX6_digit 47 = .ok (.invokevirtual 154, 3) := by decide +kernel
theorem dX6_digit_50 : decode cX6_digit 50 = .ok (.bipush 48, 2) := by decide +kernel
theorem dX6_digit_52 : decode cX6_digit 52 = .ok (.isub, 1) := by decide +kernel
theorem dX6_digit_53 : decode cX6_digit 53 = .ok (.istore_n 2, 1) := by decide +kernel
theorem dX6_digit_54 : decode cX6_digit 54 = .ok (.aload_n 0, 1) := by decide +kernel
theorem dX6_digit_55 : decode cX6_digit 55 = .ok (.dup, 1) := by decide +kernel
theorem dX6_digit_56 : decode cX6_digit 56 = .ok (.getfield 147, 3) := by decide +kernel
theorem dX6_digit_59 : decode cX6_digit 59 = .ok (.aload_n 0, 1) := by decide +kernel
theorem dX6_digit_60 : decode cX6_digit 60 = .ok (.getfield 150, 3) := by decide +kernel
theorem dX6_digit_63 : decode cX6_digit 63 = .ok (.ifCond .eq 7, 3) := by decide +kernel
theorem dX6_digit_66 : decode cX6_digit 66 = .ok (.iconst 0, 1) := by decide +kernel
theorem dX6_digit_67 : decode cX6_digit 67 = .ok (.goto 4, 3) := by decide +kernel
theorem dX6_digit_70 : decode cX6_digit 70 = .ok (.iconst 1, 1) := by decide +kernel
theorem dX6_digit_71 : decode cX6_digit 71 = .ok (.iadd, 1) := by decide +kernel
theorem dX6_digit_72 : decode cX6_digit 72 = .ok (.putfield 147, 3) := by decide +kernel
theorem dX6_digit_75 : decode cX6_digit 75 = .ok (.iload_n 2, 1) := by decide +kernel
theorem dX6_digit_76 : decode cX6_digit 76 = .ok (.ireturn, 1) := by decide +kernel
theorem dX6_thingClause_0 : decode cX6_thingClause 0 = .ok (.aload_n 0, 1) := by decide +kernel
theorem dX6_thingClause_1 : decode cX6_thingClause 1 = .ok (.getfield 34, 3) := by decide +kernel
theorem dX6_thingClause_4 : decode cX6_thingClause 4 = .ok (.iload_n 1, 1) := by decide +kernel
theorem dX6_thingClause_5 : decode cX6_thingClause 5 = .ok (.aload_n 0, 1) := by decide +kernel
theorem dX6_thingClause_6 : decode cX6_thingClause 6 = .ok (.bipush 45, 2) := by decide +kernel
theorem dX6_thingClause_8 : decode cX6_thingClause 8 = .ok (.invokevirtual 159, 3) := by decide +kernel
theorem dX6_thingClause_11 : decode cX6_thingClause 11 = .ok (.ifCond .eq 8, 3) := by decide +kernel
theorem dX6_thingClause_14 : decode cX6_thingClause 14 = .ok (.bipush 6, 2) := by decide +kernel
theorem dX6_thingClause_16 : decode cX6_thingClause 16 = .ok (.goto 8, 3) := by decide +kernel
theorem dX6_thingClause_19 : decode cX6_thingClause 19 = .ok (.aload_n 0, 1) := by decide +kernel
theorem dX6_thingClause_20 : decode cX6_thingClause 20 = .ok (.iconst 5, 1) := by decide +kernel
theorem dX6_thingClause_21 : decode cX6_thingClause 21 = .ok (.invokevirtual 162, 3) := by decide +kernel
theorem dX6_thingClause_24 : decode cX6_thingClause 24 = .ok (.iastore, 1) := by decide +kernel
theorem dX6_thingClause_25 : decode cX6_thingClause 25 = .ok (.iconst 1, 1) := by decide +kernel
theorem dX6_thingClause_26 : decode cX6_thingClause 26 = .ok (.istore_n 2, 1) := by decide +kernel
theorem dX6_thingClause_27 : decode cX6_thingClause 27 = .ok (.iload_n 2, 1) := by decide +kernel
theorem dX6_thingClause_28 : decode cX6_thingClause 28 = .ok (.bipush 7, 2) := by decide +kernel
theorem dX6_thingClause_30 : decode cX6_thingClause 30 = .ok (.if_icmp .ge 23, 3) := by decide +kernel
theorem dX6_thingClause_33 : decode cX6_thingClause 33 = .ok (.aload_n 0, 1) := by decide +kernel
theorem dX6_thingClause_34 : decode cX6_thingClause 34 = .ok (.getfield 34, 3) := by decide +kernel
theorem dX6_thingClause_37 : decode cX6_thingClause 37 = .ok (.iload_n 1, 1) := by decide +kernel
theorem dX6_thingClause_38 : decode cX6_thingClause 38 = .ok (.iload_n 2, 1) := by decide +kernel
theorem dX6_thingClause_39 : decode cX6_thingClause 39 = .ok (.iadd, 1) := by decide +kernel
theorem dX6_thingClause_40 : decode cX6_thingClause 40 = .ok (.aload_n 0, 1) := by decide +kernel
theorem dX6_thingClause_41 : decode cX6_thingClause 41 = .ok (.bipush 9, 2) := by decide +kernel
theorem dX6_thingClause_43 : decode cX6_thingClause 43 = .ok (.invokevirtual 162, 3) := by decide +kernel
theorem dX6_thingClause_46 : decode cX6_thingClause 46 = .ok (.iastore, 1) := by decide +kernel
theorem dX6_thingClause_47 : decode cX6_thingClause 47 = .ok (.iinc 2 1, 3) := by decide +kernel
theorem dX6_thingClause_50 : decode cX6_thingClause 50 = .ok (.goto (-23), 3) := by decide +kernel
theorem dX6_thingClause_53 : decode cX6_thingClause 53 = .ok (.return_, 1) := by decide +kernel
theorem dX6_side_0 : decode cX6_side 0 = .ok (.aload_n 0, 1) := by decide +kernel
theorem dX6_side_1 : decode cX6_side 1 = .ok (.getfield 150, 3) := by decide +kernel
theorem dX6_side_4 : decode cX6_side 4 = .ok (.ifCond .eq 7, 3) := by decide +kernel
theorem dX6_side_7 : decode cX6_side 7 = .ok (.iconst 0, 1) := by decide +kernel
theorem dX6_side_8 : decode cX6_side 8 = .ok (.goto 7, 3) := by decide +kernel
theorem dX6_side_11 : decode cX6_side 11 = .ok (.aload_n 0, 1) := by decide +kernel
theorem dX6_side_12 : decode cX6_side 12 = .ok (.invokevirtual 154, 3) := by decide +kernel
theorem dX6_side_15 : decode cX6_side 15 = .ok (.istore_n 2, 1) := by decide +kernel
theorem dX6_side_16 : decode cX6_side 16 = .ok (.iload_n 2, 1) := by decide +kernel
theorem dX6_side_17 : decode cX6_side 17 = .ok (.i2l, 1) := by decide +kernel
theorem dX6_side_18 : decode cX6_side 18 = .ok (.ldc2_w 165, 3) := by decide +kernel
theorem dX6_side_21 : decode cX6_side 21 = .ok (.ldc2_w 167, 3) := by decide +kernel
theorem dX6_side_24 : decode cX6_side 24 = .ok (.invokestatic 69, 3) := by decide +kernel
theorem dX6_side_27 : decode cX6_side 27 = .ok (.ifCond .eq 21, 3) := by decide +kernel
theorem dX6_side_30 : decode cX6_side 30 = .ok (.aload_n 0, 1) := by decide +kernel
theorem dX6_side_31 : decode cX6_side 31 = .ok (.iload_n 2, 1) := by decide +kernel
theorem dX6_side_32 : decode cX6_side 32 = .ok (.bipush 97, 2) := by decide +kernel
theorem dX6_side_34 : decode cX6_side 34 = .ok (.isub, 1) := by decide +kernel
theorem dX6_side_35 : decode cX6_side 35 = .ok (.invokevirtual 77, 3) := by decide +kernel
theorem dX6_side_38 : decode cX6_side 38 = .ok (.ifCond .eq 10, 3) := by decide +kernel
theorem dX6_side_41 : decode cX6_side 41 = .ok (.iload_n 2, 1) := by decide +kernel
theorem dX6_side_42 : decode cX6_side 42 = .ok (.bipush 97, 2) := by decide +kernel
theorem dX6_side_44 : decode cX6_side 44 = .ok (.isub, 1) := by decide +kernel
theorem dX6_side_45 : decode cX6_side 45 = .ok (.goto 26, 3) := by decide +kernel
theorem dX6_side_48 : decode cX6_side 48 = .ok (.iload_n 2, 1) := by decide +kernel
theorem dX6_side_49 : decode cX6_side 49 = .ok (.i2l, 1) := by decide +kernel
theorem dX6_side_50 : decode cX6_side 50 = .ok (.ldc2_w 157, 3) := by decide +kernel
theorem dX6_side_53 : decode cX6_side 53 = .ok (.ldc2_w 169, 3) := by decide +kernel
theorem dX6_side_56 : decode cX6_side 56 = .ok (.invokestatic 69, 3) := by decide +kernel
theorem dX6_side_59 : decode cX6_side 59 = .ok (.ifCond .eq 10, 3) := by decide +kernel
theorem dX6_side_62 : decode cX6_side 62 = .ok (.iload_n 2, 1) := by decide +kernel
theorem dX6_side_63 : decode cX6_side 63 = .ok (.bipush 38, 2) := by decide +kernel
theorem dX6_side_65 : decode cX6_side 65 = .ok (.isub, 1) := by decide +kernel
theorem dX6_side_66 : decode cX6_side 66 = .ok (.goto 5, 3) := by decide +kernel
theorem dX6_side_69 : decode cX6_side 69 = .ok (.bipush (-4), 2) := by decide +kernel
theorem dX6_side_71 : decode cX6_side 71 = .ok (.istore_n 3, 1) := by decide +kernel
theorem dX6_side_72 : decode cX6_side 72 = .ok (.aload_n 0, 1) := by decide +kernel
theorem dX6_side_73 : decode cX6_side 73 = .ok (.aload_n 0, 1) := by decide +kernel
theorem dX6_side_74 : decode cX6_side 74 = .ok (.getfield 150, 3) := by decide +kernel
theorem dX6_side_77 : decode cX6_side 77 = .ok (.ifCond .ne 12, 3) := by decide +kernel
theorem dX6_side_80 : decode cX6_side 80 = .ok (.iload_n 3, 1) := by decide +kernel
theorem dX6_side_81 : decode cX6_side 81 = .ok (.ifCond .lt 8, 3) := by decide +kernel
theorem dX6_side_84 : decode cX6_side 84 = .ok (.iload_n 3, 1) := by decide +kernel
theorem dX6_side_85 : decode cX6_side 85 = .ok (.iload_n 1, 1) := by decide +kernel
theorem dX6_side_86 : decode cX6_side 86 = .ok (.if_icmp .ne 7, 3) := by decide +kernel
theorem dX6_side_89 : decode cX6_side 89 = .ok (.iconst 1, 1) := by decide +kernel
theorem dX6_side_90 : decode cX6_side 90 = .ok (.goto 4, 3) := by decide +kernel
theorem dX6_side_93 : decode cX6_side 93 = .ok (.iconst 0, 1) := by decide +kernel
theorem dX6_side_94 : decode cX6_side 94 = .ok (.putfield 150, 3) := by decide +kernel
theorem dX6_side_97 : decode cX6_side 97 = .ok (.aload_n 0, 1) := by decide +kernel
theorem dX6_side_98 : decode cX6_side 98 = .ok (.dup, 1) := by decide +kernel
theorem dX6_side_99 : decode cX6_side 99 = .ok (.getfield 147, 3) := by decide +kernel
theorem dX6_side_102 : decode cX6_side 102 = .ok (.aload_n 0, 1) := by decide +kernel
theorem dX6_side_103 : decode cX6_side 103 = .ok (.getfield 150, 3) := by decide +kernel
theorem dX6_side_106 : decode cX6_side 106 = .ok (.ifCond .eq 7, 3) := by decide +kernel
theorem dX6_side_109 : decode cX6_side 109 = .ok (.iconst 0, 1) := by decide +kernel
theorem dX6_side_110 : decode cX6_side 110 = .ok (.goto 4, 3) := by decide +kernel
theorem dX6_side_113 : decode cX6_side 113 = .ok (.iconst 1, 1) := by decide +kernel
theorem dX6_side_114 : decode cX6_side 114 = .ok (.iadd, 1) := by decide +kernel
theorem dX6_side_115 : decode cX6_side 115 = .ok (.putfield 147, 3) := by decide +kernel
theorem dX6_side_118 : decode cX6_side 118 = .ok (.iload_n 3, 1) := by decide +kernel
theorem dX6_side_119 : decode cX6_side 119 = .ok (.ireturn, 1) := by decide +kernel
theorem dX6_readAll_0 : decode cX6_readAll 0 = .ok (.aload_n 0, 1) := by decide +kernel
theorem dX6_readAll_1 : decode cX6_readAll 1 = .ok (.iconst 0, 1) := by decide +kernel
theorem dX6_readAll_2 : decode cX6_readAll 2 = .ok (.putfield 147, 3) := by decide +kernel
theorem dX6_readAll_5 : decode cX6_readAll 5 = .ok (.aload_n 0, 1) := by decide +kernel
theorem dX6_readAll_6 : decode cX6_readAll 6 = .ok (.iconst 0, 1) := by decide +kernel
theorem dX6_readAll_7 : decode cX6_readAll 7 = .ok (.putfield 150, 3) := by decide +kernel
theorem dX6_readAll_10 : decode cX6_readAll 10 = .ok (.iconst 0, 1) := by decide +kernel
theorem dX6_readAll_11 : decode cX6_readAll 11 = .ok (.istore_n 2, 1) := by decide +kernel
theorem dX6_readAll_12 : decode cX6_readAll 12 = .ok (.iconst 1, 1) := by decide +kernel
theorem dX6_readAll_13 : decode cX6_readAll 13 = .ok (.istore_n 3, 1) := by decide +kernel
theorem dX6_readAll_14 : decode cX6_readAll 14 = .ok (.iload_n 3, 1) := by decide +kernel
theorem dX6_readAll_15 : decode cX6_readAll 15 = .ok (.ifCond .eq 99, 3) := by decide +kernel
theorem dX6_readAll_18 : decode cX6_readAll 18 = .ok (.iload_n 1, 1) := by decide +kernel
theorem dX6_readAll_19 : decode cX6_readAll 19 = .ok (.ifCond .eq 14, 3) := by decide +kernel
theorem dX6_readAll_22 : decode cX6_readAll 22 = .ok (.aload_n 0, 1) := by decide +kernel
theorem dX6_readAll_23 : decode cX6_readAll 23 = .ok (.bipush 7, 2) := by decide +kernel
theorem dX6_readAll_25 : decode cX6_readAll 25 = .ok (.iload_n 2, 1) := by decide +kernel
theorem dX6_readAll_26 : decode cX6_readAll 26 = .ok (.imul, 1) := by decide +kernel
theorem dX6_readAll_27 : decode cX6_readAll 27 = .ok (.invokevirtual 171, 3) := by decide +kernel
theorem dX6_readAll_30 : decode cX6_readAll 30 = .ok (.goto 39, 3) := by decide +kernel
theorem dX6_readAll_33 : decode cX6_readAll 33 = .ok (.aload_n 0, 1) := by decide +kernel
theorem dX6_readAll_34 : decode cX6_readAll 34 = .ok (.getfield 34, 3) := by decide +kernel
theorem dX6_readAll_37 : decode cX6_readAll 37 = .ok (.iconst 2, 1) := by decide +kernel
theorem dX6_readAll_38 : decode cX6_readAll 38 = .ok (.iload_n 2, 1) := by decide +kernel
theorem dX6_readAll_39 : decode cX6_readAll 39 = .ok (.imul, 1) := by decide +kernel
theorem dX6_readAll_40 : decode cX6_readAll 40 = .ok (.aload_n 0, 1) := by decide +kernel
theorem dX6_readAll_41 : decode cX6_readAll 41 = .ok (.bipush (-4), 2) := by decide +kernel
theorem dX6_readAll_43 : decode cX6_readAll 43 = .ok (.invokevirtual 175, 3) := by decide +kernel
theorem dX6_readAll_46 : decode cX6_readAll 46 = .ok (.iastore, 1) := by decide +kernel
theorem dX6_readAll_47 : decode cX6_readAll 47 = .ok (.aload_n 0, 1) := by decide +kernel
theorem dX6_readAll_48 : decode cX6_readAll 48 = .ok (.getfield 34, 3) := by decide +kernel
theorem dX6_readAll_51 : decode cX6_readAll 51 = .ok (.iconst 2, 1) := by decide +kernel
theorem dX6_readAll_52 : decode cX6_readAll 52 = .ok (.iload_n 2, 1) := by decide +kernel
theorem dX6_readAll_53 : decode cX6_readAll 53 = .ok (.imul, 1) := by decide +kernel
theorem dX6_readAll_54 : decode cX6_readAll 54 = .ok (.iconst 1, 1) := by decide +kernel
theorem dX6_readAll_55 : decode cX6_readAll 55 = .ok (.iadd, 1) := by decide +kernel
theorem dX6_readAll_56 : decode cX6_readAll 56 = .ok (.aload_n 0, 1) := by decide +kernel
theorem dX6_readAll_57 : decode cX6_readAll 57 = .ok (.aload_n 0, 1) := by decide +kernel
theorem dX6_readAll_58 : decode cX6_readAll 58 = .ok (.getfield 34, 3) := by decide +kernel
theorem dX6_readAll_61 : decode cX6_readAll 61 = .ok (.iconst 2, 1) := by decide +kernel
theorem dX6_readAll_62 : decode cX6_readAll 62 = .ok (.iload_n 2, 1) := by decide +kernel
theorem dX6_readAll_63 : decode cX6_readAll 63 = .ok (.imul, 1) := by decide +kernel
theorem dX6_readAll_64 : decode cX6_readAll 64 = .ok (.iaload, 1) := by decide +kernel
theorem dX6_readAll_65 : decode cX6_readAll 65 = .ok (.invokevirtual 175, 3) := by decide +kernel
theorem dX6_readAll_68 : decode cX6_readAll 68 = .ok (.iastore, 1) := by decide +kernel
theorem dX6_readAll_69 : decode cX6_readAll 69 = .ok (.iinc 2 1, 3) := by decide +kernel
theorem dX6_readAll_72 : decode cX6_readAll 72 = .ok (.iload_n 2, 1) := by decide +kernel
theorem dX6_readAll_73 : decode cX6_readAll 73 = .ok (.iload_n 1, 1) := by decide +kernel
theorem dX6_readAll_74 : decode cX6_readAll 74 = .ok (.ifCond .eq 8, 3) := by decide +kernel
theorem dX6_readAll_77 : decode cX6_readAll 77 = .ok (.bipush 8, 2) := by decide +kernel
theorem dX6_readAll_79 : decode cX6_readAll 79 = .ok (.goto 5, 3) := by decide +kernel
theorem dX6_readAll_82 : decode cX6_readAll 82 = .ok (.bipush 12, 2) := by decide +kernel
theorem dX6_readAll_84 : decode cX6_readAll 84 = .ok (.if_icmp .ge 25, 3) := by decide +kernel
theorem dX6_readAll_87 : decode cX6_readAll 87 = .ok (.aload_n 0, 1) := by decide +kernel
theorem dX6_readAll_88 : decode cX6_readAll 88 = .ok (.iload_n 1, 1) := by decide +kernel
theorem dX6_readAll_89 : decode cX6_readAll 89 = .ok (.ifCond .eq 8, 3) := by decide +kernel
theorem dX6_readAll_92 : decode cX6_readAll 92 = .ok (.bipush 59, 2) := by decide +kernel
theorem dX6_readAll_94 : decode cX6_readAll 94 = .ok (.goto 5, 3) := by decide +kernel
theorem dX6_readAll_97 : decode cX6_readAll 97 = .ok (.bipush 44, 2) := by decide +kernel
theorem dX6_readAll_99 : decode cX6_readAll 99 = .ok (.invokevirtual 159, 3) := by decide +kernel
theorem dX6_readAll_102 : decode cX6_readAll 102 = .ok (.ifCond .eq 7, 3) := by decide +kernel
theorem dX6_readAll_105 : decode cX6_readAll 105 = .ok (.iconst 1, 1) := by decide +kernel
theorem dX6_readAll_106 : decode cX6_readAll 106 = .ok (.goto 4, 3) := by decide +kernel
theorem dX6_readAll_109 : decode cX6_readAll 109 = .ok (.iconst 0, 1) := by decide +kernel
theorem dX6_readAll_110 : decode cX6_readAll 110 = .ok (.istore_n 3, 1) := by decide +kernel
theorem dX6_readAll_111 : decode cX6_readAll 111 = .ok (.goto (-97), 3) := by decide +kernel
theorem dX6_readAll_114 : decode cX6_readAll 114 = .ok (.aload_n 0, 1) := by decide +kernel
theorem dX6_readAll_115 : decode cX6_readAll 115 = .ok (.aload_n 0, 1) := by decide +kernel
theorem dX6_readAll_116 : decode cX6_readAll 116 = .ok (.getfield 150, 3) := by decide +kernel
theorem dX6_readAll_119 : decode cX6_readAll 119 = .ok (.ifCond .ne 10, 3) := by decide +kernel
theorem dX6_readAll_122 : decode cX6_readAll 122 = .ok (.aload_n 0, 1) := by decide +kernel
theorem dX6_readAll_123 : decode cX6_readAll 123 = .ok (.invokevirtual 154, 3) := by decide +kernel
theorem dX6_readAll_126 : decode cX6_readAll 126 = .ok (.ifCond .eq 7, 3) := by decide +kernel
theorem dX6_readAll_129 : decode cX6_readAll 129 = .ok (.iconst 1, 1) := by decide +kernel
theorem dX6_readAll_130 : decode cX6_readAll 130 = .ok (.goto 4, 3) := by decide +kernel
theorem dX6_readAll_133 : decode cX6_readAll 133 = .ok (.iconst 0, 1) := by decide +kernel
theorem dX6_readAll_134 : decode cX6_readAll 134 = .ok (.putfield 150, 3) := by decide +kernel
theorem dX6_readAll_137 : decode cX6_readAll 137 = .ok (.aload_n 0, 1) := by decide +kernel
theorem dX6_readAll_138 : decode cX6_readAll 138 = .ok (.iconst 0, 1) := by decide +kernel
theorem dX6_readAll_139 : decode cX6_readAll 139 = .ok (.putfield 144, 3) := by decide +kernel
theorem dX6_readAll_142 : decode cX6_readAll 142 = .ok (.aload_n 0, 1) := by decide +kernel
theorem dX6_readAll_143 : decode cX6_readAll 143 = .ok (.getfield 150, 3) := by decide +kernel
theorem dX6_readAll_146 : decode cX6_readAll 146 = .ok (.ifCond .eq 13, 3) := by decide +kernel
theorem dX6_readAll_149 : decode cX6_readAll 149 = .ok (.bipush (-20), 2) := by decide +kernel
theorem dX6_readAll_151 : decode cX6_readAll 151 = .ok (.aload_n 0, 1) := by decide +kernel
theorem dX6_readAll_152 : decode cX6_readAll 152 = .ok (.getfield 147, 3) := by decide +kernel
theorem dX6_readAll_155 : decode cX6_readAll 155 = .ok (.isub, 1) := by decide +kernel
theorem dX6_readAll_156 : decode cX6_readAll 156 = .ok (.goto 4, 3) := by decide +kernel
theorem dX6_readAll_159 : decode cX6_readAll 159 = .ok (.iload_n 2, 1) := by decide +kernel
theorem dX6_readAll_160 : decode cX6_readAll 160 = .ok (.ireturn, 1) := by decide +kernel
theorem dX6_village_0 : decode cX6_village 0 = .ok (.aload_n 0, 1) := by decide +kernel
theorem dX6_village_1 : decode cX6_village 1 = .ok (.iconst 1, 1) := by decide +kernel
theorem dX6_village_2 : decode cX6_village 2 = .ok (.invokevirtual 178, 3) := by decide +kernel
theorem dX6_village_5 : decode cX6_village 5 = .ok (.istore_n 1, 1) := by decide +kernel
theorem dX6_village_6 : decode cX6_village 6 = .ok (.iload_n 1, 1) := by decide +kernel
theorem dX6_village_7 : decode cX6_village 7 = .ok (.ifCond .le 18, 3) := by decide +kernel
theorem dX6_village_10 : decode cX6_village 10 = .ok (.aload_n 0, 1) := by decide +kernel
theorem dX6_village_11 : decode cX6_village 11 = .ok (.iload_n 1, 1) := by decide +kernel
theorem dX6_village_12 : decode cX6_village 12 = .ok (.putfield 73, 3) := by decide +kernel
theorem dX6_village_15 : decode cX6_village 15 = .ok (.aload_n 0, 1) := by decide +kernel
theorem dX6_village_16 : decode cX6_village 16 = .ok (.iconst 0, 1) := by decide +kernel
theorem dX6_village_17 : decode cX6_village 17 = .ok (.putfield 88, 3) := by decide +kernel
theorem dX6_village_20 : decode cX6_village 20 = .ok (.aload_n 0, 1) := by decide +kernel
theorem dX6_village_21 : decode cX6_village 21 = .ok (.iconst 0, 1) := by decide +kernel
theorem dX6_village_22 : decode cX6_village 22 = .ok (.putfield 85, 3) := by decide +kernel
theorem dX6_village_25 : decode cX6_village 25 = .ok (.iconst 0, 1) := by decide +kernel
theorem dX6_village_26 : decode cX6_village 26 = .ok (.istore_n 2, 1) := by decide +kernel
theorem dX6_village_27 : decode cX6_village 27 = .ok (.iload_n 2, 1) := by decide +kernel
theorem dX6_village_28 : decode cX6_village 28 = .ok (.iload_n 1, 1) := by decide +kernel
theorem dX6_village_29 : decode cX6_village 29 = .ok (.if_icmp .ge 62, 3) := by decide +kernel
theorem dX6_village_32 : decode cX6_village 32 = .ok (.aload_n 0, 1) := by decide +kernel
theorem dX6_village_33 : decode cX6_village 33 = .ok (.getfield 19, 3) := by decide +kernel
theorem dX6_village_36 : decode cX6_village 36 = .ok (.iload_n 2, 1) := by decide +kernel
theorem dX6_village_37 : decode cX6_village 37 = .ok (.aload_n 0, 1) := by decide +kernel
theorem dX6_village_38 : decode cX6_village 38 = .ok (.getfield 34, 3) := by decide +kernel
theorem dX6_village_41 : decode cX6_village 41 = .ok (.bipush 7, 2) := by decide +kernel
theorem dX6_village_43 : decode cX6_village 43 = .ok (.iload_n 2, 1) := by decide +kernel
theorem dX6_village_44 : decode cX6_village 44 = .ok (.imul, 1) := by decide +kernel
theorem dX6_village_45 : decode cX6_village 45 = .ok (.iaload, 1) := by decide +kernel
theorem dX6_village_46 : decode cX6_village 46 = .ok (.iastore, 1) := by decide +kernel
theorem dX6_village_47 : decode cX6_village 47 = .ok (.iconst 0, 1) := by decide +kernel
theorem dX6_village_48 : decode cX6_village 48 = .ok (.istore_n 3, 1) := by decide +kernel
theorem dX6_village_49 : decode cX6_village 49 = .ok (.iload_n 3, 1) := by decide +kernel
theorem dX6_village_50 : decode cX6_village 50 = .ok (.bipush 6, 2) := by decide +kernel
theorem dX6_village_52 : decode cX6_village 52 = .ok (.if_icmp .ge 33, 3) := by decide +kernel
theorem dX6_village_55 : decode cX6_village 55 = .ok (.aload_n 0, 1) := by decide +kernel
theorem dX6_village_56 : decode cX6_village 56 = .ok (.getfield 22, 3) := by decide +kernel
theorem dX6_village_59 : decode cX6_village 59 = .ok (.bipush 6, 2) := by decide +kernel
theorem dX6_village_61 : decode cX6_village 61 = .ok (.iload_n 2, 1) := by decide +kernel
theorem dX6_village_62 : decode cX6_village 62 = .ok (.imul, 1) := by decide +kernel
theorem dX6_village_63 : decode cX6_village 63 = .ok (.iload_n 3, 1) := by decide +kernel
theorem dX6_village_64 : decode cX6_village 64 = .ok (.iadd, 1) := by decide +kernel
theorem dX6_village_65 : decode cX6_village 65 = .ok (.aload_n 0, 1) := by decide +kernel
theorem dX6_village_66 : decode cX6_village 66 = .ok (.getfield 34, 3) := by decide +kernel
theorem dX6_village_69 : decode cX6_village 69 = .ok (.bipush 7, 2) := by decide +kernel
theorem dX6_village_71 : decode cX6_village 71 = .ok (.iload_n 2, 1) := by decide +kernel
theorem dX6_village_72 : decode cX6_village 72 = .ok (.imul, 1) := by decide +kernel
theorem dX6_village_73 : decode cX6_village 73 = .ok (.iconst 1, 1) := by decide +kernel
theorem dX6_village_74 : decode cX6_village 74 = .ok (.iadd, 1) := by decide +kernel
theorem dX6_village_75 : decode cX6_village 75 = .ok (.iload_n 3, 1) := by decide +kernel
theorem dX6_village_76 : decode cX6_village 76 = .ok (.iadd, 1) := by decide +kernel
theorem dX6_village_77 : decode cX6_village 77 = .ok (.iaload, 1) := by decide +kernel
theorem dX6_village_78 : decode cX6_village 78 = .ok (.iastore, 1) := by decide +kernel
theorem dX6_village_79 : decode cX6_village 79 = .ok (.iinc 3 1, 3) := by decide +kernel
theorem dX6_village_82 : decode cX6_village 82 = .ok (.goto (-33), 3) := by decide +kernel
theorem dX6_village_85 : decode cX6_village 85 = .ok (.iinc 2 1, 3) := by decide +kernel
theorem dX6_village_88 : decode cX6_village 88 = .ok (.goto (-61), 3) := by decide +kernel
theorem dX6_village_91 : decode cX6_village 91 = .ok (.iload_n 1, 1) := by decide +kernel
theorem dX6_village_92 : decode cX6_village 92 = .ok (.ireturn, 1) := by decide +kernel
theorem dX6_suits_0 : decode cX6_suits 0 = .ok (.aload_n 0, 1) := by decide +kernel
theorem dX6_suits_1 : decode cX6_suits 1 = .ok (.iconst 0, 1) := by decide +kernel
theorem dX6_suits_2 : decode cX6_suits 2 = .ok (.invokevirtual 178, 3) := by decide +kernel
theorem dX6_suits_5 : decode cX6_suits 5 = .ok (.istore_n 1, 1) := by decide +kernel
theorem dX6_suits_6 : decode cX6_suits 6 = .ok (.iload_n 1, 1) := by decide +kernel
theorem dX6_suits_7 : decode cX6_suits 7 = .ok (.ifCond .le 17, 3) := by decide +kernel
theorem dX6_suits_10 : decode cX6_suits 10 = .ok (.aload_n 0, 1) := by decide +kernel
theorem dX6_suits_11 : decode cX6_suits 11 = .ok (.getfield 88, 3) := by decide +kernel
theorem dX6_suits_14 : decode cX6_suits 14 = .ok (.iload_n 1, 1) := by decide +kernel
theorem dX6_suits_15 : decode cX6_suits 15 = .ok (.iadd, 1) := by decide +kernel
theorem dX6_suits_16 : decode cX6_suits 16 = .ok (.bipush 12, 2) := by decide +kernel
theorem dX6_suits_18 : decode cX6_suits 18 = .ok (.if_icmp .le 6, 3) := by decide +kernel
theorem dX6_suits_21 : decode cX6_suits 21 = .ok (.bipush (-3), 2) := by decide +kernel
theorem dX6_suits_23 : decode cX6_suits 23 = .ok (.ireturn, 1) := by decide +kernel
theorem dX6_suits_24 : decode cX6_suits 24 = .ok (.iconst 0, 1) := by decide +kernel
theorem dX6_suits_25 : decode cX6_suits 25 = .ok (.istore_n 2, 1) := by decide +kernel
theorem dX6_suits_26 : decode cX6_suits 26 = .ok (.iload_n 2, 1) := by decide +kernel
theorem dX6_suits_27 : decode cX6_suits 27 = .ok (.iload_n 1, 1) := by decide +kernel
theorem dX6_suits_28 : decode cX6_suits 28 = .ok (.if_icmp .ge 32, 3) := by decide +kernel
theorem dX6_suits_31 : decode cX6_suits 31 = .ok (.aload_n 0, 1) := by decide +kernel
theorem dX6_suits_32 : decode cX6_suits 32 = .ok (.aload_n 0, 1) := by decide +kernel
theorem dX6_suits_33 : decode cX6_suits 33 = .ok (.getfield 34, 3) := by decide +kernel
theorem dX6_suits_36 : decode cX6_suits 36 = .ok (.iconst 2, 1) := by decide +kernel
theorem dX6_suits_37 : decode cX6_suits 37 = .ok (.iload_n 2, 1) := by decide +kernel
theorem dX6_suits_38 : decode cX6_suits 38 = .ok (.imul, 1) := by decide +kernel
theorem dX6_suits_39 : decode cX6_suits 39 = .ok (.iaload, 1) := by decide +kernel
theorem dX6_suits_40 : decode cX6_suits 40 = .ok (.aload_n 0, 1) := by decide +kernel
theorem dX6_suits_41 : decode cX6_suits 41 = .ok (.getfield 34, 3) := by decide +kernel
theorem dX6_suits_44 : decode cX6_suits 44 = .ok (.iconst 2, 1) := by decide +kernel
theorem dX6_suits_45 : decode cX6_suits 45 = .ok (.iload_n 2, 1) := by decide +kernel
theorem dX6_suits_46 : decode cX6_suits 46 = .ok (.imul, 1) := by decide +kernel
theorem dX6_suits_47 : decode cX6_suits 47 = .ok (.iconst 1, 1) := by decide +kernel
theorem dX6_suits_48 : decode cX6_suits 48 = .ok (.iadd, 1) := by decide +kernel
theorem dX6_suits_49 : decode cX6_suits 49 = .ok (.iaload, 1) := by decide +kernel
theorem dX6_suits_50 : decode cX6_suits 50 = .ok (.invokevirtual 114, 3) := by decide +kernel
theorem dX6_suits_53 : decode cX6_suits 53 = .ok (.pop, 1) := by decide +kernel
theorem dX6_suits_54 : decode cX6_suits 54 = .ok (.iinc 2 1, 3) := by decide +kernel
theorem dX6_suits_57 : decode cX6_suits 57 = .ok (.goto (-31), 3) := by decide +kernel
theorem dX6_suits_60 : decode cX6_suits 60 = .ok (.iload_n 1, 1) := by decide +kernel
theorem dX6_suits_61 : decode cX6_suits 61 = .ok (.ireturn, 1) := by decide +kernel
theorem dX6_stay_0 : decode cX6_stay 0 = .ok (.iconst 0, 1) := by decide +kernel
theorem dX6_stay_1 : decode cX6_stay 1 = .ok (.istore_n 2, 1) := by decide +kernel
theorem dX6_stay_2 : decode cX6_stay 2 = .ok (.iload_n 2, 1) := by decide +kernel
theorem dX6_stay_3 : decode cX6_stay 3 = .ok (.aload_n 0, 1) := by decide +kernel
theorem dX6_stay_4 : decode cX6_stay 4 = .ok (.getfield 88, 3) := by decide +kernel
theorem dX6_stay_7 : decode cX6_stay 7 = .ok (.if_icmp .ge 114, 3) := by decide +kernel
theorem dX6_stay_10 : decode cX6_stay 10 = .ok (.aload_n 0, 1) := by decide +kernel
theorem dX6_stay_11 : decode cX6_stay 11 = .ok (.getfield 16, 3) := by decide +kernel
theorem dX6_stay_14 : decode cX6_stay 14 = .ok (.iconst 0, 1) := by decide +kernel
theorem dX6_stay_15 : decode cX6_stay 15 = .ok (.iaload, 1) := by decide +kernel
theorem dX6_stay_16 : decode cX6_stay 16 = .ok (.iconst 1, 1) := by decide +kernel
theorem dX6_stay_17 : decode cX6_stay 17 = .ok (.if_icmp .ne 104, 3) := by decide +kernel
theorem dX6_stay_20 : decode cX6_stay 20 = .ok (.aload_n 0, 1) := by decide +kernel
theorem dX6_stay_21 : decode cX6_stay 21 = .ok (.getfield 19, 3) := by decide +kernel
theorem dX6_stay_24 : decode cX6_stay 24 = .ok (.iload_n 1, 1) := by decide +kernel
theorem dX6_stay_25 : decode cX6_stay 25 = .ok (.iaload, 1) := by decide +kernel
theorem dX6_stay_26 : decode cX6_stay 26 = .ok (.bipush 6, 2) := by decide +kernel
theorem dX6_stay_28 : decode cX6_stay 28 = .ok (.if_icmp .eq 93, 3) := by decide +kernel
theorem dX6_stay_31 : decode cX6_stay 31 = .ok (.aload_n 0, 1) := by decide +kernel
theorem dX6_stay_32 : decode cX6_stay 32 = .ok (.getfield 25, 3) := by decide +kernel
theorem dX6_stay_35 : decode cX6_stay 35 = .ok (.iload_n 2, 1) := by decide +kernel
theorem dX6_stay_36 : decode cX6_stay 36 = .ok (.aload_n 0, 1) := by decide +kernel
theorem dX6_stay_37 : decode cX6_stay 37 = .ok (.iload_n 2, 1) := by decide +kernel
theorem dX6_stay_38 : decode cX6_stay 38 = .ok (.invokevirtual 95, 3) := by decide +kernel
theorem dX6_stay_41 : decode cX6_stay 41 = .ok (.ifCond .ne 25, 3) := by decide +kernel
theorem dX6_stay_44 : decode cX6_stay 44 = .ok (.aload_n 0, 1) := by decide +kernel
theorem dX6_stay_45 : decode cX6_stay 45 = .ok (.getfield 25, 3) := by decide +kernel
theorem dX6_stay_48 : decode cX6_stay 48 = .ok (.iload_n 2, 1) := by decide +kernel
theorem dX6_stay_49 : decode cX6_stay 49 = .ok (.iaload, 1) := by decide +kernel
theorem dX6_stay_50 : decode cX6_stay 50 = .ok (.iload_n 1, 1) := by decide +kernel
theorem dX6_stay_51 : decode cX6_stay 51 = .ok (.if_icmp .ne 15, 3) := by decide +kernel
theorem dX6_stay_54 : decode cX6_stay 54 = .ok (.bipush 10, 2) := by decide +kernel
theorem dX6_stay_56 : decode cX6_stay 56 = .ok (.aload_n 0, 1) := by decide +kernel
theorem dX6_stay_57 : decode cX6_stay 57 = .ok (.getfield 19, 3) := by decide +kernel
theorem dX6_stay_60 : decode cX6_stay 60 = .ok (.iload_n 1, 1) := by decide +kernel
theorem dX6_stay_61 : decode cX6_stay 61 = .ok (.iaload, 1) := by decide +kernel
theorem dX6_stay_62 : decode cX6_stay 62 = .ok (.iadd, 1) := by decide +kernel
theorem dX6_stay_63 : decode cX6_stay 63 = .ok (.goto 9, 3) := by decide +kernel
theorem dX6_stay_66 : decode cX6_stay 66 = .ok (.aload_n 0, 1) := by decide +kernel
theorem dX6_stay_67 : decode cX6_stay 67 = .ok (.getfield 25, 3) := by decide +kernel
theorem dX6_stay_70 : decode cX6_stay 70 = .ok (.iload_n 2, 1) := by decide +kernel
theorem dX6_stay_71 : decode cX6_stay 71 = .ok (.iaload, 1) := by decide +kernel
theorem dX6_stay_72 : decode cX6_stay 72 = .ok (.iastore, 1) := by decide +kernel
theorem dX6_stay_73 : decode cX6_stay 73 = .ok (.aload_n 0, 1) := by decide +kernel
theorem dX6_stay_74 : decode cX6_stay 74 = .ok (.getfield 28, 3) := by decide +kernel
theorem dX6_stay_77 : decode cX6_stay 77 = .ok (.iload_n 2, 1) := by decide +kernel
theorem dX6_stay_78 : decode cX6_stay 78 = .ok (.aload_n 0, 1) := by decide +kernel
theorem dX6_stay_79 : decode cX6_stay 79 = .ok (.iload_n 2, 1) := by decide +kernel
theorem dX6_stay_80 : decode cX6_stay 80 = .ok (.invokevirtual 95, 3) := by decide +kernel
theorem dX6_stay_83 : decode cX6_stay 83 = .ok (.ifCond .ne 25, 3) := by decide +kernel
theorem dX6_stay_86 : decode cX6_stay 86 = .ok (.aload_n 0, 1) := by decide +kernel
theorem dX6_stay_87 : decode cX6_stay 87 = .ok (.getfield 28, 3) := by decide +kernel
theorem dX6_stay_90 : decode cX6_stay 90 = .ok (.iload_n 2, 1) := by decide +kernel
theorem dX6_stay_91 : decode cX6_stay 91 = .ok (.iaload, 1) := by decide +kernel
theorem dX6_stay_92 : decode cX6_stay 92 = .ok (.iload_n 1, 1) := by decide +kernel
theorem dX6_stay_93 : decode cX6_stay 93 = .ok (.if_icmp .ne 15, 3) := by decide +kernel
theorem dX6_stay_96 : decode cX6_stay 96 = .ok (.bipush 10, 2) := by decide +kernel
theorem dX6_stay_98 : decode cX6_stay 98 = .ok (.aload_n 0, 1) := by decide +kernel
theorem dX6_stay_99 : decode cX6_stay 99 = .ok (.getfield 19, 3) := by decide +kernel
theorem dX6_stay_102 : decode cX6_stay 102 = .ok (.iload_n 1, 1) := by decide +kernel
theorem dX6_stay_103 : decode cX6_stay 103 = .ok (.iaload, 1) := by decide +kernel
theorem dX6_stay_104 : decode cX6_stay 104 = .ok (.iadd, 1) := by decide +kernel
theorem dX6_stay_105 : decode cX6_stay 105 = .ok (.goto 9, 3) := by decide +kernel
theorem dX6_stay_108 : decode cX6_stay 108 = .ok (.aload_n 0, 1) := by decide +kernel
theorem dX6_stay_109 : decode cX6_stay 109 = .ok (.getfield 28, 3) := by decide +kernel
theorem dX6_stay_112 : decode cX6_stay 112 = .ok (.iload_n 2, 1) := by decide +kernel
theorem dX6_stay_113 : decode cX6_stay 113 = .ok (.iaload, 1) := by decide +kernel
theorem dX6_stay_114 : decode cX6_stay 114 = .ok (.iastore, 1) := by decide +kernel
theorem dX6_stay_115 : decode cX6_stay 115 = .ok (.iinc 2 1, 3) := by decide +kernel
theorem dX6_stay_118 : decode cX6_stay 118 = .ok (.goto (-116), 3) := by decide +kernel
theorem dX6_stay_121 : decode cX6_stay 121 = .ok (.return_, 1) := by decide +kernel
theorem dX6_sells_0 : decode cX6_sells 0 = .ok (.aload_n 0, 1) := by decide +kernel
theorem dX6_sells_1 : decode cX6_sells 1 = .ok (.iload_n 1, 1) := by decide +kernel
theorem dX6_sells_2 : decode cX6_sells 2 = .ok (.invokevirtual 182, 3) := by decide +kernel
theorem dX6_sells_5 : decode cX6_sells 5 = .ok (.aload_n 0, 1) := by decide +kernel
theorem dX6_sells_6 : decode cX6_sells 6 = .ok (.getfield 19, 3) := by decide +kernel
theorem dX6_sells_9 : decode cX6_sells 9 = .ok (.iload_n 1, 1) := by decide +kernel
theorem dX6_sells_10 : decode cX6_sells 10 = .ok (.iload_n 2, 1) := by decide +kernel
theorem dX6_sells_11 : decode cX6_sells 11 = .ok (.iastore, 1) := by decide +kernel
theorem dX6_sells_12 : decode cX6_sells 12 = .ok (.aload_n 0, 1) := by decide +kernel
theorem dX6_sells_13 : decode cX6_sells 13 = .ok (.invokevirtual 105, 3) := by decide +kernel
theorem dX6_sells_16 : decode cX6_sells 16 = .ok (.ireturn, 1) := by decide +kernel
theorem dX6_comesTo_0 : decode cX6_comesTo 0 = .ok (.iload_n 1, 1) := by decide +kernel
theorem dX6_comesTo_1 : decode cX6_comesTo 1 = .ok (.bipush 6, 2) := by decide +kernel
theorem dX6_comesTo_3 : decode cX6_comesTo 3 = .ok (.if_icmp .eq 37, 3) := by decide +kernel
theorem dX6_comesTo_6 : decode cX6_comesTo 6 = .ok (.aload_n 0, 1) := by decide +kernel
theorem dX6_comesTo_7 : decode cX6_comesTo 7 = .ok (.getfield 7, 3) := by decide +kernel
theorem dX6_comesTo_10 : decode cX6_comesTo 10 = .ok (.iload_n 1, 1) := by decide +kernel
theorem dX6_comesTo_11 : decode cX6_comesTo 11 = .ok (.aload_n 0, 1) := by decide +kernel
theorem dX6_comesTo_12 : decode cX6_comesTo 12 = .ok (.getfield 7, 3) := by decide +kernel
theorem dX6_comesTo_15 : decode cX6_comesTo 15 = .ok (.iload_n 1, 1) := by decide +kernel
theorem dX6_comesTo_16 : decode cX6_comesTo 16 = .ok (.iaload, 1) := by decide +kernel
theorem dX6_comesTo_17 : decode cX6_comesTo 17 = .ok (.iload_n 2, 1) := by decide +kernel
theorem dX6_comesTo_18 : decode cX6_comesTo 18 = .ok (.iadd, 1) := by decide +kernel
theorem dX6_comesTo_19 : decode cX6_comesTo 19 = .ok (.sipush 9999, 3) := by decide +kernel
theorem dX6_comesTo_22 : decode cX6_comesTo 22 = .ok (.if_icmp .le 9, 3) := by decide +kernel
theorem dX6_comesTo_25 : decode cX6_comesTo 25 = .ok (.sipush 9999, 3) := by decide +kernel
theorem dX6_comesTo_28 : decode cX6_comesTo 28 = .ok (.goto 11, 3) := by decide +kernel
theorem dX6_comesTo_31 : decode cX6_comesTo 31 = .ok (.aload_n 0, 1) := by decide +kernel
theorem dX6_comesTo_32 : decode cX6_comesTo 32 = .ok (.getfield 7, 3) := by decide +kernel
theorem dX6_comesTo_35 : decode cX6_comesTo 35 = .ok (.iload_n 1, 1) := by decide +kernel
theorem dX6_comesTo_36 : decode cX6_comesTo 36 = .ok (.iaload, 1) := by decide +kernel
theorem dX6_comesTo_37 : decode cX6_comesTo 37 = .ok (.iload_n 2, 1) := by decide +kernel
theorem dX6_comesTo_38 : decode cX6_comesTo 38 = .ok (.iadd, 1) := by decide +kernel
theorem dX6_comesTo_39 : decode cX6_comesTo 39 = .ok (.iastore, 1) := by decide +kernel
theorem dX6_comesTo_40 : decode cX6_comesTo 40 = .ok (.return_, 1) := by decide +kernel
theorem dX6_sale_0 : decode cX6_sale 0 = .ok (.aload_n 0, 1) := by decide +kernel
theorem dX6_sale_1 : decode cX6_sale 1 = .ok (.iload_n 1, 1) := by decide +kernel
theorem dX6_sale_2 : decode cX6_sale 2 = .ok (.invokevirtual 77, 3) := by decide +kernel
theorem dX6_sale_5 : decode cX6_sale 5 = .ok (.ifCond .eq 22, 3) := by decide +kernel
theorem dX6_sale_8 : decode cX6_sale 8 = .ok (.iload_n 2, 1) := by decide +kernel
theorem dX6_sale_9 : decode cX6_sale 9 = .ok (.invokestatic 98, 3) := by decide +kernel
theorem dX6_sale_12 : decode cX6_sale 12 = .ok (.ifCond .eq 15, 3) := by decide +kernel
theorem dX6_sale_15 : decode cX6_sale 15 = .ok (.iload_n 3, 1) := by decide +kernel
theorem dX6_sale_16 : decode cX6_sale 16 = .ok (.i2l, 1) := by decide +kernel
theorem dX6_sale_17 : decode cX6_sale 17 = .ok (.lconst 0, 1) := by decide +kernel
theorem dX6_sale_18 : decode cX6_sale 18 = .ok (.ldc2_w 101, 3) := by decide +kernel
theorem dX6_sale_21 : decode cX6_sale 21 = .ok (.invokestatic 69, 3) := by decide +kernel
theorem dX6_sale_24 : decode cX6_sale 24 = .ok (.ifCond .ne 5, 3) := by decide +kernel
theorem dX6_sale_27 : decode cX6_sale 27 = .ok (.iconst (-1), 1) := by decide +kernel
theorem dX6_sale_28 : decode cX6_sale 28 = .ok (.ireturn, 1) := by decide +kernel
theorem dX6_sale_29 : decode cX6_sale 29 = .ok (.aload_n 0, 1) := by decide +kernel
theorem dX6_sale_30 : decode cX6_sale 30 = .ok (.getfield 19, 3) := by decide +kernel
theorem dX6_sale_33 : decode cX6_sale 33 = .ok (.iload_n 1, 1) := by decide +kernel
theorem dX6_sale_34 : decode cX6_sale 34 = .ok (.iaload, 1) := by decide +kernel
theorem dX6_sale_35 : decode cX6_sale 35 = .ok (.iload_n 2, 1) := by decide +kernel
theorem dX6_sale_36 : decode cX6_sale 36 = .ok (.if_icmp .eq 13, 3) := by decide +kernel
theorem dX6_sale_39 : decode cX6_sale 39 = .ok (.aload_n 0, 1) := by decide +kernel
theorem dX6_sale_40 : decode cX6_sale 40 = .ok (.getfield 7, 3) := by decide +kernel
theorem dX6_sale_43 : decode cX6_sale 43 = .ok (.iload_n 2, 1) := by decide +kernel
theorem dX6_sale_44 : decode cX6_sale 44 = .ok (.iaload, 1) := by decide +kernel
theorem dX6_sale_45 : decode cX6_sale 45 = .ok (.iload_n 3, 1) := by decide +kernel
theorem dX6_sale_46 : decode cX6_sale 46 = .ok (.if_icmp .ge 6, 3) := by decide +kernel
theorem dX6_sale_49 : decode cX6_sale 49 = .ok (.bipush (-2), 2) := by decide +kernel
theorem dX6_sale_51 : decode cX6_sale 51 = .ok (.ireturn, 1) := by decide +kernel
theorem dX6_sale_52 : decode cX6_sale 52 = .ok (.aload_n 0, 1) := by decide +kernel
theorem dX6_sale_53 : decode cX6_sale 53 = .ok (.getfield 7, 3) := by decide +kernel
theorem dX6_sale_56 : decode cX6_sale 56 = .ok (.iload_n 2, 1) := by decide +kernel
theorem dX6_sale_57 : decode cX6_sale 57 = .ok (.dup2, 1) := by decide +kernel
theorem dX6_sale_58 : decode cX6_sale 58 = .ok (.iaload, 1) := by decide +kernel
theorem dX6_sale_59 : decode cX6_sale 59 = .ok (.iload_n 3, 1) := by decide +kernel
theorem dX6_sale_60 : decode cX6_sale 60 = .ok (.isub, 1) := by decide +kernel
theorem dX6_sale_61 : decode cX6_sale 61 = .ok (.iastore, 1) := by decide +kernel
theorem dX6_sale_62 : decode cX6_sale 62 = .ok (.aload_n 0, 1) := by decide +kernel
theorem dX6_sale_63 : decode cX6_sale 63 = .ok (.aload_n 0, 1) := by decide +kernel
theorem dX6_sale_64 : decode cX6_sale 64 = .ok (.getfield 19, 3) := by decide +kernel
theorem dX6_sale_67 : decode cX6_sale 67 = .ok (.iload_n 1, 1) := by decide +kernel
theorem dX6_sale_68 : decode cX6_sale 68 = .ok (.iaload, 1) := by decide +kernel
theorem dX6_sale_69 : decode cX6_sale 69 = .ok (.iload_n 3, 1) := by decide +kernel
theorem dX6_sale_70 : decode cX6_sale 70 = .ok (.invokevirtual 185, 3) := by decide +kernel
theorem dX6_sale_73 : decode cX6_sale 73 = .ok (.aload_n 0, 1) := by decide +kernel
theorem dX6_sale_74 : decode cX6_sale 74 = .ok (.dup, 1) := by decide +kernel
theorem dX6_sale_75 : decode cX6_sale 75 = .ok (.getfield 133, 3) := by decide +kernel
theorem dX6_sale_78 : decode cX6_sale 78 = .ok (.iconst 1, 1) := by decide +kernel
theorem dX6_sale_79 : decode cX6_sale 79 = .ok (.iadd, 1) := by decide +kernel
theorem dX6_sale_80 : decode cX6_sale 80 = .ok (.putfield 133, 3) := by decide +kernel
theorem dX6_sale_83 : decode cX6_sale 83 = .ok (.aload_n 0, 1) := by decide +kernel
theorem dX6_sale_84 : decode cX6_sale 84 = .ok (.iload_n 1, 1) := by decide +kernel
theorem dX6_sale_85 : decode cX6_sale 85 = .ok (.iload_n 2, 1) := by decide +kernel
theorem dX6_sale_86 : decode cX6_sale 86 = .ok (.invokevirtual 189, 3) := by decide +kernel
theorem dX6_sale_89 : decode cX6_sale 89 = .ok (.ireturn, 1) := by decide +kernel
theorem dX6_swap_0 : decode cX6_swap 0 = .ok (.aload_n 0, 1) := by decide +kernel
theorem dX6_swap_1 : decode cX6_swap 1 = .ok (.iload_n 1, 1) := by decide +kernel
theorem dX6_swap_2 : decode cX6_swap 2 = .ok (.invokevirtual 77, 3) := by decide +kernel
theorem dX6_swap_5 : decode cX6_swap 5 = .ok (.ifCond .eq 11, 3) := by decide +kernel
theorem dX6_swap_8 : decode cX6_swap 8 = .ok (.aload_n 0, 1) := by decide +kernel
theorem dX6_swap_9 : decode cX6_swap 9 = .ok (.iload_n 2, 1) := by decide +kernel
theorem dX6_swap_10 : decode cX6_swap 10 = .ok (.invokevirtual 77, 3) := by decide +kernel
theorem dX6_swap_13 : decode cX6_swap 13 = .ok (.ifCond .ne 5, 3) := by decide +kernel
theorem dX6_swap_16 : decode cX6_swap 16 = .ok (.iconst (-1), 1) := by decide +kernel
theorem dX6_swap_17 : decode cX6_swap 17 = .ok (.ireturn, 1) := by decide +kernel
theorem dX6_swap_18 : decode cX6_swap 18 = .ok (.aload_n 0, 1) := by decide +kernel
theorem dX6_swap_19 : decode cX6_swap 19 = .ok (.getfield 19, 3) := by decide +kernel
theorem dX6_swap_22 : decode cX6_swap 22 = .ok (.iload_n 1, 1) := by decide +kernel
theorem dX6_swap_23 : decode cX6_swap 23 = .ok (.iaload, 1) := by decide +kernel
theorem dX6_swap_24 : decode cX6_swap 24 = .ok (.aload_n 0, 1) := by decide +kernel
theorem dX6_swap_25 : decode cX6_swap 25 = .ok (.getfield 19, 3) := by decide +kernel
theorem dX6_swap_28 : decode cX6_swap 28 = .ok (.iload_n 2, 1) := by decide +kernel
theorem dX6_swap_29 : decode cX6_swap 29 = .ok (.iaload, 1) := by decide +kernel
theorem dX6_swap_30 : decode cX6_swap 30 = .ok (.if_icmp .ne 6, 3) := by decide +kernel
theorem dX6_swap_33 : decode cX6_swap 33 = .ok (.bipush (-2), 2) := by decide +kernel
theorem dX6_swap_35 : decode cX6_swap 35 = .ok (.ireturn, 1) := by decide +kernel
theorem dX6_swap_36 : decode cX6_swap 36 = .ok (.aload_n 0, 1) := by decide +kernel
theorem dX6_swap_37 : decode cX6_swap 37 = .ok (.iload_n 1, 1) := by decide +kernel
theorem dX6_swap_38 : decode cX6_swap 38 = .ok (.invokevirtual 182, 3) := by decide +kernel
theorem dX6_swap_41 : decode cX6_swap 41 = .ok (.aload_n 0, 1) := by decide +kernel
theorem dX6_swap_42 : decode cX6_swap 42 = .ok (.iload_n 2, 1) := by decide +kernel
theorem dX6_swap_43 : decode cX6_swap 43 = .ok (.invokevirtual 182, 3) := by decide +kernel
theorem dX6_swap_46 : decode cX6_swap 46 = .ok (.aload_n 0, 1) := by decide +kernel
theorem dX6_swap_47 : decode cX6_swap 47 = .ok (.getfield 19, 3) := by decide +kernel
theorem dX6_swap_50 : decode cX6_swap 50 = .ok (.iload_n 1, 1) := by decide +kernel
theorem dX6_swap_51 : decode cX6_swap 51 = .ok (.iaload, 1) := by decide +kernel
theorem dX6_swap_52 : decode cX6_swap 52 = .ok (.istore_n 3, 1) := by decide +kernel
theorem dX6_swap_53 : decode cX6_swap 53 = .ok (.aload_n 0, 1) := by decide +kernel
theorem dX6_swap_54 : decode cX6_swap 54 = .ok (.getfield 19, 3) := by decide +kernel
theorem dX6_swap_57 : decode cX6_swap 57 = .ok (.iload_n 1, 1) := by decide +kernel
theorem dX6_swap_58 : decode cX6_swap 58 = .ok (.aload_n 0, 1) := by decide +kernel
theorem dX6_swap_59 : decode cX6_swap 59 = .ok (.getfield 19, 3) := by decide +kernel
theorem dX6_swap_62 : decode cX6_swap 62 = .ok (.iload_n 2, 1) := by decide +kernel
theorem dX6_swap_63 : decode cX6_swap 63 = .ok (.iaload, 1) := by decide +kernel
theorem dX6_swap_64 : decode cX6_swap 64 = .ok (.iastore, 1) := by decide +kernel
theorem dX6_swap_65 : decode cX6_swap 65 = .ok (.aload_n 0, 1) := by decide +kernel
theorem dX6_swap_66 : decode cX6_swap 66 = .ok (.getfield 19, 3) := by decide +kernel
theorem dX6_swap_69 : decode cX6_swap 69 = .ok (.iload_n 2, 1) := by decide +kernel
theorem dX6_swap_70 : decode cX6_swap 70 = .ok (.iload_n 3, 1) := by decide +kernel
theorem dX6_swap_71 : decode cX6_swap 71 = .ok (.iastore, 1) := by decide +kernel
theorem dX6_swap_72 : decode cX6_swap 72 = .ok (.aload_n 0, 1) := by decide +kernel
theorem dX6_swap_73 : decode cX6_swap 73 = .ok (.dup, 1) := by decide +kernel
theorem dX6_swap_74 : decode cX6_swap 74 = .ok (.getfield 133, 3) := by decide +kernel
theorem dX6_swap_77 : decode cX6_swap 77 = .ok (.iconst 2, 1) := by decide +kernel
theorem dX6_swap_78 : decode cX6_swap 78 = .ok (.iadd, 1) := by decide +kernel
theorem dX6_swap_79 : decode cX6_swap 79 = .ok (.putfield 133, 3) := by decide +kernel
theorem dX6_swap_82 : decode cX6_swap 82 = .ok (.aload_n 0, 1) := by decide +kernel
theorem dX6_swap_83 : decode cX6_swap 83 = .ok (.invokevirtual 105, 3) := by decide +kernel
theorem dX6_swap_86 : decode cX6_swap 86 = .ok (.ireturn, 1) := by decide +kernel
theorem dX6_give_0 : decode cX6_give 0 = .ok (.aload_n 0, 1) := by decide +kernel
theorem dX6_give_1 : decode cX6_give 1 = .ok (.iload_n 1, 1) := by decide +kernel
theorem dX6_give_2 : decode cX6_give 2 = .ok (.invokevirtual 77, 3) := by decide +kernel
theorem dX6_give_5 : decode cX6_give 5 = .ok (.ifCond .ne 5, 3) := by decide +kernel
theorem dX6_give_8 : decode cX6_give 8 = .ok (.iconst (-1), 1) := by decide +kernel
theorem dX6_give_9 : decode cX6_give 9 = .ok (.ireturn, 1) := by decide +kernel
theorem dX6_give_10 : decode cX6_give 10 = .ok (.aload_n 0, 1) := by decide +kernel
theorem dX6_give_11 : decode cX6_give 11 = .ok (.getfield 19, 3) := by decide +kernel
theorem dX6_give_14 : decode cX6_give 14 = .ok (.iload_n 1, 1) := by decide +kernel
theorem dX6_give_15 : decode cX6_give 15 = .ok (.iaload, 1) := by decide +kernel
theorem dX6_give_16 : decode cX6_give 16 = .ok (.bipush 6, 2) := by decide +kernel
theorem dX6_give_18 : decode cX6_give 18 = .ok (.if_icmp .ne 6, 3) := by decide +kernel
theorem dX6_give_21 : decode cX6_give 21 = .ok (.bipush (-2), 2) := by decide +kernel
theorem dX6_give_23 : decode cX6_give 23 = .ok (.ireturn, 1) := by decide +kernel
theorem dX6_give_24 : decode cX6_give 24 = .ok (.aload_n 0, 1) := by decide +kernel
theorem dX6_give_25 : decode cX6_give 25 = .ok (.dup, 1) := by decide +kernel
theorem dX6_give_26 : decode cX6_give 26 = .ok (.getfield 133, 3) := by decide +kernel
theorem dX6_give_29 : decode cX6_give 29 = .ok (.iconst 1, 1) := by decide +kernel
theorem dX6_give_30 : decode cX6_give 30 = .ok (.iadd, 1) := by decide +kernel
theorem dX6_give_31 : decode cX6_give 31 = .ok (.putfield 133, 3) := by decide +kernel
theorem dX6_give_34 : decode cX6_give 34 = .ok (.aload_n 0, 1) := by decide +kernel
theorem dX6_give_35 : decode cX6_give 35 = .ok (.iload_n 1, 1) := by decide +kernel
theorem dX6_give_36 : decode cX6_give 36 = .ok (.bipush 6, 2) := by decide +kernel
theorem dX6_give_38 : decode cX6_give 38 = .ok (.invokevirtual 189, 3) := by decide +kernel
theorem dX6_give_41 : decode cX6_give 41 = .ok (.ireturn, 1) := by decide +kernel
theorem dX6_weds_0 : decode cX6_weds 0 = .ok (.iconst 0, 1) := by decide +kernel
theorem dX6_weds_1 : decode cX6_weds 1 = .ok (.istore_n 3, 1) := by decide +kernel
theorem dX6_weds_2 : decode cX6_weds 2 = .ok (.iload_n 3, 1) := by decide +kernel
theorem dX6_weds_3 : decode cX6_weds 3 = .ok (.aload_n 0, 1) := by decide +kernel
theorem dX6_weds_4 : decode cX6_weds 4 = .ok (.getfield 73, 3) := by decide +kernel
theorem dX6_weds_7 : decode cX6_weds 7 = .ok (.if_icmp .ge 35, 3) := by decide +kernel
theorem dX6_weds_10 : decode cX6_weds 10 = .ok (.aload_n 0, 1) := by decide +kernel
theorem dX6_weds_11 : decode cX6_weds 11 = .ok (.getfield 19, 3) := by decide +kernel
theorem dX6_weds_14 : decode cX6_weds 14 = .ok (.iload_n 3, 1) := by decide +kernel
theorem dX6_weds_15 : decode cX6_weds 15 = .ok (.aload_n 0, 1) := by decide +kernel
theorem dX6_weds_16 : decode cX6_weds 16 = .ok (.getfield 19, 3) := by decide +kernel
theorem dX6_weds_19 : decode cX6_weds 19 = .ok (.iload_n 3, 1) := by decide +kernel
theorem dX6_weds_20 : decode cX6_weds 20 = .ok (.iaload, 1) := by decide +kernel
theorem dX6_weds_21 : decode cX6_weds 21 = .ok (.iload_n 2, 1) := by decide +kernel
theorem dX6_weds_22 : decode cX6_weds 22 = .ok (.if_icmp .ne 7, 3) := by decide +kernel
theorem dX6_weds_25 : decode cX6_weds 25 = .ok (.iload_n 1, 1) := by decide +kernel
theorem dX6_weds_26 : decode cX6_weds 26 = .ok (.goto 9, 3) := by decide +kernel
theorem dX6_weds_29 : decode cX6_weds 29 = .ok (.aload_n 0, 1) := by decide +kernel
theorem dX6_weds_30 : decode cX6_weds 30 = .ok (.getfield 19, 3) := by decide +kernel
theorem dX6_weds_33 : decode cX6_weds 33 = .ok (.iload_n 3, 1) := by decide +kernel
theorem dX6_weds_34 : decode cX6_weds 34 = .ok (.iaload, 1) := by decide +kernel
theorem dX6_weds_35 : decode cX6_weds 35 = .ok (.iastore, 1) := by decide +kernel
theorem dX6_weds_36 : decode cX6_weds 36 = .ok (.iinc 3 1, 3) := by decide +kernel
theorem dX6_weds_39 : decode cX6_weds 39 = .ok (.goto (-37), 3) := by decide +kernel
theorem dX6_weds_42 : decode cX6_weds 42 = .ok (.iconst 0, 1) := by decide +kernel
theorem dX6_weds_43 : decode cX6_weds 43 = .ok (.istore_n 3, 1) := by decide +kernel
theorem dX6_weds_44 : decode cX6_weds 44 = .ok (.iload_n 3, 1) := by decide +kernel
theorem dX6_weds_45 : decode cX6_weds 45 = .ok (.aload_n 0, 1) := by decide +kernel
theorem dX6_weds_46 : decode cX6_weds 46 = .ok (.getfield 88, 3) := by decide +kernel
theorem dX6_weds_49 : decode cX6_weds 49 = .ok (.if_icmp .ge 73, 3) := by decide +kernel
theorem dX6_weds_52 : decode cX6_weds 52 = .ok (.aload_n 0, 1) := by decide +kernel
theorem dX6_weds_53 : decode cX6_weds 53 = .ok (.getfield 25, 3) := by decide +kernel
theorem dX6_weds_56 : decode cX6_weds 56 = .ok (.iload_n 3, 1) := by decide +kernel
theorem dX6_weds_57 : decode cX6_weds 57 = .ok (.aload_n 0, 1) := by decide +kernel
theorem dX6_weds_58 : decode cX6_weds 58 = .ok (.getfield 25, 3) := by decide +kernel
theorem dX6_weds_61 : decode cX6_weds 61 = .ok (.iload_n 3, 1) := by decide +kernel
theorem dX6_weds_62 : decode cX6_weds 62 = .ok (.iaload, 1) := by decide +kernel
theorem dX6_weds_63 : decode cX6_weds 63 = .ok (.bipush 10, 2) := by decide +kernel
theorem dX6_weds_65 : decode cX6_weds 65 = .ok (.iload_n 2, 1) := by decide +kernel
theorem dX6_weds_66 : decode cX6_weds 66 = .ok (.iadd, 1) := by decide +kernel
theorem dX6_weds_67 : decode cX6_weds 67 = .ok (.if_icmp .ne 10, 3) := by decide +kernel
theorem dX6_weds_70 : decode cX6_weds 70 = .ok (.bipush 10, 2) := by decide +kernel
theorem dX6_weds_72 : decode cX6_weds 72 = .ok (.iload_n 1, 1) := by decide +kernel
theorem dX6_weds_73 : decode cX6_weds 73 = .ok (.iadd, 1) := by decide +kernel
theorem dX6_weds_74 : decode cX6_weds 74 = .ok (.goto 9, 3) := by decide +kernel
theorem dX6_weds_77 : decode cX6_weds 77 = .ok (.aload_n 0, 1) := by decide +kernel
theorem dX6_weds_78 : decode cX6_weds 78 = .ok (.getfield 25, 3) := by decide +kernel
theorem dX6_weds_81 : decode cX6_weds 81 = .ok (.iload_n 3, 1) := by decide +kernel
theorem dX6_weds_82 : decode cX6_weds 82 = .ok (.iaload, 1) := by decide +kernel
theorem dX6_weds_83 : decode cX6_weds 83 = .ok (.iastore, 1) := by decide +kernel
theorem dX6_weds_84 : decode cX6_weds 84 = .ok (.aload_n 0, 1) := by decide +kernel
theorem dX6_weds_85 : decode cX6_weds 85 = .ok (.getfield 28, 3) := by decide +kernel
theorem dX6_weds_88 : decode cX6_weds 88 = .ok (.iload_n 3, 1) := by decide +kernel
theorem dX6_weds_89 : decode cX6_weds 89 = .ok (.aload_n 0, 1) := by decide +kernel
theorem dX6_weds_90 : decode cX6_weds 90 = .ok (.getfield 28, 3) := by decide +kernel
theorem dX6_weds_93 : decode cX6_weds 93 = .ok (.iload_n 3, 1) := by decide +kernel
theorem dX6_weds_94 : decode cX6_weds 94 = .ok (.iaload, 1) := by decide +kernel
theorem dX6_weds_95 : decode cX6_weds 95 = .ok (.bipush 10, 2) := by decide +kernel
theorem dX6_weds_97 : decode cX6_weds 97 = .ok (.iload_n 2, 1) := by decide +kernel
theorem dX6_weds_98 : decode cX6_weds 98 = .ok (.iadd, 1) := by decide +kernel
theorem dX6_weds_99 : decode cX6_weds 99 = .ok (.if_icmp .ne 10, 3) := by decide +kernel
theorem dX6_weds_102 : decode cX6_weds 102 = .ok (.bipush 10, 2) := by decide +kernel
theorem dX6_weds_104 : decode cX6_weds 104 = .ok (.iload_n 1, 1) := by decide +kernel
theorem dX6_weds_105 : decode cX6_weds 105 = .ok (.iadd, 1) := by decide +kernel
theorem dX6_weds_106 : decode cX6_weds 106 = .ok (.goto 9, 3) := by decide +kernel
theorem dX6_weds_109 : decode cX6_weds 109 = .ok (.aload_n 0, 1) := by decide +kernel
theorem dX6_weds_110 : decode cX6_weds 110 = .ok (.getfield 28, 3) := by decide +kernel
theorem dX6_weds_113 : decode cX6_weds 113 = .ok (.iload_n 3, 1) := by decide +kernel
theorem dX6_weds_114 : decode cX6_weds 114 = .ok (.iaload, 1) := by decide +kernel
theorem dX6_weds_115 : decode cX6_weds 115 = .ok (.iastore, 1) := by decide +kernel
theorem dX6_weds_116 : decode cX6_weds 116 = .ok (.iinc 3 1, 3) := by decide +kernel
theorem dX6_weds_119 : decode cX6_weds 119 = .ok (.goto (-75), 3) := by decide +kernel
theorem dX6_weds_122 : decode cX6_weds 122 = .ok (.aload_n 0, 1) := by decide +kernel
theorem dX6_weds_123 : decode cX6_weds 123 = .ok (.invokevirtual 105, 3) := by decide +kernel
theorem dX6_weds_126 : decode cX6_weds 126 = .ok (.ireturn, 1) := by decide +kernel
theorem dX6_wed_0 : decode cX6_wed 0 = .ok (.iload_n 1, 1) := by decide +kernel
theorem dX6_wed_1 : decode cX6_wed 1 = .ok (.invokestatic 98, 3) := by decide +kernel
theorem dX6_wed_4 : decode cX6_wed 4 = .ok (.ifCond .eq 15, 3) := by decide +kernel
theorem dX6_wed_7 : decode cX6_wed 7 = .ok (.iload_n 2, 1) := by decide +kernel
theorem dX6_wed_8 : decode cX6_wed 8 = .ok (.invokestatic 98, 3) := by decide +kernel
theorem dX6_wed_11 : decode cX6_wed 11 = .ok (.ifCond .eq 8, 3) := by decide +kernel
theorem dX6_wed_14 : decode cX6_wed 14 = .ok (.iload_n 1, 1) := by decide +kernel
theorem dX6_wed_15 : decode cX6_wed 15 = .ok (.iload_n 2, 1) := by decide +kernel
theorem dX6_wed_16 : decode cX6_wed 16 = .ok (.if_icmp .ne 5, 3) := by decide +kernel
theorem dX6_wed_19 : decode cX6_wed 19 = .ok (.iconst (-1), 1) := by decide +kernel
theorem dX6_wed_20 : decode cX6_wed 20 = .ok (.ireturn, 1) := by decide +kernel
theorem dX6_wed_21 : decode cX6_wed 21 = .ok (.aload_n 0, 1) := by decide +kernel
theorem dX6_wed_22 : decode cX6_wed 22 = .ok (.iload_n 1, 1) := by decide +kernel
theorem dX6_wed_23 : decode cX6_wed 23 = .ok (.aload_n 0, 1) := by decide +kernel
theorem dX6_wed_24 : decode cX6_wed 24 = .ok (.getfield 7, 3) := by decide +kernel
theorem dX6_wed_27 : decode cX6_wed 27 = .ok (.iload_n 2, 1) := by decide +kernel
theorem dX6_wed_28 : decode cX6_wed 28 = .ok (.iaload, 1) := by decide +kernel
theorem dX6_wed_29 : decode cX6_wed 29 = .ok (.invokevirtual 185, 3) := by decide +kernel
theorem dX6_wed_32 : decode cX6_wed 32 = .ok (.aload_n 0, 1) := by decide +kernel
theorem dX6_wed_33 : decode cX6_wed 33 = .ok (.getfield 7, 3) := by decide +kernel
theorem dX6_wed_36 : decode cX6_wed 36 = .ok (.iload_n 2, 1) := by decide +kernel
theorem dX6_wed_37 : decode cX6_wed 37 = .ok (.iconst 0, 1) := by decide +kernel
theorem dX6_wed_38 : decode cX6_wed 38 = .ok (.iastore, 1) := by decide +kernel
theorem dX6_wed_39 : decode cX6_wed 39 = .ok (.aload_n 0, 1) := by decide +kernel
theorem dX6_wed_40 : decode cX6_wed 40 = .ok (.iload_n 1, 1) := by decide +kernel
theorem dX6_wed_41 : decode cX6_wed 41 = .ok (.iload_n 2, 1) := by decide +kernel
theorem dX6_wed_42 : decode cX6_wed 42 = .ok (.invokevirtual 192, 3) := by decide +kernel
theorem dX6_wed_45 : decode cX6_wed 45 = .ok (.ireturn, 1) := by decide +kernel
theorem dX6_part_0 : decode cX6_part 0 = .ok (.aload_n 0, 1) := by decide +kernel
theorem dX6_part_1 : decode cX6_part 1 = .ok (.iload_n 1, 1) := by decide +kernel
theorem dX6_part_2 : decode cX6_part 2 = .ok (.invokevirtual 77, 3) := by decide +kernel
theorem dX6_part_5 : decode cX6_part 5 = .ok (.ifCond .eq 21, 3) := by decide +kernel
theorem dX6_part_8 : decode cX6_part 8 = .ok (.iload_n 2, 1) := by decide +kernel
theorem dX6_part_9 : decode cX6_part 9 = .ok (.i2l, 1) := by decide +kernel
theorem dX6_part_10 : decode cX6_part 10 = .ok (.lconst 0, 1) := by decide +kernel
theorem dX6_part_11 : decode cX6_part 11 = .ok (.iconst 1, 1) := by decide +kernel
theorem dX6_part_12 : decode cX6_part 12 = .ok (.aload_n 0, 1) := by decide +kernel
theorem dX6_part_13 : decode cX6_part 13 = .ok (.getfield 88, 3) := by decide +kernel
theorem dX6_part_16 : decode cX6_part 16 = .ok (.ishl, 1) := by decide +kernel
theorem dX6_part_17 : decode cX6_part 17 = .ok (.iconst 1, 1) := by decide +kernel
theorem dX6_part_18 : decode cX6_part 18 = .ok (.isub, 1) := by decide +kernel
theorem dX6_part_19 : decode cX6_part 19 = .ok (.i2l, 1) := by decide +kernel
theorem dX6_part_20 : decode cX6_part 20 = .ok (.invokestatic 69, 3) := by decide +kernel
theorem dX6_part_23 : decode cX6_part 23 = .ok (.ifCond .ne 5, 3) := by decide +kernel
theorem dX6_part_26 : decode cX6_part 26 = .ok (.iconst (-1), 1) := by decide +kernel
theorem dX6_part_27 : decode cX6_part 27 = .ok (.ireturn, 1) := by decide +kernel
theorem dX6_part_28 : decode cX6_part 28 = .ok (.aload_n 0, 1) := by decide +kernel
theorem dX6_part_29 : decode cX6_part 29 = .ok (.getfield 73, 3) := by decide +kernel
theorem dX6_part_32 : decode cX6_part 32 = .ok (.bipush 8, 2) := by decide +kernel
theorem dX6_part_34 : decode cX6_part 34 = .ok (.if_icmp .ne 6, 3) := by decide +kernel
theorem dX6_part_37 : decode cX6_part 37 = .ok (.bipush (-3), 2) := by decide +kernel
theorem dX6_part_39 : decode cX6_part 39 = .ok (.ireturn, 1) := by decide +kernel
theorem dX6_part_40 : decode cX6_part 40 = .ok (.aload_n 0, 1) := by decide +kernel
theorem dX6_part_41 : decode cX6_part 41 = .ok (.getfield 19, 3) := by decide +kernel
theorem dX6_part_44 : decode cX6_part 44 = .ok (.aload_n 0, 1) := by decide +kernel
theorem dX6_part_45 : decode cX6_part 45 = .ok (.getfield 73, 3) := by decide +kernel
theorem dX6_part_48 : decode cX6_part 48 = .ok (.aload_n 0, 1) := by decide +kernel
theorem dX6_part_49 : decode cX6_part 49 = .ok (.getfield 19, 3) := by decide +kernel
theorem dX6_part_52 : decode cX6_part 52 = .ok (.iload_n 1, 1) := by decide +kernel
theorem dX6_part_53 : decode cX6_part 53 = .ok (.iaload, 1) := by decide +kernel
theorem dX6_part_54 : decode cX6_part 54 = .ok (.iastore, 1) := by decide +kernel
theorem dX6_part_55 : decode cX6_part 55 = .ok (.iconst 0, 1) := by decide +kernel
theorem dX6_part_56 : decode cX6_part 56 = .ok (.istore_n 3, 1) := by decide +kernel
theorem dX6_part_57 : decode cX6_part 57 = .ok (.iload_n 3, 1) := by decide +kernel
theorem dX6_part_58 : decode cX6_part 58 = .ok (.bipush 6, 2) := by decide +kernel
theorem dX6_part_60 : decode cX6_part 60 = .ok (.if_icmp .ge 58, 3) := by decide +kernel
theorem dX6_part_63 : decode cX6_part 63 = .ok (.aload_n 0, 1) := by decide +kernel
theorem dX6_part_64 : decode cX6_part 64 = .ok (.getfield 22, 3) := by decide +kernel
theorem dX6_part_67 : decode cX6_part 67 = .ok (.bipush 6, 2) := by decide +kernel
theorem dX6_part_69 : decode cX6_part 69 = .ok (.iload_n 1, 1) := by decide +kernel
theorem dX6_part_70 : decode cX6_part 70 = .ok (.imul, 1) := by decide +kernel
theorem dX6_part_71 : decode cX6_part 71 = .ok (.iload_n 3, 1) := by decide +kernel
theorem dX6_part_72 : decode cX6_part 72 = .ok (.iadd, 1) := by decide +kernel
theorem dX6_part_73 : decode cX6_part 73 = .ok (.iaload, 1) := by decide +kernel
theorem dX6_part_74 : decode cX6_part 74 = .ok (.istore 4, 2) := by decide +kernel
theorem dX6_part_76 : decode cX6_part 76 = .ok (.aload_n 0, 1) := by decide +kernel
theorem dX6_part_77 : decode cX6_part 77 = .ok (.getfield 22, 3) := by decide +kernel
theorem dX6_part_80 : decode cX6_part 80 = .ok (.bipush 6, 2) := by decide +kernel
theorem dX6_part_82 : decode cX6_part 82 = .ok (.aload_n 0, 1) := by decide +kernel
theorem dX6_part_83 : decode cX6_part 83 = .ok (.getfield 73, 3) := by decide +kernel
theorem dX6_part_86 : decode cX6_part 86 = .ok (.imul, 1) := by decide +kernel
theorem dX6_part_87 : decode cX6_part 87 = .ok (.iload_n 3, 1) := by decide +kernel
theorem dX6_part_88 : decode cX6_part 88 = .ok (.iadd, 1) := by decide +kernel
theorem dX6_part_89 : decode cX6_part 89 = .ok (.iload 4, 2) := by decide +kernel
theorem dX6_part_91 : decode cX6_part 91 = .ok (.iconst 2, 1) := by decide +kernel
theorem dX6_part_92 : decode cX6_part 92 = .ok (.idiv, 1) := by decide +kernel
theorem dX6_part_93 : decode cX6_part 93 = .ok (.iastore, 1) := by decide +kernel
theorem dX6_part_94 : decode cX6_part 94 = .ok (.aload_n 0, 1) := by decide +kernel
theorem dX6_part_95 : decode cX6_part 95 = .ok (.getfield 22, 3) := by decide +kernel
theorem dX6_part_98 : decode cX6_part 98 = .ok (.bipush 6, 2) := by decide +kernel
theorem dX6_part_100 : decode cX6_part 100 = .ok (.iload_n 1, 1) := by decide +kernel
theorem dX6_part_101 : decode cX6_part 101 = .ok (.imul, 1) := by decide +kernel
theorem dX6_part_102 : decode cX6_part 102 = .ok (.iload_n 3, 1) := by decide +kernel
theorem dX6_part_103 : decode cX6_part 103 = .ok (.iadd, 1) := by decide +kernel
theorem dX6_part_104 : decode cX6_part 104 = .ok (.iload 4, 2) := by decide +kernel
theorem dX6_part_106 : decode cX6_part 106 = .ok (.iload 4, 2) := by decide +kernel
theorem dX6_part_108 : decode cX6_part 108 = .ok (.iconst 2, 1) := by decide +kernel
theorem dX6_part_109 : decode cX6_part 109 = .ok (.idiv, 1) := by decide +kernel
theorem dX6_part_110 : decode cX6_part 110 = .ok (.isub, 1) := by decide +kernel
theorem dX6_part_111 : decode cX6_part 111 = .ok (.iastore, 1) := by decide +kernel
theorem dX6_part_112 : decode cX6_part 112 = .ok (.iinc 3 1, 3) := by decide +kernel
theorem dX6_part_115 : decode cX6_part 115 = .ok (.goto (-58), 3) := by decide +kernel
theorem dX6_part_118 : decode cX6_part 118 = .ok (.iconst 0, 1) := by decide +kernel
theorem dX6_part_119 : decode cX6_part 119 = .ok (.istore_n 3, 1) := by decide +kernel
theorem dX6_part_120 : decode cX6_part 120 = .ok (.iload_n 3, 1) := by decide +kernel
theorem dX6_part_121 : decode cX6_part 121 = .ok (.aload_n 0, 1) := by decide +kernel
theorem dX6_part_122 : decode cX6_part 122 = .ok (.getfield 88, 3) := by decide +kernel
theorem dX6_part_125 : decode cX6_part 125 = .ok (.if_icmp .ge 101, 3) := by decide +kernel
theorem dX6_part_128 : decode cX6_part 128 = .ok (.iload_n 2, 1) := by decide +kernel
theorem dX6_part_129 : decode cX6_part 129 = .ok (.iload_n 3, 1) := by decide +kernel
theorem dX6_part_130 : decode cX6_part 130 = .ok (.ishr, 1) := by decide +kernel
theorem dX6_part_131 : decode cX6_part 131 = .ok (.iconst 1, 1) := by decide +kernel
theorem dX6_part_132 : decode cX6_part 132 = .ok (.iand, 1) := by decide +kernel
theorem dX6_part_133 : decode cX6_part 133 = .ok (.iconst 1, 1) := by decide +kernel
theorem dX6_part_134 : decode cX6_part 134 = .ok (.if_icmp .ne 15, 3) := by decide +kernel
theorem dX6_part_137 : decode cX6_part 137 = .ok (.aload_n 0, 1) := by decide +kernel
theorem dX6_part_138 : decode cX6_part 138 = .ok (.iload_n 3, 1) := by decide +kernel
theorem dX6_part_139 : decode cX6_part 139 = .ok (.invokevirtual 95, 3) := by decide +kernel
theorem dX6_part_142 : decode cX6_part 142 = .ok (.ifCond .ne 7, 3) := by decide +kernel
theorem dX6_part_145 : decode cX6_part 145 = .ok (.iconst 1, 1) := by decide +kernel
theorem dX6_part_146 : decode cX6_part 146 = .ok (.goto 4, 3) := by decide +kernel
theorem dX6_part_149 : decode cX6_part 149 = .ok (.iconst 0, 1) := by decide +kernel
theorem dX6_part_150 : decode cX6_part 150 = .ok (.istore 4, 2) := by decide +kernel
theorem dX6_part_152 : decode cX6_part 152 = .ok (.aload_n 0, 1) := by decide +kernel
theorem dX6_part_153 : decode cX6_part 153 = .ok (.getfield 25, 3) := by decide +kernel
theorem dX6_part_156 : decode cX6_part 156 = .ok (.iload_n 3, 1) := by decide +kernel
theorem dX6_part_157 : decode cX6_part 157 = .ok (.iload 4, 2) := by decide +kernel
theorem dX6_part_159 : decode cX6_part 159 = .ok (.ifCond .eq 20, 3) := by decide +kernel
theorem dX6_part_162 : decode cX6_part 162 = .ok (.aload_n 0, 1) := by decide +kernel
theorem dX6_part_163 : decode cX6_part 163 = .ok (.getfield 25, 3) := by decide +kernel
theorem dX6_part_166 : decode cX6_part 166 = .ok (.iload_n 3, 1) := by decide +kernel
theorem dX6_part_167 : decode cX6_part 167 = .ok (.iaload, 1) := by decide +kernel
theorem dX6_part_168 : decode cX6_part 168 = .ok (.iload_n 1, 1) := by decide +kernel
theorem dX6_part_169 : decode cX6_part 169 = .ok (.if_icmp .ne 10, 3) := by decide +kernel
theorem dX6_part_172 : decode cX6_part 172 = .ok (.aload_n 0, 1) := by decide +kernel
theorem dX6_part_173 : decode cX6_part 173 = .ok (.getfield 73, 3) := by decide +kernel
theorem dX6_part_176 : decode cX6_part 176 = .ok (.goto 9, 3) := by decide +kernel
theorem dX6_part_179 : decode cX6_part 179 = .ok (.aload_n 0, 1) := by decide +kernel
theorem dX6_part_180 : decode cX6_part 180 = .ok (.getfield 25, 3) := by decide +kernel
theorem dX6_part_183 : decode cX6_part 183 = .ok (.iload_n 3, 1) := by decide +kernel
theorem dX6_part_184 : decode cX6_part 184 = .ok (.iaload, 1) := by decide +kernel
theorem dX6_part_185 : decode cX6_part 185 = .ok (.iastore, 1) := by decide +kernel
theorem dX6_part_186 : decode cX6_part 186 = .ok (.aload_n 0, 1) := by decide +kernel
theorem dX6_part_187 : decode cX6_part 187 = .ok (.getfield 28, 3) := by decide +kernel
theorem dX6_part_190 : decode cX6_part 190 = .ok (.iload_n 3, 1) := by decide +kernel
theorem dX6_part_191 : decode cX6_part 191 = .ok (.iload 4, 2) := by decide +kernel
theorem dX6_part_193 : decode cX6_part 193 = .ok (.ifCond .eq 20, 3) := by decide +kernel
theorem dX6_part_196 : decode cX6_part 196 = .ok (.aload_n 0, 1) := by decide +kernel
theorem dX6_part_197 : decode cX6_part 197 = .ok (.getfield 28, 3) := by decide +kernel
theorem dX6_part_200 : decode cX6_part 200 = .ok (.iload_n 3, 1) := by decide +kernel
theorem dX6_part_201 : decode cX6_part 201 = .ok (.iaload, 1) := by decide +kernel
theorem dX6_part_202 : decode cX6_part 202 = .ok (.iload_n 1, 1) := by decide +kernel
theorem dX6_part_203 : decode cX6_part 203 = .ok (.if_icmp .ne 10, 3) := by decide +kernel
theorem dX6_part_206 : decode cX6_part 206 = .ok (.aload_n 0, 1) := by decide +kernel
theorem dX6_part_207 : decode cX6_part 207 = .ok (.getfield 73, 3) := by decide +kernel
theorem dX6_part_210 : decode cX6_part 210 = .ok (.goto 9, 3) := by decide +kernel
theorem dX6_part_213 : decode cX6_part 213 = .ok (.aload_n 0, 1) := by decide +kernel
theorem dX6_part_214 : decode cX6_part 214 = .ok (.getfield 28, 3) := by decide +kernel
theorem dX6_part_217 : decode cX6_part 217 = .ok (.iload_n 3, 1) := by decide +kernel
theorem dX6_part_218 : decode cX6_part 218 = .ok (.iaload, 1) := by decide +kernel
theorem dX6_part_219 : decode cX6_part 219 = .ok (.iastore, 1) := by decide +kernel
theorem dX6_part_220 : decode cX6_part 220 = .ok (.iinc 3 1, 3) := by decide +kernel
theorem dX6_part_223 : decode cX6_part 223 = .ok (.goto (-103), 3) := by decide +kernel
theorem dX6_part_226 : decode cX6_part 226 = .ok (.aload_n 0, 1) := by decide +kernel
theorem dX6_part_227 : decode cX6_part 227 = .ok (.dup, 1) := by decide +kernel
theorem dX6_part_228 : decode cX6_part 228 = .ok (.getfield 73, 3) := by decide +kernel
theorem dX6_part_231 : decode cX6_part 231 = .ok (.iconst 1, 1) := by decide +kernel
theorem dX6_part_232 : decode cX6_part 232 = .ok (.iadd, 1) := by decide +kernel
theorem dX6_part_233 : decode cX6_part 233 = .ok (.putfield 73, 3) := by decide +kernel
theorem dX6_part_236 : decode cX6_part 236 = .ok (.aload_n 0, 1) := by decide +kernel
theorem dX6_part_237 : decode cX6_part 237 = .ok (.invokevirtual 105, 3) := by decide +kernel
theorem dX6_part_240 : decode cX6_part 240 = .ok (.pop, 1) := by decide +kernel
theorem dX6_part_241 : decode cX6_part 241 = .ok (.aload_n 0, 1) := by decide +kernel
theorem dX6_part_242 : decode cX6_part 242 = .ok (.getfield 73, 3) := by decide +kernel
theorem dX6_part_245 : decode cX6_part 245 = .ok (.iconst 1, 1) := by decide +kernel
theorem dX6_part_246 : decode cX6_part 246 = .ok (.isub, 1) := by decide +kernel
theorem dX6_part_247 : decode cX6_part 247 = .ok (.ireturn, 1) := by decide +kernel
theorem dX6_keeps_0 : decode cX6_keeps 0 = .ok (.iconst 0, 1) := by decide +kernel
theorem dX6_keeps_1 : decode cX6_keeps 1 = .ok (.istore_n 1, 1) := by decide +kernel
theorem dX6_keeps_2 : decode cX6_keeps 2 = .ok (.iload_n 1, 1) := by decide +kernel
theorem dX6_keeps_3 : decode cX6_keeps 3 = .ok (.bipush 8, 2) := by decide +kernel
theorem dX6_keeps_5 : decode cX6_keeps 5 = .ok (.if_icmp .ge 21, 3) := by decide +kernel
theorem dX6_keeps_8 : decode cX6_keeps 8 = .ok (.aload_n 0, 1) := by decide +kernel
theorem dX6_keeps_9 : decode cX6_keeps 9 = .ok (.getfield 37, 3) := by decide +kernel
theorem dX6_keeps_12 : decode cX6_keeps 12 = .ok (.iload_n 1, 1) := by decide +kernel
theorem dX6_keeps_13 : decode cX6_keeps 13 = .ok (.aload_n 0, 1) := by decide +kernel
theorem dX6_keeps_14 : decode cX6_keeps 14 = .ok (.getfield 19, 3) := by decide +kernel
theorem dX6_keeps_17 : decode cX6_keeps 17 = .ok (.iload_n 1, 1) := by decide +kernel
theorem dX6_keeps_18 : decode cX6_keeps 18 = .ok (.iaload, 1) := by decide +kernel
theorem dX6_keeps_19 : decode cX6_keeps 19 = .ok (.iastore, 1) := by decide +kernel
theorem dX6_keeps_20 : decode cX6_keeps 20 = .ok (.iinc 1 1, 3) := by decide +kernel
theorem dX6_keeps_23 : decode cX6_keeps 23 = .ok (.goto (-21), 3) := by decide +kernel
theorem dX6_keeps_26 : decode cX6_keeps 26 = .ok (.iconst 0, 1) := by decide +kernel
theorem dX6_keeps_27 : decode cX6_keeps 27 = .ok (.istore_n 1, 1) := by decide +kernel
theorem dX6_keeps_28 : decode cX6_keeps 28 = .ok (.iload_n 1, 1) := by decide +kernel
theorem dX6_keeps_29 : decode cX6_keeps 29 = .ok (.bipush 12, 2) := by decide +kernel
theorem dX6_keeps_31 : decode cX6_keeps 31 = .ok (.if_icmp .ge 33, 3) := by decide +kernel
theorem dX6_keeps_34 : decode cX6_keeps 34 = .ok (.aload_n 0, 1) := by decide +kernel
theorem dX6_keeps_35 : decode cX6_keeps 35 = .ok (.getfield 40, 3) := by decide +kernel
theorem dX6_keeps_38 : decode cX6_keeps 38 = .ok (.iload_n 1, 1) := by decide +kernel
theorem dX6_keeps_39 : decode cX6_keeps 39 = .ok (.aload_n 0, 1) := by decide +kernel
theorem dX6_keeps_40 : decode cX6_keeps 40 = .ok (.getfield 25, 3) := by decide +kernel
theorem dX6_keeps_43 : decode cX6_keeps 43 = .ok (.iload_n 1, 1) := by decide +kernel
theorem dX6_keeps_44 : decode cX6_keeps 44 = .ok (.iaload, 1) := by decide +kernel
theorem dX6_keeps_45 : decode cX6_keeps 45 = .ok (.iastore, 1) := by decide +kernel
theorem dX6_keeps_46 : decode cX6_keeps 46 = .ok (.aload_n 0, 1) := by decide +kernel
theorem dX6_keeps_47 : decode cX6_keeps 47 = .ok (.getfield 43, 3) := by decide +kernel
theorem dX6_keeps_50 : decode cX6_keeps 50 = .ok (.iload_n 1, 1) := by decide +kernel
theorem dX6_keeps_51 : decode cX6_keeps 51 = .ok (.aload_n 0, 1) := by decide +kernel
theorem dX6_keeps_52 : decode cX6_keeps 52 = .ok (.getfield 28, 3) := by decide +kernel
theorem dX6_keeps_55 : decode cX6_keeps 55 = .ok (.iload_n 1, 1) := by decide +kernel
theorem dX6_keeps_56 : decode cX6_keeps 56 = .ok (.iaload, 1) := by decide +kernel
theorem dX6_keeps_57 : decode cX6_keeps 57 = .ok (.iastore, 1) := by decide +kernel
theorem dX6_keeps_58 : decode cX6_keeps 58 = .ok (.iinc 1 1, 3) := by decide +kernel
theorem dX6_keeps_61 : decode cX6_keeps 61 = .ok (.goto (-33), 3) := by decide +kernel
theorem dX6_keeps_64 : decode cX6_keeps 64 = .ok (.aload_n 0, 1) := by decide +kernel
theorem dX6_keeps_65 : decode cX6_keeps 65 = .ok (.aload_n 0, 1) := by decide +kernel
theorem dX6_keeps_66 : decode cX6_keeps 66 = .ok (.getfield 85, 3) := by decide +kernel
theorem dX6_keeps_69 : decode cX6_keeps 69 = .ok (.putfield 195, 3) := by decide +kernel
theorem dX6_keeps_72 : decode cX6_keeps 72 = .ok (.return_, 1) := by decide +kernel
theorem dX6_back_0 : decode cX6_back 0 = .ok (.iconst 0, 1) := by decide +kernel
theorem dX6_back_1 : decode cX6_back 1 = .ok (.istore_n 1, 1) := by decide +kernel
theorem dX6_back_2 : decode cX6_back 2 = .ok (.iload_n 1, 1) := by decide +kernel
theorem dX6_back_3 : decode cX6_back 3 = .ok (.bipush 8, 2) := by decide +kernel
theorem dX6_back_5 : decode cX6_back 5 = .ok (.if_icmp .ge 21, 3) := by decide +kernel
theorem dX6_back_8 : decode cX6_back 8 = .ok (.aload_n 0, 1) := by decide +kernel
theorem dX6_back_9 : decode cX6_back 9 = .ok (.getfield 19, 3) := by decide +kernel
theorem dX6_back_12 : decode cX6_back 12 = .ok (.iload_n 1, 1) := by decide +kernel
theorem dX6_back_13 : decode cX6_back 13 = .ok (.aload_n 0, 1) := by decide +kernel
theorem dX6_back_14 : decode cX6_back 14 = .ok (.getfield 37, 3) := by decide +kernel
theorem dX6_back_17 : decode cX6_back 17 = .ok (.iload_n 1, 1) := by decide +kernel
theorem dX6_back_18 : decode cX6_back 18 = .ok (.iaload, 1) := by decide +kernel
theorem dX6_back_19 : decode cX6_back 19 = .ok (.iastore, 1) := by decide +kernel
theorem dX6_back_20 : decode cX6_back 20 = .ok (.iinc 1 1, 3) := by decide +kernel
theorem dX6_back_23 : decode cX6_back 23 = .ok (.goto (-21), 3) := by decide +kernel
theorem dX6_back_26 : decode cX6_back 26 = .ok (.iconst 0, 1) := by decide +kernel
theorem dX6_back_27 : decode cX6_back 27 = .ok (.istore_n 1, 1) := by decide +kernel
theorem dX6_back_28 : decode cX6_back 28 = .ok (.iload_n 1, 1) := by decide +kernel
theorem dX6_back_29 : decode cX6_back 29 = .ok (.bipush 12, 2) := by decide +kernel
theorem dX6_back_31 : decode cX6_back 31 = .ok (.if_icmp .ge 33, 3) := by decide +kernel
theorem dX6_back_34 : decode cX6_back 34 = .ok (.aload_n 0, 1) := by decide +kernel
theorem dX6_back_35 : decode cX6_back 35 = .ok (.getfield 25, 3) := by decide +kernel
theorem dX6_back_38 : decode cX6_back 38 = .ok (.iload_n 1, 1) := by decide +kernel
theorem dX6_back_39 : decode cX6_back 39 = .ok (.aload_n 0, 1) := by decide +kernel
theorem dX6_back_40 : decode cX6_back 40 = .ok (.getfield 40, 3) := by decide +kernel
theorem dX6_back_43 : decode cX6_back 43 = .ok (.iload_n 1, 1) := by decide +kernel
theorem dX6_back_44 : decode cX6_back 44 = .ok (.iaload, 1) := by decide +kernel
theorem dX6_back_45 : decode cX6_back 45 = .ok (.iastore, 1) := by decide +kernel
theorem dX6_back_46 : decode cX6_back 46 = .ok (.aload_n 0, 1) := by decide +kernel
theorem dX6_back_47 : decode cX6_back 47 = .ok (.getfield 28, 3) := by decide +kernel
theorem dX6_back_50 : decode cX6_back 50 = .ok (.iload_n 1, 1) := by decide +kernel
theorem dX6_back_51 : decode cX6_back 51 = .ok (.aload_n 0, 1) := by decide +kernel
theorem dX6_back_52 : decode cX6_back 52 = .ok (.getfield 43, 3) := by decide +kernel
theorem dX6_back_55 : decode cX6_back 55 = .ok (.iload_n 1, 1) := by decide +kernel
theorem dX6_back_56 : decode cX6_back 56 = .ok (.iaload, 1) := by decide +kernel
theorem dX6_back_57 : decode cX6_back 57 = .ok (.iastore, 1) := by decide +kernel
theorem dX6_back_58 : decode cX6_back 58 = .ok (.iinc 1 1, 3) := by decide +kernel
theorem dX6_back_61 : decode cX6_back 61 = .ok (.goto (-33), 3) := by decide +kernel
theorem dX6_back_64 : decode cX6_back 64 = .ok (.aload_n 0, 1) := by decide +kernel
theorem dX6_back_65 : decode cX6_back 65 = .ok (.aload_n 0, 1) := by decide +kernel
theorem dX6_back_66 : decode cX6_back 66 = .ok (.getfield 195, 3) := by decide +kernel
theorem dX6_back_69 : decode cX6_back 69 = .ok (.putfield 85, 3) := by decide +kernel
theorem dX6_back_72 : decode cX6_back 72 = .ok (.return_, 1) := by decide +kernel
theorem dX6_gainOf_0 : decode cX6_gainOf 0 = .ok (.iload_n 3, 1) := by decide +kernel
theorem dX6_gainOf_1 : decode cX6_gainOf 1 = .ok (.bipush 6, 2) := by decide +kernel
theorem dX6_gainOf_3 : decode cX6_gainOf 3 = .ok (.if_icmp .ne 5, 3) := by decide +kernel
theorem dX6_gainOf_6 : decode cX6_gainOf 6 = .ok (.iconst 0, 1) := by decide +kernel
theorem dX6_gainOf_7 : decode cX6_gainOf 7 = .ok (.ireturn, 1) := by decide +kernel
theorem dX6_gainOf_8 : decode cX6_gainOf 8 = .ok (.aload_n 0, 1) := by decide +kernel
theorem dX6_gainOf_9 : decode cX6_gainOf 9 = .ok (.iload_n 3, 1) := by decide +kernel
theorem dX6_gainOf_10 : decode cX6_gainOf 10 = .ok (.invokevirtual 123, 3) := by decide +kernel
theorem dX6_gainOf_13 : decode cX6_gainOf 13 = .ok (.istore 4, 2) := by decide +kernel
theorem dX6_gainOf_15 : decode cX6_gainOf 15 = .ok (.aload_n 0, 1) := by decide +kernel
theorem dX6_gainOf_16 : decode cX6_gainOf 16 = .ok (.invokevirtual 198, 3) := by decide +kernel
theorem dX6_gainOf_19 : decode cX6_gainOf 19 = .ok (.aload_n 0, 1) := by decide +kernel
theorem dX6_gainOf_20 : decode cX6_gainOf 20 = .ok (.iload_n 1, 1) := by decide +kernel
theorem dX6_gainOf_21 : decode cX6_gainOf 21 = .ok (.iload_n 2, 1) := by decide +kernel
theorem dX6_gainOf_22 : decode cX6_gainOf 22 = .ok (.invokevirtual 189, 3) := by decide +kernel
theorem dX6_gainOf_25 : decode cX6_gainOf 25 = .ok (.pop, 1) := by decide +kernel
theorem dX6_gainOf_26 : decode cX6_gainOf 26 = .ok (.aload_n 0, 1) := by decide +kernel
theorem dX6_gainOf_27 : decode cX6_gainOf 27 = .ok (.iload_n 3, 1) := by decide +kernel
theorem dX6_gainOf_28 : decode cX6_gainOf 28 = .ok (.invokevirtual 123, 3) := by decide +kernel
theorem dX6_gainOf_31 : decode cX6_gainOf 31 = .ok (.istore 5, 2) := by decide +kernel
theorem dX6_gainOf_33 : decode cX6_gainOf 33 = .ok (.aload_n 0, 1) := by decide +kernel
theorem dX6_gainOf_34 : decode cX6_gainOf 34 = .ok (.invokevirtual 201, 3) := by decide +kernel
theorem dX6_gainOf_37 : decode cX6_gainOf 37 = .ok (.iload 5, 2) := by decide +kernel
theorem dX6_gainOf_39 : decode cX6_gainOf 39 = .ok (.iload 4, 2) := by decide +kernel
theorem dX6_gainOf_41 : decode cX6_gainOf 41 = .ok (.isub, 1) := by decide +kernel
theorem dX6_gainOf_42 : decode cX6_gainOf 42 = .ok (.ireturn, 1) := by decide +kernel
theorem dX6_gain_0 : decode cX6_gain 0 = .ok (.aload_n 0, 1) := by decide +kernel
theorem dX6_gain_1 : decode cX6_gain 1 = .ok (.iload_n 1, 1) := by decide +kernel
theorem dX6_gain_2 : decode cX6_gain 2 = .ok (.invokevirtual 77, 3) := by decide +kernel
theorem dX6_gain_5 : decode cX6_gain 5 = .ok (.ifCond .eq 20, 3) := by decide +kernel
theorem dX6_gain_8 : decode cX6_gain 8 = .ok (.iload_n 2, 1) := by decide +kernel
theorem dX6_gain_9 : decode cX6_gain 9 = .ok (.invokestatic 98, 3) := by decide +kernel
theorem dX6_gain_12 : decode cX6_gain 12 = .ok (.ifCond .eq 13, 3) := by decide +kernel
theorem dX6_gain_15 : decode cX6_gain 15 = .ok (.iload_n 3, 1) := by decide +kernel
theorem dX6_gain_16 : decode cX6_gain 16 = .ok (.i2l, 1) := by decide +kernel
theorem dX6_gain_17 : decode cX6_gain 17 = .ok (.lconst 0, 1) := by decide +kernel
theorem dX6_gain_18 : decode cX6_gain 18 = .ok (.lconst 1, 1) := by decide +kernel
theorem dX6_gain_19 : decode cX6_gain 19 = .ok (.invokestatic 69, 3) := by decide +kernel
theorem dX6_gain_22 : decode cX6_gain 22 = .ok (.ifCond .ne 6, 3) := by decide +kernel
theorem dX6_gain_25 : decode cX6_gain 25 = .ok (.ldc 126, 2) := by decide +kernel
theorem dX6_gain_27 : decode cX6_gain 27 = .ok (.ireturn, 1) := by decide +kernel
theorem dX6_gain_28 : decode cX6_gain 28 = .ok (.aload_n 0, 1) := by decide +kernel
theorem dX6_gain_29 : decode cX6_gain 29 = .ok (.getfield 19, 3) := by decide +kernel
theorem dX6_gain_32 : decode cX6_gain 32 = .ok (.iload_n 1, 1) := by decide +kernel
theorem dX6_gain_33 : decode cX6_gain 33 = .ok (.iaload, 1) := by decide +kernel
theorem dX6_gain_34 : decode cX6_gain 34 = .ok (.iload_n 2, 1) := by decide +kernel
theorem dX6_gain_35 : decode cX6_gain 35 = .ok (.if_icmp .ne 8, 3) := by decide +kernel
theorem dX6_gain_38 : decode cX6_gain 38 = .ok (.ldc 204, 2) := by decide +kernel
theorem dX6_gain_40 : decode cX6_gain 40 = .ok (.goto 23, 3) := by decide +kernel
theorem dX6_gain_43 : decode cX6_gain 43 = .ok (.aload_n 0, 1) := by decide +kernel
theorem dX6_gain_44 : decode cX6_gain 44 = .ok (.iload_n 1, 1) := by decide +kernel
theorem dX6_gain_45 : decode cX6_gain 45 = .ok (.iload_n 2, 1) := by decide +kernel
theorem dX6_gain_46 : decode cX6_gain 46 = .ok (.iload_n 3, 1) := by decide +kernel
theorem dX6_gain_47 : decode cX6_gain 47 = .ok (.ifCond .ne 12, 3) := by decide +kernel
theorem dX6_gain_50 : decode cX6_gain 50 = .ok (.aload_n 0, 1) := by decide +kernel
theorem dX6_gain_51 : decode cX6_gain 51 = .ok (.getfield 19, 3) := by decide +kernel
theorem dX6_gain_54 : decode cX6_gain 54 = .ok (.iload_n 1, 1) := by decide +kernel
theorem dX6_gain_55 : decode cX6_gain 55 = .ok (.iaload, 1) := by decide +kernel
theorem dX6_gain_56 : decode cX6_gain 56 = .ok (.goto 4, 3) := by decide +kernel
theorem dX6_gain_59 : decode cX6_gain 59 = .ok (.iload_n 2, 1) := by decide +kernel
theorem dX6_gain_60 : decode cX6_gain 60 = .ok (.invokevirtual 205, 3) := by decide +kernel
theorem dX6_gain_63 : decode cX6_gain 63 = .ok (.ireturn, 1) := by decide +kernel
theorem dX6_priceOf_0 : decode cX6_priceOf 0 = .ok (.iconst 1, 1) := by decide +kernel
theorem dX6_priceOf_1 : decode cX6_priceOf 1 = .ok (.aload_n 0, 1) := by decide +kernel
theorem dX6_priceOf_2 : decode cX6_priceOf 2 = .ok (.iload_n 1, 1) := by decide +kernel
theorem dX6_priceOf_3 : decode cX6_priceOf 3 = .ok (.iload_n 2, 1) := by decide +kernel
theorem dX6_priceOf_4 : decode cX6_priceOf 4 = .ok (.aload_n 0, 1) := by decide +kernel
theorem dX6_priceOf_5 : decode cX6_priceOf 5 = .ok (.getfield 19, 3) := by decide +kernel
theorem dX6_priceOf_8 : decode cX6_priceOf 8 = .ok (.iload_n 1, 1) := by decide +kernel
theorem dX6_priceOf_9 : decode cX6_priceOf 9 = .ok (.iaload, 1) := by decide +kernel
theorem dX6_priceOf_10 : decode cX6_priceOf 10 = .ok (.invokevirtual 205, 3) := by decide +kernel
theorem dX6_priceOf_13 : decode cX6_priceOf 13 = .ok (.isub, 1) := by decide +kernel
theorem dX6_priceOf_14 : decode cX6_priceOf 14 = .ok (.istore_n 3, 1) := by decide +kernel
theorem dX6_priceOf_15 : decode cX6_priceOf 15 = .ok (.iload_n 3, 1) := by decide +kernel
theorem dX6_priceOf_16 : decode cX6_priceOf 16 = .ok (.ifCond .ge 7, 3) := by decide +kernel
theorem dX6_priceOf_19 : decode cX6_priceOf 19 = .ok (.iconst 0, 1) := by decide +kernel
theorem dX6_priceOf_20 : decode cX6_priceOf 20 = .ok (.goto 4, 3) := by decide +kernel
theorem dX6_priceOf_23 : decode cX6_priceOf 23 = .ok (.iload_n 3, 1) := by decide +kernel
theorem dX6_priceOf_24 : decode cX6_priceOf 24 = .ok (.istore 4, 2) := by decide +kernel
theorem dX6_priceOf_26 : decode cX6_priceOf 26 = .ok (.aload_n 0, 1) := by decide +kernel
theorem dX6_priceOf_27 : decode cX6_priceOf 27 = .ok (.iload_n 1, 1) := by decide +kernel
theorem dX6_priceOf_28 : decode cX6_priceOf 28 = .ok (.iload_n 2, 1) := by decide +kernel
theorem dX6_priceOf_29 : decode cX6_priceOf 29 = .ok (.iload_n 2, 1) := by decide +kernel
theorem dX6_priceOf_30 : decode cX6_priceOf 30 = .ok (.invokevirtual 205, 3) := by decide +kernel
theorem dX6_priceOf_33 : decode cX6_priceOf 33 = .ok (.iload 4, 2) := by decide +kernel
theorem dX6_priceOf_35 : decode cX6_priceOf 35 = .ok (.isub, 1) := by decide +kernel
theorem dX6_priceOf_36 : decode cX6_priceOf 36 = .ok (.ifCond .le 19, 3) := by decide +kernel
theorem dX6_priceOf_39 : decode cX6_priceOf 39 = .ok (.aload_n 0, 1) := by decide +kernel
theorem dX6_priceOf_40 : decode cX6_priceOf 40 = .ok (.getfield 7, 3) := by decide +kernel
theorem dX6_priceOf_43 : decode cX6_priceOf 43 = .ok (.iload_n 2, 1) := by decide +kernel
theorem dX6_priceOf_44 : decode cX6_priceOf 44 = .ok (.iaload, 1) := by decide +kernel
theorem dX6_priceOf_45 : decode cX6_priceOf 45 = .ok (.iload 4, 2) := by decide +kernel
theorem dX6_priceOf_47 : decode cX6_priceOf 47 = .ok (.if_icmp .lt 8, 3) := by decide +kernel
theorem dX6_priceOf_50 : decode cX6_priceOf 50 = .ok (.iload 4, 2) := by decide +kernel
theorem dX6_priceOf_52 : decode cX6_priceOf 52 = .ok (.goto 5, 3) := by decide +kernel
theorem dX6_priceOf_55 : decode cX6_priceOf 55 = .ok (.bipush (-4), 2) := by decide +kernel
theorem dX6_priceOf_57 : decode cX6_priceOf 57 = .ok (.ireturn, 1) := by decide +kernel
theorem dX6_agreed_0 : decode cX6_agreed 0 = .ok (.aload_n 0, 1) := by decide +kernel
theorem dX6_agreed_1 : decode cX6_agreed 1 = .ok (.iload_n 1, 1) := by decide +kernel
theorem dX6_agreed_2 : decode cX6_agreed 2 = .ok (.invokevirtual 77, 3) := by decide +kernel
theorem dX6_agreed_5 : decode cX6_agreed 5 = .ok (.ifCond .eq 10, 3) := by decide +kernel
theorem dX6_agreed_8 : decode cX6_agreed 8 = .ok (.iload_n 2, 1) := by decide +kernel
theorem dX6_agreed_9 : decode cX6_agreed 9 = .ok (.invokestatic 98, 3) := by decide +kernel
theorem dX6_agreed_12 : decode cX6_agreed 12 = .ok (.ifCond .ne 5, 3) := by decide +kernel
theorem dX6_agreed_15 : decode cX6_agreed 15 = .ok (.iconst (-1), 1) := by decide +kernel
theorem dX6_agreed_16 : decode cX6_agreed 16 = .ok (.ireturn, 1) := by decide +kernel
theorem dX6_agreed_17 : decode cX6_agreed 17 = .ok (.aload_n 0, 1) := by decide +kernel
theorem dX6_agreed_18 : decode cX6_agreed 18 = .ok (.getfield 19, 3) := by decide +kernel
theorem dX6_agreed_21 : decode cX6_agreed 21 = .ok (.iload_n 1, 1) := by decide +kernel
theorem dX6_agreed_22 : decode cX6_agreed 22 = .ok (.iaload, 1) := by decide +kernel
theorem dX6_agreed_23 : decode cX6_agreed 23 = .ok (.bipush 6, 2) := by decide +kernel
theorem dX6_agreed_25 : decode cX6_agreed 25 = .ok (.if_icmp .eq 13, 3) := by decide +kernel
theorem dX6_agreed_28 : decode cX6_agreed 28 = .ok (.aload_n 0, 1) := by decide +kernel
theorem dX6_agreed_29 : decode cX6_agreed 29 = .ok (.getfield 19, 3) := by decide +kernel
theorem dX6_agreed_32 : decode cX6_agreed 32 = .ok (.iload_n 1, 1) := by decide +kernel
theorem dX6_agreed_33 : decode cX6_agreed 33 = .ok (.iaload, 1) := by decide +kernel
theorem dX6_agreed_34 : decode cX6_agreed 34 = .ok (.iload_n 2, 1) := by decide +kernel
theorem dX6_agreed_35 : decode cX6_agreed 35 = .ok (.if_icmp .ne 8, 3) := by decide +kernel
theorem dX6_agreed_38 : decode cX6_agreed 38 = .ok (.bipush (-2), 2) := by decide +kernel
theorem dX6_agreed_40 : decode cX6_agreed 40 = .ok (.goto 9, 3) := by decide +kernel
theorem dX6_agreed_43 : decode cX6_agreed 43 = .ok (.aload_n 0, 1) := by decide +kernel
theorem dX6_agreed_44 : decode cX6_agreed 44 = .ok (.iload_n 1, 1) := by decide +kernel
theorem dX6_agreed_45 : decode cX6_agreed 45 = .ok (.iload_n 2, 1) := by decide +kernel
theorem dX6_agreed_46 : decode cX6_agreed 46 = .ok (.invokevirtual 209, 3) := by decide +kernel
theorem dX6_agreed_49 : decode cX6_agreed 49 = .ok (.ireturn, 1) := by decide +kernel
theorem dX6_deals_0 : decode cX6_deals 0 = .ok (.iconst 0, 1) := by decide +kernel
theorem dX6_deals_1 : decode cX6_deals 1 = .ok (.istore_n 1, 1) := by decide +kernel
theorem dX6_deals_2 : decode cX6_deals 2 = .ok (.iload_n 1, 1) := by decide +kernel
theorem dX6_deals_3 : decode cX6_deals 3 = .ok (.bipush 6, 2) := by decide +kernel
theorem dX6_deals_5 : decode cX6_deals 5 = .ok (.aload_n 0, 1) := by decide +kernel
theorem dX6_deals_6 : decode cX6_deals 6 = .ok (.getfield 73, 3) := by decide +kernel
theorem dX6_deals_9 : decode cX6_deals 9 = .ok (.imul, 1) := by decide +kernel
theorem dX6_deals_10 : decode cX6_deals 10 = .ok (.if_icmp .ge 72, 3) := by decide +kernel
theorem dX6_deals_13 : decode cX6_deals 13 = .ok (.aload_n 0, 1) := by decide +kernel
theorem dX6_deals_14 : decode cX6_deals 14 = .ok (.getfield 19, 3) := by decide +kernel
theorem dX6_deals_17 : decode cX6_deals 17 = .ok (.iload_n 1, 1) := by decide +kernel
theorem dX6_deals_18 : decode cX6_deals 18 = .ok (.bipush 6, 2) := by decide +kernel
theorem dX6_deals_20 : decode cX6_deals 20 = .ok (.idiv, 1) := by decide +kernel
theorem dX6_deals_21 : decode cX6_deals 21 = .ok (.iaload, 1) := by decide +kernel
theorem dX6_deals_22 : decode cX6_deals 22 = .ok (.bipush 6, 2) := by decide +kernel
theorem dX6_deals_24 : decode cX6_deals 24 = .ok (.if_icmp .eq 52, 3) := by decide +kernel
theorem dX6_deals_27 : decode cX6_deals 27 = .ok (.aload_n 0, 1) := by decide +kernel
theorem dX6_deals_28 : decode cX6_deals 28 = .ok (.getfield 19, 3) := by decide +kernel
theorem dX6_deals_31 : decode cX6_deals 31 = .ok (.iload_n 1, 1) := by decide +kernel
theorem dX6_deals_32 : decode cX6_deals 32 = .ok (.bipush 6, 2) := by decide +kernel
theorem dX6_deals_34 : decode cX6_deals 34 = .ok (.idiv, 1) := by decide +kernel
theorem dX6_deals_35 : decode cX6_deals 35 = .ok (.iaload, 1) := by decide +kernel
theorem dX6_deals_36 : decode cX6_deals 36 = .ok (.iload_n 1, 1) := by decide +kernel
theorem dX6_deals_37 : decode cX6_deals 37 = .ok (.bipush 6, 2) := by decide +kernel
theorem dX6_deals_39 : decode cX6_deals 39 = .ok (.irem, 1) := by decide +kernel
theorem dX6_deals_40 : decode cX6_deals 40 = .ok (.if_icmp .eq 36, 3) := by decide +kernel
theorem dX6_deals_43 : decode cX6_deals 43 = .ok (.aload_n 0, 1) := by decide +kernel
theorem dX6_deals_44 : decode cX6_deals 44 = .ok (.iload_n 1, 1) := by decide +kernel
theorem dX6_deals_45 : decode cX6_deals 45 = .ok (.bipush 6, 2) := by decide +kernel
theorem dX6_deals_47 : decode cX6_deals 47 = .ok (.idiv, 1) := by decide +kernel
theorem dX6_deals_48 : decode cX6_deals 48 = .ok (.iload_n 1, 1) := by decide +kernel
theorem dX6_deals_49 : decode cX6_deals 49 = .ok (.bipush 6, 2) := by decide +kernel
theorem dX6_deals_51 : decode cX6_deals 51 = .ok (.irem, 1) := by decide +kernel
theorem dX6_deals_52 : decode cX6_deals 52 = .ok (.invokevirtual 209, 3) := by decide +kernel
theorem dX6_deals_55 : decode cX6_deals 55 = .ok (.istore_n 2, 1) := by decide +kernel
theorem dX6_deals_56 : decode cX6_deals 56 = .ok (.iload_n 2, 1) := by decide +kernel
theorem dX6_deals_57 : decode cX6_deals 57 = .ok (.ifCond .lt 19, 3) := by decide +kernel
theorem dX6_deals_60 : decode cX6_deals 60 = .ok (.aload_n 0, 1) := by decide +kernel
theorem dX6_deals_61 : decode cX6_deals 61 = .ok (.iload_n 1, 1) := by decide +kernel
theorem dX6_deals_62 : decode cX6_deals 62 = .ok (.bipush 6, 2) := by decide +kernel
theorem dX6_deals_64 : decode cX6_deals 64 = .ok (.idiv, 1) := by decide +kernel
theorem dX6_deals_65 : decode cX6_deals 65 = .ok (.iload_n 1, 1) := by decide +kernel
theorem dX6_deals_66 : decode cX6_deals 66 = .ok (.bipush 6, 2) := by decide +kernel
theorem dX6_deals_68 : decode cX6_deals 68 = .ok (.irem, 1) := by decide +kernel
theorem dX6_deals_69 : decode cX6_deals 69 = .ok (.iload_n 2, 1) := by decide +kernel
theorem dX6_deals_70 : decode cX6_deals 70 = .ok (.invokevirtual 212, 3) := by decide +kernel
theorem dX6_deals_73 : decode cX6_deals 73 = .ok (.pop, 1) := by decide +kernel
theorem dX6_deals_74 : decode cX6_deals 74 = .ok (.iconst 1, 1) := by decide +kernel
theorem dX6_deals_75 : decode cX6_deals 75 = .ok (.ireturn, 1) := by decide +kernel
theorem dX6_deals_76 : decode cX6_deals 76 = .ok (.iinc 1 1, 3) := by decide +kernel
theorem dX6_deals_79 : decode cX6_deals 79 = .ok (.goto (-77), 3) := by decide +kernel
theorem dX6_deals_82 : decode cX6_deals 82 = .ok (.iconst 0, 1) := by decide +kernel
theorem dX6_deals_83 : decode cX6_deals 83 = .ok (.ireturn, 1) := by decide +kernel
theorem dX6_rest_0 : decode cX6_rest 0 = .ok (.iload_n 1, 1) := by decide +kernel
theorem dX6_rest_1 : decode cX6_rest 1 = .ok (.i2l, 1) := by decide +kernel
theorem dX6_rest_2 : decode cX6_rest 2 = .ok (.lconst 1, 1) := by decide +kernel
theorem dX6_rest_3 : decode cX6_rest 3 = .ok (.ldc2_w 215, 3) := by decide +kernel
theorem dX6_rest_6 : decode cX6_rest 6 = .ok (.invokestatic 69, 3) := by decide +kernel
theorem dX6_rest_9 : decode cX6_rest 9 = .ok (.ifCond .ne 5, 3) := by decide +kernel
theorem dX6_rest_12 : decode cX6_rest 12 = .ok (.iconst (-1), 1) := by decide +kernel
theorem dX6_rest_13 : decode cX6_rest 13 = .ok (.ireturn, 1) := by decide +kernel
theorem dX6_rest_14 : decode cX6_rest 14 = .ok (.iconst 0, 1) := by decide +kernel
theorem dX6_rest_15 : decode cX6_rest 15 = .ok (.istore_n 2, 1) := by decide +kernel
theorem dX6_rest_16 : decode cX6_rest 16 = .ok (.iload_n 2, 1) := by decide +kernel
theorem dX6_rest_17 : decode cX6_rest 17 = .ok (.iload_n 1, 1) := by decide +kernel
theorem dX6_rest_18 : decode cX6_rest 18 = .ok (.if_icmp .ge 16, 3) := by decide +kernel
theorem dX6_rest_21 : decode cX6_rest 21 = .ok (.aload_n 0, 1) := by decide +kernel
theorem dX6_rest_22 : decode cX6_rest 22 = .ok (.invokevirtual 217, 3) := by decide +kernel
theorem dX6_rest_25 : decode cX6_rest 25 = .ok (.ifCond .eq 9, 3) := by decide +kernel
theorem dX6_rest_28 : decode cX6_rest 28 = .ok (.iinc 2 1, 3) := by decide +kernel
theorem dX6_rest_31 : decode cX6_rest 31 = .ok (.goto (-15), 3) := by decide +kernel
theorem dX6_rest_34 : decode cX6_rest 34 = .ok (.iload_n 2, 1) := by decide +kernel
theorem dX6_rest_35 : decode cX6_rest 35 = .ok (.ireturn, 1) := by decide +kernel
theorem dX6_groupOf_0 : decode cX6_groupOf 0 = .ok (.iconst 1, 1) := by decide +kernel
theorem dX6_groupOf_1 : decode cX6_groupOf 1 = .ok (.iload_n 1, 1) := by decide +kernel
theorem dX6_groupOf_2 : decode cX6_groupOf 2 = .ok (.ishl, 1) := by decide +kernel
theorem dX6_groupOf_3 : decode cX6_groupOf 3 = .ok (.istore_n 2, 1) := by decide +kernel
theorem dX6_groupOf_4 : decode cX6_groupOf 4 = .ok (.iconst 0, 1) := by decide +kernel
theorem dX6_groupOf_5 : decode cX6_groupOf 5 = .ok (.istore_n 3, 1) := by decide +kernel
theorem dX6_groupOf_6 : decode cX6_groupOf 6 = .ok (.iload_n 2, 1) := by decide +kernel
theorem dX6_groupOf_7 : decode cX6_groupOf 7 = .ok (.iload_n 3, 1) := by decide +kernel
theorem dX6_groupOf_8 : decode cX6_groupOf 8 = .ok (.if_icmp .eq 72, 3) := by decide +kernel
theorem dX6_groupOf_11 : decode cX6_groupOf 11 = .ok (.iload_n 2, 1) := by decide +kernel
theorem dX6_groupOf_12 : decode cX6_groupOf 12 = .ok (.istore_n 3, 1) := by decide +kernel
theorem dX6_groupOf_13 : decode cX6_groupOf 13 = .ok (.iconst 0, 1) := by decide +kernel
theorem dX6_groupOf_14 : decode cX6_groupOf 14 = .ok (.istore 4, 2) := by decide +kernel
theorem dX6_groupOf_16 : decode cX6_groupOf 16 = .ok (.iload 4, 2) := by decide +kernel
theorem dX6_groupOf_18 : decode cX6_groupOf 18 = .ok (.aload_n 0, 1) := by decide +kernel
theorem dX6_groupOf_19 : decode cX6_groupOf 19 = .ok (.getfield 88, 3) := by decide +kernel
theorem dX6_groupOf_22 : decode cX6_groupOf 22 = .ok (.if_icmp .ge 55, 3) := by decide +kernel
theorem dX6_groupOf_25 : decode cX6_groupOf 25 = .ok (.iconst 1, 1) := by decide +kernel
theorem dX6_groupOf_26 : decode cX6_groupOf 26 = .ok (.aload_n 0, 1) := by decide +kernel
theorem dX6_groupOf_27 : decode cX6_groupOf 27 = .ok (.getfield 25, 3) := by decide +kernel
theorem dX6_groupOf_30 : decode cX6_groupOf 30 = .ok (.iload 4, 2) := by decide +kernel
theorem dX6_groupOf_32 : decode cX6_groupOf 32 = .ok (.iaload, 1) := by decide +kernel
theorem dX6_groupOf_33 : decode cX6_groupOf 33 = .ok (.ishl, 1) := by decide +kernel
theorem dX6_groupOf_34 : decode cX6_groupOf 34 = .ok (.iconst 1, 1) := by decide +kernel
theorem dX6_groupOf_35 : decode cX6_groupOf 35 = .ok (.aload_n 0, 1) := by decide +kernel
theorem dX6_groupOf_36 : decode cX6_groupOf 36 = .ok (.getfield 28, 3) := by decide +kernel
theorem dX6_groupOf_39 : decode cX6_groupOf 39 = .ok (.iload 4, 2) := by decide +kernel
theorem dX6_groupOf_41 : decode cX6_groupOf 41 = .ok (.iaload, 1) := by decide +kernel
theorem dX6_groupOf_42 : decode cX6_groupOf 42 = .ok (.ishl, 1) := by decide +kernel
theorem dX6_groupOf_43 : decode cX6_groupOf 43 = .ok (.ior, 1) := by decide +kernel
theorem dX6_groupOf_44 : decode cX6_groupOf 44 = .ok (.istore 5, 2) := by decide +kernel
theorem dX6_groupOf_46 : decode cX6_groupOf 46 = .ok (.iload_n 2, 1) := by decide +kernel
theorem dX6_groupOf_47 : decode cX6_groupOf 47 = .ok (.aload_n 0, 1) := by decide +kernel
theorem dX6_groupOf_48 : decode cX6_groupOf 48 = .ok (.iload 4, 2) := by decide +kernel
theorem dX6_groupOf_50 : decode cX6_groupOf 50 = .ok (.invokevirtual 95, 3) := by decide +kernel
theorem dX6_groupOf_53 : decode cX6_groupOf 53 = .ok (.ifCond .ne 15, 3) := by decide +kernel
theorem dX6_groupOf_56 : decode cX6_groupOf 56 = .ok (.iload_n 2, 1) := by decide +kernel
theorem dX6_groupOf_57 : decode cX6_groupOf 57 = .ok (.iload 5, 2) := by decide +kernel
theorem dX6_groupOf_59 : decode cX6_groupOf 59 = .ok (.iand, 1) := by decide +kernel
theorem dX6_groupOf_60 : decode cX6_groupOf 60 = .ok (.ifCond .eq 8, 3) := by decide +kernel
theorem dX6_groupOf_63 : decode cX6_groupOf 63 = .ok (.iload 5, 2) := by decide +kernel
theorem dX6_groupOf_65 : decode cX6_groupOf 65 = .ok (.goto 4, 3) := by decide +kernel
theorem dX6_groupOf_68 : decode cX6_groupOf 68 = .ok (.iconst 0, 1) := by decide +kernel
theorem dX6_groupOf_69 : decode cX6_groupOf 69 = .ok (.ior, 1) := by decide +kernel
theorem dX6_groupOf_70 : decode cX6_groupOf 70 = .ok (.istore_n 2, 1) := by decide +kernel
theorem dX6_groupOf_71 : decode cX6_groupOf 71 = .ok (.iinc 4 1, 3) := by decide +kernel
theorem dX6_groupOf_74 : decode cX6_groupOf 74 = .ok (.goto (-58), 3) := by decide +kernel
theorem dX6_groupOf_77 : decode cX6_groupOf 77 = .ok (.goto (-71), 3) := by decide +kernel
theorem dX6_groupOf_80 : decode cX6_groupOf 80 = .ok (.iload_n 2, 1) := by decide +kernel
theorem dX6_groupOf_81 : decode cX6_groupOf 81 = .ok (.ireturn, 1) := by decide +kernel
theorem dX6_group_0 : decode cX6_group 0 = .ok (.iload_n 1, 1) := by decide +kernel
theorem dX6_group_1 : decode cX6_group 1 = .ok (.iconst (-1), 1) := by decide +kernel
theorem dX6_group_2 : decode cX6_group 2 = .ok (.if_icmp .eq 13, 3) := by decide +kernel
theorem dX6_group_5 : decode cX6_group 5 = .ok (.aload_n 0, 1) := by decide +kernel
theorem dX6_group_6 : decode cX6_group 6 = .ok (.iload_n 1, 1) := by decide +kernel
theorem dX6_group_7 : decode cX6_group 7 = .ok (.invokevirtual 77, 3) := by decide +kernel
theorem dX6_group_10 : decode cX6_group 10 = .ok (.ifCond .ne 5, 3) := by decide +kernel
theorem dX6_group_13 : decode cX6_group 13 = .ok (.iconst (-1), 1) := by decide +kernel
theorem dX6_group_14 : decode cX6_group 14 = .ok (.ireturn, 1) := by decide +kernel
theorem dX6_group_15 : decode cX6_group 15 = .ok (.iload_n 1, 1) := by decide +kernel
theorem dX6_group_16 : decode cX6_group 16 = .ok (.ifCond .lt 9, 3) := by decide +kernel
theorem dX6_group_19 : decode cX6_group 19 = .ok (.aload_n 0, 1) := by decide +kernel
theorem dX6_group_20 : decode cX6_group 20 = .ok (.iload_n 1, 1) := by decide +kernel
theorem dX6_group_21 : decode cX6_group 21 = .ok (.invokevirtual 221, 3) := by decide +kernel
theorem dX6_group_24 : decode cX6_group 24 = .ok (.ireturn, 1) := by decide +kernel
theorem dX6_group_25 : decode cX6_group 25 = .ok (.iconst 0, 1) := by decide +kernel
theorem dX6_group_26 : decode cX6_group 26 = .ok (.istore_n 2, 1) := by decide +kernel
theorem dX6_group_27 : decode cX6_group 27 = .ok (.iconst 0, 1) := by decide +kernel
theorem dX6_group_28 : decode cX6_group 28 = .ok (.istore_n 3, 1) := by decide +kernel
theorem dX6_group_29 : decode cX6_group 29 = .ok (.iconst 0, 1) := by decide +kernel
theorem dX6_group_30 : decode cX6_group 30 = .ok (.istore 4, 2) := by decide +kernel
theorem dX6_group_32 : decode cX6_group 32 = .ok (.iload 4, 2) := by decide +kernel
theorem dX6_group_34 : decode cX6_group 34 = .ok (.bipush 16, 2) := by decide +kernel
theorem dX6_group_36 : decode cX6_group 36 = .ok (.if_icmp .ge 57, 3) := by decide +kernel
theorem dX6_group_39 : decode cX6_group 39 = .ok (.aload_n 0, 1) := by decide +kernel
theorem dX6_group_40 : decode cX6_group 40 = .ok (.iload 4, 2) := by decide +kernel
theorem dX6_group_42 : decode cX6_group 42 = .ok (.invokevirtual 111, 3) := by decide +kernel
theorem dX6_group_45 : decode cX6_group 45 = .ok (.ifCond .eq 42, 3) := by decide +kernel
theorem dX6_group_48 : decode cX6_group 48 = .ok (.iload_n 2, 1) := by decide +kernel
theorem dX6_group_49 : decode cX6_group 49 = .ok (.iload 4, 2) := by decide +kernel
theorem dX6_group_51 : decode cX6_group 51 = .ok (.ishr, 1) := by decide +kernel
theorem dX6_group_52 : decode cX6_group 52 = .ok (.iconst 1, 1) := by decide +kernel
theorem dX6_group_53 : decode cX6_group 53 = .ok (.iand, 1) := by decide +kernel
theorem dX6_group_54 : decode cX6_group 54 = .ok (.ifCond .ne 33, 3) := by decide +kernel
theorem dX6_group_57 : decode cX6_group 57 = .ok (.aload_n 0, 1) := by decide +kernel
theorem dX6_group_58 : decode cX6_group 58 = .ok (.iload 4, 2) := by decide +kernel
theorem dX6_group_60 : decode cX6_group 60 = .ok (.invokevirtual 221, 3) := by decide +kernel
theorem dX6_group_63 : decode cX6_group 63 = .ok (.istore 5, 2) := by decide +kernel
theorem dX6_group_65 : decode cX6_group 65 = .ok (.iload_n 2, 1) := by decide +kernel
theorem dX6_group_66 : decode cX6_group 66 = .ok (.iload 5, 2) := by decide +kernel
theorem dX6_group_68 : decode cX6_group 68 = .ok (.ior, 1) := by decide +kernel
theorem dX6_group_69 : decode cX6_group 69 = .ok (.istore_n 2, 1) := by decide +kernel
theorem dX6_group_70 : decode cX6_group 70 = .ok (.iload_n 3, 1) := by decide +kernel
theorem dX6_group_71 : decode cX6_group 71 = .ok (.iload 5, 2) := by decide +kernel
theorem dX6_group_73 : decode cX6_group 73 = .ok (.invokestatic 127, 3) := by decide +kernel
theorem dX6_group_76 : decode cX6_group 76 = .ok (.iconst 1, 1) := by decide +kernel
theorem dX6_group_77 : decode cX6_group 77 = .ok (.if_icmp .le 7, 3) := by decide +kernel
theorem dX6_group_80 : decode cX6_group 80 = .ok (.iconst 1, 1) := by decide +kernel
theorem dX6_group_81 : decode cX6_group 81 = .ok (.goto 4, 3) := by decide +kernel
theorem dX6_group_84 : decode cX6_group 84 = .ok (.iconst 0, 1) := by decide +kernel
theorem dX6_group_85 : decode cX6_group 85 = .ok (.iadd, 1) := by decide +kernel
theorem dX6_group_86 : decode cX6_group 86 = .ok (.istore_n 3, 1) := by decide +kernel
theorem dX6_group_87 : decode cX6_group 87 = .ok (.iinc 4 1, 3) := by decide +kernel
theorem dX6_group_90 : decode cX6_group 90 = .ok (.goto (-58), 3) := by decide +kernel
theorem dX6_group_93 : decode cX6_group 93 = .ok (.iload_n 3, 1) := by decide +kernel
theorem dX6_group_94 : decode cX6_group 94 = .ok (.ireturn, 1) := by decide +kernel
theorem dX6_neverOf_0 : decode cX6_neverOf 0 = .ok (.iconst 0, 1) := by decide +kernel
theorem dX6_neverOf_1 : decode cX6_neverOf 1 = .ok (.istore_n 1, 1) := by decide +kernel
theorem dX6_neverOf_2 : decode cX6_neverOf 2 = .ok (.iconst 0, 1) := by decide +kernel
theorem dX6_neverOf_3 : decode cX6_neverOf 3 = .ok (.istore_n 2, 1) := by decide +kernel
theorem dX6_neverOf_4 : decode cX6_neverOf 4 = .ok (.iload_n 2, 1) := by decide +kernel
theorem dX6_neverOf_5 : decode cX6_neverOf 5 = .ok (.aload_n 0, 1) := by decide +kernel
theorem dX6_neverOf_6 : decode cX6_neverOf 6 = .ok (.getfield 88, 3) := by decide +kernel
theorem dX6_neverOf_9 : decode cX6_neverOf 9 = .ok (.if_icmp .ge 49, 3) := by decide +kernel
theorem dX6_neverOf_12 : decode cX6_neverOf 12 = .ok (.iload_n 1, 1) := by decide +kernel
theorem dX6_neverOf_13 : decode cX6_neverOf 13 = .ok (.aload_n 0, 1) := by decide +kernel
theorem dX6_neverOf_14 : decode cX6_neverOf 14 = .ok (.iload_n 2, 1) := by decide +kernel
theorem dX6_neverOf_15 : decode cX6_neverOf 15 = .ok (.invokevirtual 95, 3) := by decide +kernel
theorem dX6_neverOf_18 : decode cX6_neverOf 18 = .ok (.ifCond .ne 31, 3) := by decide +kernel
theorem dX6_neverOf_21 : decode cX6_neverOf 21 = .ok (.aload_n 0, 1) := by decide +kernel
theorem dX6_neverOf_22 : decode cX6_neverOf 22 = .ok (.getfield 25, 3) := by decide +kernel
theorem dX6_neverOf_25 : decode cX6_neverOf 25 = .ok (.iload_n 2, 1) := by decide +kernel
theorem dX6_neverOf_26 : decode cX6_neverOf 26 = .ok (.iaload, 1) := by decide +kernel
theorem dX6_neverOf_27 : decode cX6_neverOf 27 = .ok (.bipush 9, 2) := by decide +kernel
theorem dX6_neverOf_29 : decode cX6_neverOf 29 = .ok (.if_icmp .le 20, 3) := by decide +kernel
theorem dX6_neverOf_32 : decode cX6_neverOf 32 = .ok (.aload_n 0, 1) := by decide +kernel
theorem dX6_neverOf_33 : decode cX6_neverOf 33 = .ok (.getfield 28, 3) := by decide +kernel
theorem dX6_neverOf_36 : decode cX6_neverOf 36 = .ok (.iload_n 2, 1) := by decide +kernel
theorem dX6_neverOf_37 : decode cX6_neverOf 37 = .ok (.iaload, 1) := by decide +kernel
theorem dX6_neverOf_38 : decode cX6_neverOf 38 = .ok (.bipush 9, 2) := by decide +kernel
theorem dX6_neverOf_40 : decode cX6_neverOf 40 = .ok (.if_icmp .le 9, 3) := by decide +kernel
theorem dX6_neverOf_43 : decode cX6_neverOf 43 = .ok (.iconst 1, 1) := by decide +kernel
theorem dX6_neverOf_44 : decode cX6_neverOf 44 = .ok (.iload_n 2, 1) := by decide +kernel
theorem dX6_neverOf_45 : decode cX6_neverOf 45 = .ok (.ishl, 1) := by decide +kernel
theorem dX6_neverOf_46 : decode cX6_neverOf 46 = .ok (.goto 4, 3) := by decide +kernel
theorem dX6_neverOf_49 : decode cX6_neverOf 49 = .ok (.iconst 0, 1) := by decide +kernel
theorem dX6_neverOf_50 : decode cX6_neverOf 50 = .ok (.ior, 1) := by decide +kernel
theorem dX6_neverOf_51 : decode cX6_neverOf 51 = .ok (.istore_n 1, 1) := by decide +kernel
theorem dX6_neverOf_52 : decode cX6_neverOf 52 = .ok (.iinc 2 1, 3) := by decide +kernel
theorem dX6_neverOf_55 : decode cX6_neverOf 55 = .ok (.goto (-51), 3) := by decide +kernel
theorem dX6_neverOf_58 : decode cX6_neverOf 58 = .ok (.iload_n 1, 1) := by decide +kernel
theorem dX6_neverOf_59 : decode cX6_neverOf 59 = .ok (.ireturn, 1) := by decide +kernel
theorem dX6_never_0 : decode cX6_never 0 = .ok (.aload_n 0, 1) := by decide +kernel
theorem dX6_never_1 : decode cX6_never 1 = .ok (.invokevirtual 224, 3) := by decide +kernel
theorem dX6_never_4 : decode cX6_never 4 = .ok (.ireturn, 1) := by decide +kernel
theorem dX6_done_0 : decode cX6_done 0 = .ok (.bipush 6, 2) := by decide +kernel
theorem dX6_done_2 : decode cX6_done 2 = .ok (.aload_n 0, 1) := by decide +kernel
theorem dX6_done_3 : decode cX6_done 3 = .ok (.getfield 73, 3) := by decide +kernel
theorem dX6_done_6 : decode cX6_done 6 = .ok (.imul, 1) := by decide +kernel
theorem dX6_done_7 : decode cX6_done 7 = .ok (.istore_n 3, 1) := by decide +kernel
theorem dX6_done_8 : decode cX6_done 8 = .ok (.iload_n 1, 1) := by decide +kernel
theorem dX6_done_9 : decode cX6_done 9 = .ok (.istore 4, 2) := by decide +kernel
theorem dX6_done_11 : decode cX6_done 11 = .ok (.iload_n 2, 1) := by decide +kernel
theorem dX6_done_12 : decode cX6_done 12 = .ok (.iconst 1, 1) := by decide +kernel
theorem dX6_done_13 : decode cX6_done 13 = .ok (.isub, 1) := by decide +kernel
theorem dX6_done_14 : decode cX6_done 14 = .ok (.istore 5, 2) := by decide +kernel
theorem dX6_done_16 : decode cX6_done 16 = .ok (.iload 5, 2) := by decide +kernel
theorem dX6_done_18 : decode cX6_done 18 = .ok (.ifCond .lt 26, 3) := by decide +kernel
theorem dX6_done_21 : decode cX6_done 21 = .ok (.aload_n 0, 1) := by decide +kernel
theorem dX6_done_22 : decode cX6_done 22 = .ok (.getfield 46, 3) := by decide +kernel
theorem dX6_done_25 : decode cX6_done 25 = .ok (.iload 5, 2) := by decide +kernel
theorem dX6_done_27 : decode cX6_done 27 = .ok (.iload 4, 2) := by decide +kernel
theorem dX6_done_29 : decode cX6_done 29 = .ok (.iload_n 3, 1) := by decide +kernel
theorem dX6_done_30 : decode cX6_done 30 = .ok (.irem, 1) := by decide +kernel
theorem dX6_done_31 : decode cX6_done 31 = .ok (.iastore, 1) := by decide +kernel
theorem dX6_done_32 : decode cX6_done 32 = .ok (.iload 4, 2) := by decide +kernel
theorem dX6_done_34 : decode cX6_done 34 = .ok (.iload_n 3, 1) := by decide +kernel
theorem dX6_done_35 : decode cX6_done 35 = .ok (.idiv, 1) := by decide +kernel
theorem dX6_done_36 : decode cX6_done 36 = .ok (.istore 4, 2) := by decide +kernel
theorem dX6_done_38 : decode cX6_done 38 = .ok (.iinc 5 (-1), 3) := by decide +kernel
theorem dX6_done_41 : decode cX6_done 41 = .ok (.goto (-25), 3) := by decide +kernel
theorem dX6_done_44 : decode cX6_done 44 = .ok (.iconst 0, 1) := by decide +kernel
theorem dX6_done_45 : decode cX6_done 45 = .ok (.istore 5, 2) := by decide +kernel
theorem dX6_done_47 : decode cX6_done 47 = .ok (.iload 5, 2) := by decide +kernel
theorem dX6_done_49 : decode cX6_done 49 = .ok (.iload_n 2, 1) := by decide +kernel
theorem dX6_done_50 : decode cX6_done 50 = .ok (.if_icmp .ge 64, 3) := by decide +kernel
theorem dX6_done_53 : decode cX6_done 53 = .ok (.aload_n 0, 1) := by decide +kernel
theorem dX6_done_54 : decode cX6_done 54 = .ok (.getfield 19, 3) := by decide +kernel
theorem dX6_done_57 : decode cX6_done 57 = .ok (.aload_n 0, 1) := by decide +kernel
theorem dX6_done_58 : decode cX6_done 58 = .ok (.getfield 46, 3) := by decide +kernel
theorem dX6_done_61 : decode cX6_done 61 = .ok (.iload 5, 2) := by decide +kernel
theorem dX6_done_63 : decode cX6_done 63 = .ok (.iaload, 1) := by decide +kernel
theorem dX6_done_64 : decode cX6_done 64 = .ok (.bipush 6, 2) := by decide +kernel
theorem dX6_done_66 : decode cX6_done 66 = .ok (.idiv, 1) := by decide +kernel
theorem dX6_done_67 : decode cX6_done 67 = .ok (.iaload, 1) := by decide +kernel
theorem dX6_done_68 : decode cX6_done 68 = .ok (.aload_n 0, 1) := by decide +kernel
theorem dX6_done_69 : decode cX6_done 69 = .ok (.getfield 46, 3) := by decide +kernel
theorem dX6_done_72 : decode cX6_done 72 = .ok (.iload 5, 2) := by decide +kernel
theorem dX6_done_74 : decode cX6_done 74 = .ok (.iaload, 1) := by decide +kernel
theorem dX6_done_75 : decode cX6_done 75 = .ok (.bipush 6, 2) := by decide +kernel
theorem dX6_done_77 : decode cX6_done 77 = .ok (.irem, 1) := by decide +kernel
theorem dX6_done_78 : decode cX6_done 78 = .ok (.if_icmp .ne 5, 3) := by decide +kernel
theorem dX6_done_81 : decode cX6_done 81 = .ok (.iconst 0, 1) := by decide +kernel
theorem dX6_done_82 : decode cX6_done 82 = .ok (.ireturn, 1) := by decide +kernel
theorem dX6_done_83 : decode cX6_done 83 = .ok (.aload_n 0, 1) := by decide +kernel
theorem dX6_done_84 : decode cX6_done 84 = .ok (.aload_n 0, 1) := by decide +kernel
theorem dX6_done_85 : decode cX6_done 85 = .ok (.getfield 46, 3) := by decide +kernel
theorem dX6_done_88 : decode cX6_done 88 = .ok (.iload 5, 2) := by decide +kernel
theorem dX6_done_90 : decode cX6_done 90 = .ok (.iaload, 1) := by decide +kernel
theorem dX6_done_91 : decode cX6_done 91 = .ok (.bipush 6, 2) := by decide +kernel
theorem dX6_done_93 : decode cX6_done 93 = .ok (.idiv, 1) := by decide +kernel
theorem dX6_done_94 : decode cX6_done 94 = .ok (.aload_n 0, 1) := by decide +kernel
theorem dX6_done_95 : decode cX6_done 95 = .ok (.getfield 46, 3) := by decide +kernel
theorem dX6_done_98 : decode cX6_done 98 = .ok (.iload 5, 2) := by decide +kernel
theorem dX6_done_100 : decode cX6_done 100 = .ok (.iaload, 1) := by decide +kernel
theorem dX6_done_101 : decode cX6_done 101 = .ok (.bipush 6, 2) := by decide +kernel
theorem dX6_done_103 : decode cX6_done 103 = .ok (.irem, 1) := by decide +kernel
theorem dX6_done_104 : decode cX6_done 104 = .ok (.invokevirtual 189, 3) := by decide +kernel
theorem dX6_done_107 : decode cX6_done 107 = .ok (.pop, 1) := by decide +kernel
theorem dX6_done_108 : decode cX6_done 108 = .ok (.iinc 5 1, 3) := by decide +kernel
theorem dX6_done_111 : decode cX6_done 111 = .ok (.goto (-64), 3) := by decide +kernel
theorem dX6_done_114 : decode cX6_done 114 = .ok (.iconst 1, 1) := by decide +kernel
theorem dX6_done_115 : decode cX6_done 115 = .ok (.ireturn, 1) := by decide +kernel
theorem dX6_notes_0 : decode cX6_notes 0 = .ok (.iconst 0, 1) := by decide +kernel
theorem dX6_notes_1 : decode cX6_notes 1 = .ok (.istore_n 2, 1) := by decide +kernel
theorem dX6_notes_2 : decode cX6_notes 2 = .ok (.iload_n 2, 1) := by decide +kernel
theorem dX6_notes_3 : decode cX6_notes 3 = .ok (.iload_n 1, 1) := by decide +kernel
theorem dX6_notes_4 : decode cX6_notes 4 = .ok (.if_icmp .ge 37, 3) := by decide +kernel
theorem dX6_notes_7 : decode cX6_notes 7 = .ok (.aload_n 0, 1) := by decide +kernel
theorem dX6_notes_8 : decode cX6_notes 8 = .ok (.getfield 49, 3) := by decide +kernel
theorem dX6_notes_11 : decode cX6_notes 11 = .ok (.iload_n 2, 1) := by decide +kernel
theorem dX6_notes_12 : decode cX6_notes 12 = .ok (.bipush 10, 2) := by decide +kernel
theorem dX6_notes_14 : decode cX6_notes 14 = .ok (.aload_n 0, 1) := by decide +kernel
theorem dX6_notes_15 : decode cX6_notes 15 = .ok (.getfield 46, 3) := by decide +kernel
theorem dX6_notes_18 : decode cX6_notes 18 = .ok (.iload_n 2, 1) := by decide +kernel
theorem dX6_notes_19 : decode cX6_notes 19 = .ok (.iaload, 1) := by decide +kernel
theorem dX6_notes_20 : decode cX6_notes 20 = .ok (.bipush 6, 2) := by decide +kernel
theorem dX6_notes_22 : decode cX6_notes 22 = .ok (.idiv, 1) := by decide +kernel
theorem dX6_notes_23 : decode cX6_notes 23 = .ok (.imul, 1) := by decide +kernel
theorem dX6_notes_24 : decode cX6_notes 24 = .ok (.aload_n 0, 1) := by decide +kernel
theorem dX6_notes_25 : decode cX6_notes 25 = .ok (.getfield 46, 3) := by decide +kernel
theorem dX6_notes_28 : decode cX6_notes 28 = .ok (.iload_n 2, 1) := by decide +kernel
theorem dX6_notes_29 : decode cX6_notes 29 = .ok (.iaload, 1) := by decide +kernel
theorem dX6_notes_30 : decode cX6_notes 30 = .ok (.bipush 6, 2) := by decide +kernel
theorem dX6_notes_32 : decode cX6_notes 32 = .ok (.irem, 1) := by decide +kernel
theorem dX6_notes_33 : decode cX6_notes 33 = .ok (.iadd, 1) := by decide +kernel
theorem dX6_notes_34 : decode cX6_notes 34 = .ok (.iastore, 1) := by decide +kernel
theorem dX6_notes_35 : decode cX6_notes 35 = .ok (.iinc 2 1, 3) := by decide +kernel
theorem dX6_notes_38 : decode cX6_notes 38 = .ok (.goto (-36), 3) := by decide +kernel
theorem dX6_notes_41 : decode cX6_notes 41 = .ok (.return_, 1) := by decide +kernel
theorem dX6_fewestOf_0 : decode cX6_fewestOf 0 = .ok (.iconst 1, 1) := by decide +kernel
theorem dX6_fewestOf_1 : decode cX6_fewestOf 1 = .ok (.aload_n 0, 1) := by decide +kernel
theorem dX6_fewestOf_2 : decode cX6_fewestOf 2 = .ok (.getfield 88, 3) := by decide +kernel
theorem dX6_fewestOf_5 : decode cX6_fewestOf 5 = .ok (.ishl, 1) := by decide +kernel
theorem dX6_fewestOf_6 : decode cX6_fewestOf 6 = .ok (.iconst 1, 1) := by decide +kernel
theorem dX6_fewestOf_7 : decode cX6_fewestOf 7 = .ok (.isub, 1) := by decide +kernel
theorem dX6_fewestOf_8 : decode cX6_fewestOf 8 = .ok (.aload_n 0, 1) := by decide +kernel
theorem dX6_fewestOf_9 : decode cX6_fewestOf 9 = .ok (.invokevirtual 224, 3) := by decide +kernel
theorem dX6_fewestOf_12 : decode cX6_fewestOf 12 = .ok (.iconst (-1), 1) := by decide +kernel
theorem dX6_fewestOf_13 : decode cX6_fewestOf 13 = .ok (.ixor, 1) := by decide +kernel
theorem dX6_fewestOf_14 : decode cX6_fewestOf 14 = .ok (.iand, 1) := by decide +kernel
theorem dX6_fewestOf_15 : decode cX6_fewestOf 15 = .ok (.istore_n 1, 1) := by decide +kernel
theorem dX6_fewestOf_16 : decode cX6_fewestOf 16 = .ok (.iconst 1, 1) := by decide +kernel
theorem dX6_fewestOf_17 : decode cX6_fewestOf 17 = .ok (.istore_n 2, 1) := by decide +kernel
theorem dX6_fewestOf_18 : decode cX6_fewestOf 18 = .ok (.aload_n 0, 1) := by decide +kernel
theorem dX6_fewestOf_19 : decode cX6_fewestOf 19 = .ok (.invokevirtual 198, 3) := by decide +kernel
theorem dX6_fewestOf_22 : decode cX6_fewestOf 22 = .ok (.iconst 0, 1) := by decide +kernel
theorem dX6_fewestOf_23 : decode cX6_fewestOf 23 = .ok (.istore_n 3, 1) := by decide +kernel
theorem dX6_fewestOf_24 : decode cX6_fewestOf 24 = .ok (.iload_n 3, 1) := by decide +kernel
theorem dX6_fewestOf_25 : decode cX6_fewestOf 25 = .ok (.iconst 4, 1) := by decide +kernel
theorem dX6_fewestOf_26 : decode cX6_fewestOf 26 = .ok (.if_icmp .ge 77, 3) := by decide +kernel
theorem dX6_fewestOf_29 : decode cX6_fewestOf 29 = .ok (.iconst 0, 1) := by decide +kernel
theorem dX6_fewestOf_30 : decode cX6_fewestOf 30 = .ok (.istore 4, 2) := by decide +kernel
theorem dX6_fewestOf_32 : decode cX6_fewestOf 32 = .ok (.iload 4, 2) := by decide +kernel
theorem dX6_fewestOf_34 : decode cX6_fewestOf 34 = .ok (.iload_n 2, 1) := by decide +kernel
theorem dX6_fewestOf_35 : decode cX6_fewestOf 35 = .ok (.if_icmp .ge 52, 3) := by decide +kernel
theorem dX6_fewestOf_38 : decode cX6_fewestOf 38 = .ok (.aload_n 0, 1) := by decide +kernel
theorem dX6_fewestOf_39 : decode cX6_fewestOf 39 = .ok (.iload 4, 2) := by decide +kernel
theorem dX6_fewestOf_41 : decode cX6_fewestOf 41 = .ok (.iload_n 3, 1) := by decide +kernel
theorem dX6_fewestOf_42 : decode cX6_fewestOf 42 = .ok (.invokevirtual 227, 3) := by decide +kernel
theorem dX6_fewestOf_45 : decode cX6_fewestOf 45 = .ok (.ifCond .eq 17, 3) := by decide +kernel
theorem dX6_fewestOf_48 : decode cX6_fewestOf 48 = .ok (.aload_n 0, 1) := by decide +kernel
theorem dX6_fewestOf_49 : decode cX6_fewestOf 49 = .ok (.getfield 85, 3) := by decide +kernel
theorem dX6_fewestOf_52 : decode cX6_fewestOf 52 = .ok (.iload_n 1, 1) := by decide +kernel
theorem dX6_fewestOf_53 : decode cX6_fewestOf 53 = .ok (.iand, 1) := by decide +kernel
theorem dX6_fewestOf_54 : decode cX6_fewestOf 54 = .ok (.iload_n 1, 1) := by decide +kernel
theorem dX6_fewestOf_55 : decode cX6_fewestOf 55 = .ok (.if_icmp .ne 7, 3) := by decide +kernel
theorem dX6_fewestOf_58 : decode cX6_fewestOf 58 = .ok (.iconst 1, 1) := by decide +kernel
theorem dX6_fewestOf_59 : decode cX6_fewestOf 59 = .ok (.goto 4, 3) := by decide +kernel
theorem dX6_fewestOf_62 : decode cX6_fewestOf 62 = .ok (.iconst 0, 1) := by decide +kernel
theorem dX6_fewestOf_63 : decode cX6_fewestOf 63 = .ok (.istore 5, 2) := by decide +kernel
theorem dX6_fewestOf_65 : decode cX6_fewestOf 65 = .ok (.aload_n 0, 1) := by decide +kernel
theorem dX6_fewestOf_66 : decode cX6_fewestOf 66 = .ok (.invokevirtual 201, 3) := by decide +kernel
theorem dX6_fewestOf_69 : decode cX6_fewestOf 69 = .ok (.iload 5, 2) := by decide +kernel
theorem dX6_fewestOf_71 : decode cX6_fewestOf 71 = .ok (.ifCond .eq 10, 3) := by decide +kernel
theorem dX6_fewestOf_74 : decode cX6_fewestOf 74 = .ok (.aload_n 0, 1) := by decide +kernel
theorem dX6_fewestOf_75 : decode cX6_fewestOf 75 = .ok (.iload_n 3, 1) := by decide +kernel
theorem dX6_fewestOf_76 : decode cX6_fewestOf 76 = .ok (.invokevirtual 231, 3) := by decide +kernel
theorem dX6_fewestOf_79 : decode cX6_fewestOf 79 = .ok (.iload_n 3, 1) := by decide +kernel
theorem dX6_fewestOf_80 : decode cX6_fewestOf 80 = .ok (.ireturn, 1) := by decide +kernel
theorem dX6_fewestOf_81 : decode cX6_fewestOf 81 = .ok (.iinc 4 1, 3) := by decide +kernel
theorem dX6_fewestOf_84 : decode cX6_fewestOf 84 = .ok (.goto (-52), 3) := by decide +kernel
theorem dX6_fewestOf_87 : decode cX6_fewestOf 87 = .ok (.iload_n 2, 1) := by decide +kernel
theorem dX6_fewestOf_88 : decode cX6_fewestOf 88 = .ok (.bipush 6, 2) := by decide +kernel
theorem dX6_fewestOf_90 : decode cX6_fewestOf 90 = .ok (.aload_n 0, 1) := by decide +kernel
theorem dX6_fewestOf_91 : decode cX6_fewestOf 91 = .ok (.getfield 73, 3) := by decide +kernel
theorem dX6_fewestOf_94 : decode cX6_fewestOf 94 = .ok (.imul, 1) := by decide +kernel
theorem dX6_fewestOf_95 : decode cX6_fewestOf 95 = .ok (.imul, 1) := by decide +kernel
theorem dX6_fewestOf_96 : decode cX6_fewestOf 96 = .ok (.istore_n 2, 1) := by decide +kernel
theorem dX6_fewestOf_97 : decode cX6_fewestOf 97 = .ok (.iinc 3 1, 3) := by decide +kernel
theorem dX6_fewestOf_100 : decode cX6_fewestOf 100 = .ok (.goto (-76), 3) := by decide +kernel
theorem dX6_fewestOf_103 : decode cX6_fewestOf 103 = .ok (.iconst 4, 1) := by decide +kernel
theorem dX6_fewestOf_104 : decode cX6_fewestOf 104 = .ok (.ireturn, 1) := by decide +kernel
theorem dX6_fewest_0 : decode cX6_fewest 0 = .ok (.iload_n 1, 1) := by decide +kernel
theorem dX6_fewest_1 : decode cX6_fewest 1 = .ok (.i2l, 1) := by decide +kernel
theorem dX6_fewest_2 : decode cX6_fewest 2 = .ok (.ldc2_w 234, 3) := by decide +kernel
theorem dX6_fewest_5 : decode cX6_fewest 5 = .ok (.ldc2_w 236, 3) := by decide +kernel
theorem dX6_fewest_8 : decode cX6_fewest 8 = .ok (.invokestatic 69, 3) := by decide +kernel
theorem dX6_fewest_11 : decode cX6_fewest 11 = .ok (.ifCond .ne 5, 3) := by decide +kernel
theorem dX6_fewest_14 : decode cX6_fewest 14 = .ok (.iconst (-1), 1) := by decide +kernel
theorem dX6_fewest_15 : decode cX6_fewest 15 = .ok (.ireturn, 1) := by decide +kernel
theorem dX6_fewest_16 : decode cX6_fewest 16 = .ok (.aload_n 0, 1) := by decide +kernel
theorem dX6_fewest_17 : decode cX6_fewest 17 = .ok (.invokevirtual 238, 3) := by decide +kernel
theorem dX6_fewest_20 : decode cX6_fewest 20 = .ok (.istore_n 2, 1) := by decide +kernel
theorem dX6_fewest_21 : decode cX6_fewest 21 = .ok (.iload_n 2, 1) := by decide +kernel
theorem dX6_fewest_22 : decode cX6_fewest 22 = .ok (.iconst 4, 1) := by decide +kernel
theorem dX6_fewest_23 : decode cX6_fewest 23 = .ok (.if_icmp .ne 8, 3) := by decide +kernel
theorem dX6_fewest_26 : decode cX6_fewest 26 = .ok (.bipush (-4), 2) := by decide +kernel
theorem dX6_fewest_28 : decode cX6_fewest 28 = .ok (.goto 27, 3) := by decide +kernel
theorem dX6_fewest_31 : decode cX6_fewest 31 = .ok (.iload_n 1, 1) := by decide +kernel
theorem dX6_fewest_32 : decode cX6_fewest 32 = .ok (.ifCond .ge 7, 3) := by decide +kernel
theorem dX6_fewest_35 : decode cX6_fewest 35 = .ok (.iload_n 2, 1) := by decide +kernel
theorem dX6_fewest_36 : decode cX6_fewest 36 = .ok (.goto 19, 3) := by decide +kernel
theorem dX6_fewest_39 : decode cX6_fewest 39 = .ok (.iload_n 1, 1) := by decide +kernel
theorem dX6_fewest_40 : decode cX6_fewest 40 = .ok (.iload_n 2, 1) := by decide +kernel
theorem dX6_fewest_41 : decode cX6_fewest 41 = .ok (.if_icmp .ge 12, 3) := by decide +kernel
theorem dX6_fewest_44 : decode cX6_fewest 44 = .ok (.aload_n 0, 1) := by decide +kernel
theorem dX6_fewest_45 : decode cX6_fewest 45 = .ok (.getfield 49, 3) := by decide +kernel
theorem dX6_fewest_48 : decode cX6_fewest 48 = .ok (.iload_n 1, 1) := by decide +kernel
theorem dX6_fewest_49 : decode cX6_fewest 49 = .ok (.iaload, 1) := by decide +kernel
theorem dX6_fewest_50 : decode cX6_fewest 50 = .ok (.goto 5, 3) := by decide +kernel
theorem dX6_fewest_53 : decode cX6_fewest 53 = .ok (.bipush (-4), 2) := by decide +kernel
theorem dX6_fewest_55 : decode cX6_fewest 55 = .ok (.ireturn, 1) := by decide +kernel
theorem dX6_bestOf_0 : decode cX6_bestOf 0 = .ok (.aload_n 0, 1) := by decide +kernel
theorem dX6_bestOf_1 : decode cX6_bestOf 1 = .ok (.invokevirtual 130, 3) := by decide +kernel
theorem dX6_bestOf_4 : decode cX6_bestOf 4 = .ok (.iload_n 1, 1) := by decide +kernel
theorem dX6_bestOf_5 : decode cX6_bestOf 5 = .ok (.imul, 1) := by decide +kernel
theorem dX6_bestOf_6 : decode cX6_bestOf 6 = .ok (.istore_n 2, 1) := by decide +kernel
theorem dX6_bestOf_7 : decode cX6_bestOf 7 = .ok (.aload_n 0, 1) := by decide +kernel
theorem dX6_bestOf_8 : decode cX6_bestOf 8 = .ok (.iconst 0, 1) := by decide +kernel
theorem dX6_bestOf_9 : decode cX6_bestOf 9 = .ok (.putfield 241, 3) := by decide +kernel
theorem dX6_bestOf_12 : decode cX6_bestOf 12 = .ok (.bipush 6, 2) := by decide +kernel
theorem dX6_bestOf_14 : decode cX6_bestOf 14 = .ok (.aload_n 0, 1) := by decide +kernel
theorem dX6_bestOf_15 : decode cX6_bestOf 15 = .ok (.getfield 73, 3) := by decide +kernel
theorem dX6_bestOf_18 : decode cX6_bestOf 18 = .ok (.imul, 1) := by decide +kernel
theorem dX6_bestOf_19 : decode cX6_bestOf 19 = .ok (.istore_n 3, 1) := by decide +kernel
theorem dX6_bestOf_20 : decode cX6_bestOf 20 = .ok (.aload_n 0, 1) := by decide +kernel
theorem dX6_bestOf_21 : decode cX6_bestOf 21 = .ok (.invokevirtual 198, 3) := by decide +kernel
theorem dX6_bestOf_24 : decode cX6_bestOf 24 = .ok (.iconst 1, 1) := by decide +kernel
theorem dX6_bestOf_25 : decode cX6_bestOf 25 = .ok (.istore 4, 2) := by decide +kernel
theorem dX6_bestOf_27 : decode cX6_bestOf 27 = .ok (.iload 4, 2) := by decide +kernel
theorem dX6_bestOf_29 : decode cX6_bestOf 29 = .ok (.iconst 3, 1) := by decide +kernel
theorem dX6_bestOf_30 : decode cX6_bestOf 30 = .ok (.if_icmp .ge 96, 3) := by decide +kernel
theorem dX6_bestOf_33 : decode cX6_bestOf 33 = .ok (.iconst 0, 1) := by decide +kernel
theorem dX6_bestOf_34 : decode cX6_bestOf 34 = .ok (.istore 5, 2) := by decide +kernel
theorem dX6_bestOf_36 : decode cX6_bestOf 36 = .ok (.iload 5, 2) := by decide +kernel
theorem dX6_bestOf_38 : decode cX6_bestOf 38 = .ok (.iload_n 3, 1) := by decide +kernel
theorem dX6_bestOf_39 : decode cX6_bestOf 39 = .ok (.if_icmp .ge 71, 3) := by decide +kernel
theorem dX6_bestOf_42 : decode cX6_bestOf 42 = .ok (.aload_n 0, 1) := by decide +kernel
theorem dX6_bestOf_43 : decode cX6_bestOf 43 = .ok (.iload 5, 2) := by decide +kernel
theorem dX6_bestOf_45 : decode cX6_bestOf 45 = .ok (.iload 4, 2) := by decide +kernel
theorem dX6_bestOf_47 : decode cX6_bestOf 47 = .ok (.invokevirtual 227, 3) := by decide +kernel
theorem dX6_bestOf_50 : decode cX6_bestOf 50 = .ok (.ifCond .eq 20, 3) := by decide +kernel
theorem dX6_bestOf_53 : decode cX6_bestOf 53 = .ok (.aload_n 0, 1) := by decide +kernel
theorem dX6_bestOf_54 : decode cX6_bestOf 54 = .ok (.invokevirtual 130, 3) := by decide +kernel
theorem dX6_bestOf_57 : decode cX6_bestOf 57 = .ok (.iload_n 1, 1) := by decide +kernel
theorem dX6_bestOf_58 : decode cX6_bestOf 58 = .ok (.imul, 1) := by decide +kernel
theorem dX6_bestOf_59 : decode cX6_bestOf 59 = .ok (.iload 4, 2) := by decide +kernel
theorem dX6_bestOf_61 : decode cX6_bestOf 61 = .ok (.iadd, 1) := by decide +kernel
theorem dX6_bestOf_62 : decode cX6_bestOf 62 = .ok (.iload_n 2, 1) := by decide +kernel
theorem dX6_bestOf_63 : decode cX6_bestOf 63 = .ok (.if_icmp .ge 7, 3) := by decide +kernel
theorem dX6_bestOf_66 : decode cX6_bestOf 66 = .ok (.iconst 1, 1) := by decide +kernel
theorem dX6_bestOf_67 : decode cX6_bestOf 67 = .ok (.goto 4, 3) := by decide +kernel
theorem dX6_bestOf_70 : decode cX6_bestOf 70 = .ok (.iconst 0, 1) := by decide +kernel
theorem dX6_bestOf_71 : decode cX6_bestOf 71 = .ok (.istore 6, 2) := by decide +kernel
theorem dX6_bestOf_73 : decode cX6_bestOf 73 = .ok (.iload 6, 2) := by decide +kernel
theorem dX6_bestOf_75 : decode cX6_bestOf 75 = .ok (.ifCond .eq 25, 3) := by decide +kernel
theorem dX6_bestOf_78 : decode cX6_bestOf 78 = .ok (.aload_n 0, 1) := by decide +kernel
theorem dX6_bestOf_79 : decode cX6_bestOf 79 = .ok (.invokevirtual 130, 3) := by decide +kernel
theorem dX6_bestOf_82 : decode cX6_bestOf 82 = .ok (.iload_n 1, 1) := by decide +kernel
theorem dX6_bestOf_83 : decode cX6_bestOf 83 = .ok (.imul, 1) := by decide +kernel
theorem dX6_bestOf_84 : decode cX6_bestOf 84 = .ok (.iload 4, 2) := by decide +kernel
theorem dX6_bestOf_86 : decode cX6_bestOf 86 = .ok (.iadd, 1) := by decide +kernel
theorem dX6_bestOf_87 : decode cX6_bestOf 87 = .ok (.istore_n 2, 1) := by decide +kernel
theorem dX6_bestOf_88 : decode cX6_bestOf 88 = .ok (.aload_n 0, 1) := by decide +kernel
theorem dX6_bestOf_89 : decode cX6_bestOf 89 = .ok (.iload 4, 2) := by decide +kernel
theorem dX6_bestOf_91 : decode cX6_bestOf 91 = .ok (.putfield 241, 3) := by decide +kernel
theorem dX6_bestOf_94 : decode cX6_bestOf 94 = .ok (.aload_n 0, 1) := by decide +kernel
theorem dX6_bestOf_95 : decode cX6_bestOf 95 = .ok (.iload 4, 2) := by decide +kernel
theorem dX6_bestOf_97 : decode cX6_bestOf 97 = .ok (.invokevirtual 231, 3) := by decide +kernel
theorem dX6_bestOf_100 : decode cX6_bestOf 100 = .ok (.aload_n 0, 1) := by decide +kernel
theorem dX6_bestOf_101 : decode cX6_bestOf 101 = .ok (.invokevirtual 201, 3) := by decide +kernel
theorem dX6_bestOf_104 : decode cX6_bestOf 104 = .ok (.iinc 5 1, 3) := by decide +kernel
theorem dX6_bestOf_107 : decode cX6_bestOf 107 = .ok (.goto (-71), 3) := by decide +kernel
theorem dX6_bestOf_110 : decode cX6_bestOf 110 = .ok (.iload_n 3, 1) := by decide +kernel
theorem dX6_bestOf_111 : decode cX6_bestOf 111 = .ok (.bipush 6, 2) := by decide +kernel
theorem dX6_bestOf_113 : decode cX6_bestOf 113 = .ok (.aload_n 0, 1) := by decide +kernel
theorem dX6_bestOf_114 : decode cX6_bestOf 114 = .ok (.getfield 73, 3) := by decide +kernel
theorem dX6_bestOf_117 : decode cX6_bestOf 117 = .ok (.imul, 1) := by decide +kernel
theorem dX6_bestOf_118 : decode cX6_bestOf 118 = .ok (.imul, 1) := by decide +kernel
theorem dX6_bestOf_119 : decode cX6_bestOf 119 = .ok (.istore_n 3, 1) := by decide +kernel
theorem dX6_bestOf_120 : decode cX6_bestOf 120 = .ok (.iinc 4 1, 3) := by decide +kernel
theorem dX6_bestOf_123 : decode cX6_bestOf 123 = .ok (.goto (-96), 3) := by decide +kernel
theorem dX6_bestOf_126 : decode cX6_bestOf 126 = .ok (.iload_n 2, 1) := by decide +kernel
theorem dX6_bestOf_127 : decode cX6_bestOf 127 = .ok (.ireturn, 1) := by decide +kernel
theorem dX6_best_0 : decode cX6_best 0 = .ok (.iload_n 1, 1) := by decide +kernel
theorem dX6_best_1 : decode cX6_best 1 = .ok (.i2l, 1) := by decide +kernel
theorem dX6_best_2 : decode cX6_best 2 = .ok (.lconst 1, 1) := by decide +kernel
theorem dX6_best_3 : decode cX6_best 3 = .ok (.ldc2_w 244, 3) := by decide +kernel
theorem dX6_best_6 : decode cX6_best 6 = .ok (.invokestatic 69, 3) := by decide +kernel
theorem dX6_best_9 : decode cX6_best 9 = .ok (.ifCond .eq 15, 3) := by decide +kernel
theorem dX6_best_12 : decode cX6_best 12 = .ok (.iload_n 2, 1) := by decide +kernel
theorem dX6_best_13 : decode cX6_best 13 = .ok (.i2l, 1) := by decide +kernel
theorem dX6_best_14 : decode cX6_best 14 = .ok (.ldc2_w 246, 3) := by decide +kernel
theorem dX6_best_17 : decode cX6_best 17 = .ok (.lconst 1, 1) := by decide +kernel
theorem dX6_best_18 : decode cX6_best 18 = .ok (.invokestatic 69, 3) := by decide +kernel
theorem dX6_best_21 : decode cX6_best 21 = .ok (.ifCond .ne 5, 3) := by decide +kernel
theorem dX6_best_24 : decode cX6_best 24 = .ok (.iconst (-1), 1) := by decide +kernel
theorem dX6_best_25 : decode cX6_best 25 = .ok (.ireturn, 1) := by decide +kernel
theorem dX6_best_26 : decode cX6_best 26 = .ok (.aload_n 0, 1) := by decide +kernel
theorem dX6_best_27 : decode cX6_best 27 = .ok (.iload_n 1, 1) := by decide +kernel
theorem dX6_best_28 : decode cX6_best 28 = .ok (.invokevirtual 248, 3) := by decide +kernel
theorem dX6_best_31 : decode cX6_best 31 = .ok (.istore_n 3, 1) := by decide +kernel
theorem dX6_best_32 : decode cX6_best 32 = .ok (.iload_n 2, 1) := by decide +kernel
theorem dX6_best_33 : decode cX6_best 33 = .ok (.bipush (-2), 2) := by decide +kernel
theorem dX6_best_35 : decode cX6_best 35 = .ok (.if_icmp .ne 7, 3) := by decide +kernel
theorem dX6_best_38 : decode cX6_best 38 = .ok (.iload_n 3, 1) := by decide +kernel
theorem dX6_best_39 : decode cX6_best 39 = .ok (.goto 34, 3) := by decide +kernel
theorem dX6_best_42 : decode cX6_best 42 = .ok (.iload_n 2, 1) := by decide +kernel
theorem dX6_best_43 : decode cX6_best 43 = .ok (.iconst (-1), 1) := by decide +kernel
theorem dX6_best_44 : decode cX6_best 44 = .ok (.if_icmp .ne 10, 3) := by decide +kernel
theorem dX6_best_47 : decode cX6_best 47 = .ok (.aload_n 0, 1) := by decide +kernel
theorem dX6_best_48 : decode cX6_best 48 = .ok (.getfield 241, 3) := by decide +kernel
theorem dX6_best_51 : decode cX6_best 51 = .ok (.goto 22, 3) := by decide +kernel
theorem dX6_best_54 : decode cX6_best 54 = .ok (.iload_n 2, 1) := by decide +kernel
theorem dX6_best_55 : decode cX6_best 55 = .ok (.aload_n 0, 1) := by decide +kernel
theorem dX6_best_56 : decode cX6_best 56 = .ok (.getfield 241, 3) := by decide +kernel
theorem dX6_best_59 : decode cX6_best 59 = .ok (.if_icmp .ge 12, 3) := by decide +kernel
theorem dX6_best_62 : decode cX6_best 62 = .ok (.aload_n 0, 1) := by decide +kernel
theorem dX6_best_63 : decode cX6_best 63 = .ok (.getfield 49, 3) := by decide +kernel
theorem dX6_best_66 : decode cX6_best 66 = .ok (.iload_n 2, 1) := by decide +kernel
