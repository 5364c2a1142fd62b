theorem dL_init_0 : decode cL_init 0 = .ok (.aload_n 0, 1) := by decide +kernel
theorem dL_init_1 : decode cL_init 1 = .ok (.invokespecial 1, 3) := by decide +kernel
theorem dL_init_4 : decode cL_init 4 = .ok (.aload_n 0, 1) := by decide +kernel
theorem dL_init_5 : decode cL_init 5 = .ok (.sipush 800, 3) := by decide +kernel
theorem dL_init_8 : decode cL_init 8 = .ok (.newarray .int, 2) := by decide +kernel
theorem dL_init_10 : decode cL_init 10 = .ok (.putfield 7, 3) := by decide +kernel
theorem dL_init_13 : decode cL_init 13 = .ok (.return_, 1) := by decide +kernel
theorem dL_writes_0 : decode cL_writes 0 = .ok (.iconst 0, 1) := by decide +kernel
theorem dL_writes_1 : decode cL_writes 1 = .ok (.istore_n 2, 1) := by decide +kernel
theorem dL_writes_2 : decode cL_writes 2 = .ok (.iload_n 2, 1) := by decide +kernel
theorem dL_writes_3 : decode cL_writes 3 = .ok (.aload_n 1, 1) := by decide +kernel
theorem dL_writes_4 : decode cL_writes 4 = .ok (.invokevirtual 13, 3) := by decide +kernel
theorem dL_writes_7 : decode cL_writes 7 = .ok (.if_icmp .ge 33, 3) := by decide +kernel
theorem dL_writes_10 : decode cL_writes 10 = .ok (.aload_n 0, 1) := by decide +kernel
theorem dL_writes_11 : decode cL_writes 11 = .ok (.getfield 7, 3) := by decide +kernel
theorem dL_writes_14 : decode cL_writes 14 = .ok (.aload_n 0, 1) := by decide +kernel
theorem dL_writes_15 : decode cL_writes 15 = .ok (.getfield 19, 3) := by decide +kernel
theorem dL_writes_18 : decode cL_writes 18 = .ok (.aload_n 1, 1) := by decide +kernel
theorem dL_writes_19 : decode cL_writes 19 = .ok (.iload_n 2, 1) := by decide +kernel
theorem dL_writes_20 : decode cL_writes 20 = .ok (.invokevirtual 23, 3) := by decide +kernel
theorem dL_writes_23 : decode cL_writes 23 = .ok (.iastore, 1) := by decide +kernel
theorem dL_writes_24 : decode cL_writes 24 = .ok (.aload_n 0, 1) := by decide +kernel
theorem dL_writes_25 : decode cL_writes 25 = .ok (.dup, 1) := by decide +kernel
theorem dL_writes_26 : decode cL_writes 26 = .ok (.getfield 19, 3) := by decide +kernel
theorem dL_writes_29 : decode cL_writes 29 = .ok (.iconst 1, 1) := by decide +kernel
theorem dL_writes_30 : decode cL_writes 30 = .ok (.iadd, 1) := by decide +kernel
theorem dL_writes_31 : decode cL_writes 31 = .ok (.putfield 19, 3) := by decide +kernel
theorem dL_writes_34 : decode cL_writes 34 = .ok (.iinc 2 1, 3) := by decide +kernel
theorem dL_writes_37 : decode cL_writes 37 = .ok (.goto (-35), 3) := by decide +kernel
theorem dL_writes_40 : decode cL_writes 40 = .ok (.return_, 1) := by decide +kernel
theorem dL_number_0 : decode cL_number 0 = .ok (.iconst 1, 1) := by decide +kernel
theorem dL_number_1 : decode cL_number 1 = .ok (.istore_n 2, 1) := by decide +kernel
theorem dL_number_2 : decode cL_number 2 = .ok (.iload_n 1, 1) := by decide +kernel
theorem dL_number_3 : decode cL_number 3 = .ok (.iload_n 2, 1) := by decide +kernel
theorem dL_number_4 : decode cL_number 4 = .ok (.idiv, 1) := by decide +kernel
theorem dL_number_5 : decode cL_number 5 = .ok (.bipush 9, 2) := by decide +kernel
theorem dL_number_7 : decode cL_number 7 = .ok (.if_icmp .le 11, 3) := by decide +kernel
theorem dL_number_10 : decode cL_number 10 = .ok (.iload_n 2, 1) := by decide +kernel
theorem dL_number_11 : decode cL_number 11 = .ok (.bipush 10, 2) := by decide +kernel
theorem dL_number_13 : decode cL_number 13 = .ok (.imul, 1) := by decide +kernel
theorem dL_number_14 : decode cL_number 14 = .ok (.istore_n 2, 1) := by decide +kernel
theorem dL_number_15 : decode cL_number 15 = .ok (.goto (-13), 3) := by decide +kernel
theorem dL_number_18 : decode cL_number 18 = .ok (.iload_n 2, 1) := by decide +kernel
theorem dL_number_19 : decode cL_number 19 = .ok (.ifCond .le 39, 3) := by decide +kernel
theorem dL_number_22 : decode cL_number 22 = .ok (.aload_n 0, 1) := by decide +kernel
theorem dL_number_23 : decode cL_number 23 = .ok (.getfield 7, 3) := by decide +kernel
theorem dL_number_26 : decode cL_number 26 = .ok (.aload_n 0, 1) := by decide +kernel
theorem dL_number_27 : decode cL_number 27 = .ok (.getfield 19, 3) := by decide +kernel
theorem dL_number_30 : decode cL_number 30 = .ok (.bipush 48, 2) := by decide +kernel
theorem dL_number_32 : decode cL_number 32 = .ok (.iload_n 1, 1) := by decide +kernel
theorem dL_number_33 : decode cL_number 33 = .ok (.iload_n 2, 1) := by decide +kernel
theorem dL_number_34 : decode cL_number 34 = .ok (.idiv, 1) := by decide +kernel
theorem dL_number_35 : decode cL_number 35 = .ok (.bipush 10, 2) := by decide +kernel
theorem dL_number_37 : decode cL_number 37 = .ok (.irem, 1) := by decide +kernel
theorem dL_number_38 : decode cL_number 38 = .ok (.iadd, 1) := by decide +kernel
theorem dL_number_39 : decode cL_number 39 = .ok (.iastore, 1) := by decide +kernel
theorem dL_number_40 : decode cL_number 40 = .ok (.aload_n 0, 1) := by decide +kernel
theorem dL_number_41 : decode cL_number 41 = .ok (.dup, 1) := by decide +kernel
theorem dL_number_42 : decode cL_number 42 = .ok (.getfield 19, 3) := by decide +kernel
theorem dL_number_45 : decode cL_number 45 = .ok (.iconst 1, 1) := by decide +kernel
theorem dL_number_46 : decode cL_number 46 = .ok (.iadd, 1) := by decide +kernel
theorem dL_number_47 : decode cL_number 47 = .ok (.putfield 19, 3) := by decide +kernel
theorem dL_number_50 : decode cL_number 50 = .ok (.iload_n 2, 1) := by decide +kernel
theorem dL_number_51 : decode cL_number 51 = .ok (.bipush 10, 2) := by decide +kernel
theorem dL_number_53 : decode cL_number 53 = .ok (.idiv, 1) := by decide +kernel
theorem dL_number_54 : decode cL_number 54 = .ok (.istore_n 2, 1) := by decide +kernel
theorem dL_number_55 : decode cL_number 55 = .ok (.goto (-37), 3) := by decide +kernel
theorem dL_number_58 : decode cL_number 58 = .ok (.return_, 1) := by decide +kernel
theorem dL_cell_0 : decode cL_cell 0 = .ok (.iload_n 1, 1) := by decide +kernel
theorem dL_cell_1 : decode cL_cell 1 = .ok (.aload_n 0, 1) := by decide +kernel
theorem dL_cell_2 : decode cL_cell 2 = .ok (.arraylength, 1) := by decide +kernel
theorem dL_cell_3 : decode cL_cell 3 = .ok (.if_icmp .ge 12, 3) := by decide +kernel
theorem dL_cell_6 : decode cL_cell 6 = .ok (.aload_n 0, 1) := by decide +kernel
theorem dL_cell_7 : decode cL_cell 7 = .ok (.iload_n 1, 1) := by decide +kernel
theorem dL_cell_8 : decode cL_cell 8 = .ok (.iaload, 1) := by decide +kernel
theorem dL_cell_9 : decode cL_cell 9 = .ok (.ldc 27, 2) := by decide +kernel
theorem dL_cell_11 : decode cL_cell 11 = .ok (.iand, 1) := by decide +kernel
theorem dL_cell_12 : decode cL_cell 12 = .ok (.goto 4, 3) := by decide +kernel
theorem dL_cell_15 : decode cL_cell 15 = .ok (.iconst 0, 1) := by decide +kernel
theorem dL_cell_16 : decode cL_cell 16 = .ok (.ireturn, 1) := by decide +kernel
theorem dL_feeds_0 : decode cL_feeds 0 = .ok (.iconst 0, 1) := by decide +kernel
theorem dL_feeds_1 : decode cL_feeds 1 = .ok (.istore_n 2, 1) := by decide +kernel
theorem dL_feeds_2 : decode cL_feeds 2 = .ok (.iload_n 2, 1) := by decide +kernel
theorem dL_feeds_3 : decode cL_feeds 3 = .ok (.aload_n 0, 1) := by decide +kernel
theorem dL_feeds_4 : decode cL_feeds 4 = .ok (.getfield 19, 3) := by decide +kernel
theorem dL_feeds_7 : decode cL_feeds 7 = .ok (.if_icmp .ge 90, 3) := by decide +kernel
theorem dL_feeds_10 : decode cL_feeds 10 = .ok (.iconst 5, 1) := by decide +kernel
theorem dL_feeds_11 : decode cL_feeds 11 = .ok (.newarray .int, 2) := by decide +kernel
theorem dL_feeds_13 : decode cL_feeds 13 = .ok (.astore_n 3, 1) := by decide +kernel
theorem dL_feeds_14 : decode cL_feeds 14 = .ok (.iconst 0, 1) := by decide +kernel
theorem dL_feeds_15 : decode cL_feeds 15 = .ok (.istore 4, 2) := by decide +kernel
theorem dL_feeds_17 : decode cL_feeds 17 = .ok (.iload 4, 2) := by decide +kernel
theorem dL_feeds_19 : decode cL_feeds 19 = .ok (.bipush 20, 2) := by decide +kernel
theorem dL_feeds_21 : decode cL_feeds 21 = .ok (.if_icmp .ge 50, 3) := by decide +kernel
theorem dL_feeds_24 : decode cL_feeds 24 = .ok (.aload_n 3, 1) := by decide +kernel
theorem dL_feeds_25 : decode cL_feeds 25 = .ok (.iload 4, 2) := by decide +kernel
theorem dL_feeds_27 : decode cL_feeds 27 = .ok (.iconst 4, 1) := by decide +kernel
theorem dL_feeds_28 : decode cL_feeds 28 = .ok (.idiv, 1) := by decide +kernel
theorem dL_feeds_29 : decode cL_feeds 29 = .ok (.aload_n 3, 1) := by decide +kernel
theorem dL_feeds_30 : decode cL_feeds 30 = .ok (.iload 4, 2) := by decide +kernel
theorem dL_feeds_32 : decode cL_feeds 32 = .ok (.iconst 4, 1) := by decide +kernel
theorem dL_feeds_33 : decode cL_feeds 33 = .ok (.idiv, 1) := by decide +kernel
theorem dL_feeds_34 : decode cL_feeds 34 = .ok (.iaload, 1) := by decide +kernel
theorem dL_feeds_35 : decode cL_feeds 35 = .ok (.bipush 8, 2) := by decide +kernel
theorem dL_feeds_37 : decode cL_feeds 37 = .ok (.ishl, 1) := by decide +kernel
theorem dL_feeds_38 : decode cL_feeds 38 = .ok (.iload_n 2, 1) := by decide +kernel
theorem dL_feeds_39 : decode cL_feeds 39 = .ok (.iload 4, 2) := by decide +kernel
theorem dL_feeds_41 : decode cL_feeds 41 = .ok (.iadd, 1) := by decide +kernel
theorem dL_feeds_42 : decode cL_feeds 42 = .ok (.aload_n 0, 1) := by decide +kernel
theorem dL_feeds_43 : decode cL_feeds 43 = .ok (.getfield 19, 3) := by decide +kernel
theorem dL_feeds_46 : decode cL_feeds 46 = .ok (.if_icmp .ge 15, 3) := by decide +kernel
theorem dL_feeds_49 : decode cL_feeds 49 = .ok (.aload_n 0, 1) := by decide +kernel
theorem dL_feeds_50 : decode cL_feeds 50 = .ok (.getfield 7, 3) := by decide +kernel
theorem dL_feeds_53 : decode cL_feeds 53 = .ok (.iload_n 2, 1) := by decide +kernel
theorem dL_feeds_54 : decode cL_feeds 54 = .ok (.iload 4, 2) := by decide +kernel
theorem dL_feeds_56 : decode cL_feeds 56 = .ok (.iadd, 1) := by decide +kernel
theorem dL_feeds_57 : decode cL_feeds 57 = .ok (.iaload, 1) := by decide +kernel
theorem dL_feeds_58 : decode cL_feeds 58 = .ok (.goto 5, 3) := by decide +kernel
theorem dL_feeds_61 : decode cL_feeds 61 = .ok (.bipush 32, 2) := by decide +kernel
theorem dL_feeds_63 : decode cL_feeds 63 = .ok (.ior, 1) := by decide +kernel
theorem dL_feeds_64 : decode cL_feeds 64 = .ok (.iastore, 1) := by decide +kernel
theorem dL_feeds_65 : decode cL_feeds 65 = .ok (.iinc 4 1, 3) := by decide +kernel
theorem dL_feeds_68 : decode cL_feeds 68 = .ok (.goto (-51), 3) := by decide +kernel
theorem dL_feeds_71 : decode cL_feeds 71 = .ok (.aload_n 1, 1) := by decide +kernel
theorem dL_feeds_72 : decode cL_feeds 72 = .ok (.aload_n 3, 1) := by decide +kernel
theorem dL_feeds_73 : decode cL_feeds 73 = .ok (.iconst 0, 1) := by decide +kernel
theorem dL_feeds_74 : decode cL_feeds 74 = .ok (.iaload, 1) := by decide +kernel
theorem dL_feeds_75 : decode cL_feeds 75 = .ok (.aload_n 3, 1) := by decide +kernel
theorem dL_feeds_76 : decode cL_feeds 76 = .ok (.iconst 1, 1) := by decide +kernel
theorem dL_feeds_77 : decode cL_feeds 77 = .ok (.iaload, 1) := by decide +kernel
theorem dL_feeds_78 : decode cL_feeds 78 = .ok (.aload_n 3, 1) := by decide +kernel
theorem dL_feeds_79 : decode cL_feeds 79 = .ok (.iconst 2, 1) := by decide +kernel
theorem dL_feeds_80 : decode cL_feeds 80 = .ok (.iaload, 1) := by decide +kernel
theorem dL_feeds_81 : decode cL_feeds 81 = .ok (.aload_n 3, 1) := by decide +kernel
theorem dL_feeds_82 : decode cL_feeds 82 = .ok (.iconst 3, 1) := by decide +kernel
theorem dL_feeds_83 : decode cL_feeds 83 = .ok (.iaload, 1) := by decide +kernel
theorem dL_feeds_84 : decode cL_feeds 84 = .ok (.aload_n 3, 1) := by decide +kernel
theorem dL_feeds_85 : decode cL_feeds 85 = .ok (.iconst 4, 1) := by decide +kernel
theorem dL_feeds_86 : decode cL_feeds 86 = .ok (.iaload, 1) := by decide +kernel
theorem dL_feeds_87 : decode cL_feeds 87 = .ok (.invokevirtual 28, 3) := by decide +kernel
theorem dL_feeds_90 : decode cL_feeds 90 = .ok (.pop, 1) := by decide +kernel
theorem dL_feeds_91 : decode cL_feeds 91 = .ok (.iinc 2 20, 3) := by decide +kernel
theorem dL_feeds_94 : decode cL_feeds 94 = .ok (.goto (-92), 3) := by decide +kernel
theorem dL_feeds_97 : decode cL_feeds 97 = .ok (.aload_n 0, 1) := by decide +kernel
theorem dL_feeds_98 : decode cL_feeds 98 = .ok (.getfield 19, 3) := by decide +kernel
theorem dL_feeds_101 : decode cL_feeds 101 = .ok (.istore_n 2, 1) := by decide +kernel
theorem dL_feeds_102 : decode cL_feeds 102 = .ok (.aload_n 0, 1) := by decide +kernel
theorem dL_feeds_103 : decode cL_feeds 103 = .ok (.iconst 0, 1) := by decide +kernel
theorem dL_feeds_104 : decode cL_feeds 104 = .ok (.putfield 19, 3) := by decide +kernel
theorem dL_feeds_107 : decode cL_feeds 107 = .ok (.iload_n 2, 1) := by decide +kernel
theorem dL_feeds_108 : decode cL_feeds 108 = .ok (.ireturn, 1) := by decide +kernel
theorem dL_clause_0 : decode cL_clause 0 = .ok (.aload_n 0, 1) := by decide +kernel
theorem dL_clause_1 : decode cL_clause 1 = .ok (.aload_n 1, 1) := by decide +kernel
theorem dL_clause_2 : decode cL_clause 2 = .ok (.invokevirtual 34, 3) := by decide +kernel
theorem dL_clause_5 : decode cL_clause 5 = .ok (.aload_n 0, 1) := by decide +kernel
theorem dL_clause_6 : decode cL_clause 6 = .ok (.ldc 38, 2) := by decide +kernel
theorem dL_clause_8 : decode cL_clause 8 = .ok (.invokevirtual 34, 3) := by decide +kernel
theorem dL_clause_11 : decode cL_clause 11 = .ok (.aload_n 0, 1) := by decide +kernel
theorem dL_clause_12 : decode cL_clause 12 = .ok (.iload_n 2, 1) := by decide +kernel
theorem dL_clause_13 : decode cL_clause 13 = .ok (.invokevirtual 40, 3) := by decide +kernel
theorem dL_clause_16 : decode cL_clause 16 = .ok (.aload_n 0, 1) := by decide +kernel
theorem dL_clause_17 : decode cL_clause 17 = .ok (.ldc 38, 2) := by decide +kernel
theorem dL_clause_19 : decode cL_clause 19 = .ok (.invokevirtual 34, 3) := by decide +kernel
theorem dL_clause_22 : decode cL_clause 22 = .ok (.aload_n 0, 1) := by decide +kernel
theorem dL_clause_23 : decode cL_clause 23 = .ok (.iload_n 3, 1) := by decide +kernel
theorem dL_clause_24 : decode cL_clause 24 = .ok (.invokevirtual 40, 3) := by decide +kernel
theorem dL_clause_27 : decode cL_clause 27 = .ok (.iload 4, 2) := by decide +kernel
theorem dL_clause_29 : decode cL_clause 29 = .ok (.ifCond .lt 15, 3) := by decide +kernel
theorem dL_clause_32 : decode cL_clause 32 = .ok (.aload_n 0, 1) := by decide +kernel
theorem dL_clause_33 : decode cL_clause 33 = .ok (.ldc 38, 2) := by decide +kernel
theorem dL_clause_35 : decode cL_clause 35 = .ok (.invokevirtual 34, 3) := by decide +kernel
theorem dL_clause_38 : decode cL_clause 38 = .ok (.aload_n 0, 1) := by decide +kernel
theorem dL_clause_39 : decode cL_clause 39 = .ok (.iload 4, 2) := by decide +kernel
theorem dL_clause_41 : decode cL_clause 41 = .ok (.invokevirtual 40, 3) := by decide +kernel
theorem dL_clause_44 : decode cL_clause 44 = .ok (.iload 5, 2) := by decide +kernel
theorem dL_clause_46 : decode cL_clause 46 = .ok (.ifCond .lt 15, 3) := by decide +kernel
theorem dL_clause_49 : decode cL_clause 49 = .ok (.aload_n 0, 1) := by decide +kernel
theorem dL_clause_50 : decode cL_clause 50 = .ok (.ldc 38, 2) := by decide +kernel
theorem dL_clause_52 : decode cL_clause 52 = .ok (.invokevirtual 34, 3) := by decide +kernel
theorem dL_clause_55 : decode cL_clause 55 = .ok (.aload_n 0, 1) := by decide +kernel
theorem dL_clause_56 : decode cL_clause 56 = .ok (.iload 5, 2) := by decide +kernel
theorem dL_clause_58 : decode cL_clause 58 = .ok (.invokevirtual 40, 3) := by decide +kernel
theorem dL_clause_61 : decode cL_clause 61 = .ok (.aload_n 0, 1) := by decide +kernel
theorem dL_clause_62 : decode cL_clause 62 = .ok (.ldc 44, 2) := by decide +kernel
theorem dL_clause_64 : decode cL_clause 64 = .ok (.invokevirtual 34, 3) := by decide +kernel
theorem dL_clause_67 : decode cL_clause 67 = .ok (.return_, 1) := by decide +kernel
theorem dL_rule_0 : decode cL_rule 0 = .ok (.aload_n 0, 1) := by decide +kernel
theorem dL_rule_1 : decode cL_rule 1 = .ok (.ldc 46, 2) := by decide +kernel
theorem dL_rule_3 : decode cL_rule 3 = .ok (.invokevirtual 34, 3) := by decide +kernel
theorem dL_rule_6 : decode cL_rule 6 = .ok (.aload_n 0, 1) := by decide +kernel
theorem dL_rule_7 : decode cL_rule 7 = .ok (.aload_n 1, 1) := by decide +kernel
theorem dL_rule_8 : decode cL_rule 8 = .ok (.invokevirtual 34, 3) := by decide +kernel
theorem dL_rule_11 : decode cL_rule 11 = .ok (.aload_n 0, 1) := by decide +kernel
theorem dL_rule_12 : decode cL_rule 12 = .ok (.ldc 38, 2) := by decide +kernel
theorem dL_rule_14 : decode cL_rule 14 = .ok (.invokevirtual 34, 3) := by decide +kernel
theorem dL_rule_17 : decode cL_rule 17 = .ok (.aload_n 0, 1) := by decide +kernel
theorem dL_rule_18 : decode cL_rule 18 = .ok (.iload_n 2, 1) := by decide +kernel
theorem dL_rule_19 : decode cL_rule 19 = .ok (.invokevirtual 40, 3) := by decide +kernel
theorem dL_rule_22 : decode cL_rule 22 = .ok (.aload_n 0, 1) := by decide +kernel
theorem dL_rule_23 : decode cL_rule 23 = .ok (.ldc 44, 2) := by decide +kernel
theorem dL_rule_25 : decode cL_rule 25 = .ok (.invokevirtual 34, 3) := by decide +kernel
theorem dL_rule_28 : decode cL_rule 28 = .ok (.return_, 1) := by decide +kernel
theorem dL_tells_0 : decode cL_tells 0 = .ok (.aload_n 2, 1) := by decide +kernel
theorem dL_tells_1 : decode cL_tells 1 = .ok (.iconst 0, 1) := by decide +kernel
theorem dL_tells_2 : decode cL_tells 2 = .ok (.invokestatic 48, 3) := by decide +kernel
theorem dL_tells_5 : decode cL_tells 5 = .ok (.istore_n 3, 1) := by decide +kernel
theorem dL_tells_6 : decode cL_tells 6 = .ok (.aload_n 2, 1) := by decide +kernel
theorem dL_tells_7 : decode cL_tells 7 = .ok (.iconst 1, 1) := by decide +kernel
theorem dL_tells_8 : decode cL_tells 8 = .ok (.invokestatic 48, 3) := by decide +kernel
theorem dL_tells_11 : decode cL_tells 11 = .ok (.istore 4, 2) := by decide +kernel
theorem dL_tells_13 : decode cL_tells 13 = .ok (.aload_n 0, 1) := by decide +kernel
theorem dL_tells_14 : decode cL_tells 14 = .ok (.iconst 3, 1) := by decide +kernel
theorem dL_tells_15 : decode cL_tells 15 = .ok (.iload_n 3, 1) := by decide +kernel
theorem dL_tells_16 : decode cL_tells 16 = .ok (.bipush 6, 2) := by decide +kernel
theorem dL_tells_18 : decode cL_tells 18 = .ok (.irem, 1) := by decide +kernel
theorem dL_tells_19 : decode cL_tells 19 = .ok (.iadd, 1) := by decide +kernel
theorem dL_tells_20 : decode cL_tells 20 = .ok (.putfield 52, 3) := by decide +kernel
theorem dL_tells_23 : decode cL_tells 23 = .ok (.aload_n 0, 1) := by decide +kernel
theorem dL_tells_24 : decode cL_tells 24 = .ok (.iconst 1, 1) := by decide +kernel
theorem dL_tells_25 : decode cL_tells 25 = .ok (.iload_n 3, 1) := by decide +kernel
theorem dL_tells_26 : decode cL_tells 26 = .ok (.bipush 6, 2) := by decide +kernel
theorem dL_tells_28 : decode cL_tells 28 = .ok (.idiv, 1) := by decide +kernel
theorem dL_tells_29 : decode cL_tells 29 = .ok (.iconst 4, 1) := by decide +kernel
theorem dL_tells_30 : decode cL_tells 30 = .ok (.irem, 1) := by decide +kernel
theorem dL_tells_31 : decode cL_tells 31 = .ok (.iadd, 1) := by decide +kernel
theorem dL_tells_32 : decode cL_tells 32 = .ok (.putfield 55, 3) := by decide +kernel
theorem dL_tells_35 : decode cL_tells 35 = .ok (.aload_n 0, 1) := by decide +kernel
theorem dL_tells_36 : decode cL_tells 36 = .ok (.iload_n 3, 1) := by decide +kernel
theorem dL_tells_37 : decode cL_tells 37 = .ok (.bipush 24, 2) := by decide +kernel
theorem dL_tells_39 : decode cL_tells 39 = .ok (.idiv, 1) := by decide +kernel
theorem dL_tells_40 : decode cL_tells 40 = .ok (.sipush 500, 3) := by decide +kernel
theorem dL_tells_43 : decode cL_tells 43 = .ok (.irem, 1) := by decide +kernel
theorem dL_tells_44 : decode cL_tells 44 = .ok (.putfield 58, 3) := by decide +kernel
theorem dL_tells_47 : decode cL_tells 47 = .ok (.aload_n 0, 1) := by decide +kernel
theorem dL_tells_48 : decode cL_tells 48 = .ok (.iload 4, 2) := by decide +kernel
theorem dL_tells_50 : decode cL_tells 50 = .ok (.sipush 700, 3) := by decide +kernel
theorem dL_tells_53 : decode cL_tells 53 = .ok (.irem, 1) := by decide +kernel
theorem dL_tells_54 : decode cL_tells 54 = .ok (.putfield 61, 3) := by decide +kernel
theorem dL_tells_57 : decode cL_tells 57 = .ok (.aload_n 0, 1) := by decide +kernel
theorem dL_tells_58 : decode cL_tells 58 = .ok (.ldc 64, 2) := by decide +kernel
theorem dL_tells_60 : decode cL_tells 60 = .ok (.invokevirtual 34, 3) := by decide +kernel
theorem dL_tells_63 : decode cL_tells 63 = .ok (.aload_n 0, 1) := by decide +kernel
theorem dL_tells_64 : decode cL_tells 64 = .ok (.aload_n 0, 1) := by decide +kernel
theorem dL_tells_65 : decode cL_tells 65 = .ok (.getfield 52, 3) := by decide +kernel
theorem dL_tells_68 : decode cL_tells 68 = .ok (.invokevirtual 40, 3) := by decide +kernel
theorem dL_tells_71 : decode cL_tells 71 = .ok (.aload_n 0, 1) := by decide +kernel
theorem dL_tells_72 : decode cL_tells 72 = .ok (.ldc 44, 2) := by decide +kernel
theorem dL_tells_74 : decode cL_tells 74 = .ok (.invokevirtual 34, 3) := by decide +kernel
theorem dL_tells_77 : decode cL_tells 77 = .ok (.iconst 0, 1) := by decide +kernel
theorem dL_tells_78 : decode cL_tells 78 = .ok (.istore 5, 2) := by decide +kernel
theorem dL_tells_80 : decode cL_tells 80 = .ok (.iload 5, 2) := by decide +kernel
theorem dL_tells_82 : decode cL_tells 82 = .ok (.aload_n 0, 1) := by decide +kernel
theorem dL_tells_83 : decode cL_tells 83 = .ok (.getfield 52, 3) := by decide +kernel
theorem dL_tells_86 : decode cL_tells 86 = .ok (.if_icmp .ge 36, 3) := by decide +kernel
theorem dL_tells_89 : decode cL_tells 89 = .ok (.aload_n 0, 1) := by decide +kernel
theorem dL_tells_90 : decode cL_tells 90 = .ok (.ldc 66, 2) := by decide +kernel
theorem dL_tells_92 : decode cL_tells 92 = .ok (.iload 5, 2) := by decide +kernel
theorem dL_tells_94 : decode cL_tells 94 = .ok (.iload 5, 2) := by decide +kernel
theorem dL_tells_96 : decode cL_tells 96 = .ok (.iconst 1, 1) := by decide +kernel
theorem dL_tells_97 : decode cL_tells 97 = .ok (.iadd, 1) := by decide +kernel
theorem dL_tells_98 : decode cL_tells 98 = .ok (.aload_n 0, 1) := by decide +kernel
theorem dL_tells_99 : decode cL_tells 99 = .ok (.getfield 52, 3) := by decide +kernel
theorem dL_tells_102 : decode cL_tells 102 = .ok (.irem, 1) := by decide +kernel
theorem dL_tells_103 : decode cL_tells 103 = .ok (.iconst 1, 1) := by decide +kernel
theorem dL_tells_104 : decode cL_tells 104 = .ok (.iload_n 3, 1) := by decide +kernel
theorem dL_tells_105 : decode cL_tells 105 = .ok (.iload 5, 2) := by decide +kernel
theorem dL_tells_107 : decode cL_tells 107 = .ok (.ishr, 1) := by decide +kernel
theorem dL_tells_108 : decode cL_tells 108 = .ok (.bipush 7, 2) := by decide +kernel
theorem dL_tells_110 : decode cL_tells 110 = .ok (.iand, 1) := by decide +kernel
theorem dL_tells_111 : decode cL_tells 111 = .ok (.iadd, 1) := by decide +kernel
theorem dL_tells_112 : decode cL_tells 112 = .ok (.iconst (-1), 1) := by decide +kernel
theorem dL_tells_113 : decode cL_tells 113 = .ok (.invokevirtual 68, 3) := by decide +kernel
theorem dL_tells_116 : decode cL_tells 116 = .ok (.iinc 5 1, 3) := by decide +kernel
theorem dL_tells_119 : decode cL_tells 119 = .ok (.goto (-39), 3) := by decide +kernel
theorem dL_tells_122 : decode cL_tells 122 = .ok (.iconst 0, 1) := by decide +kernel
theorem dL_tells_123 : decode cL_tells 123 = .ok (.istore 5, 2) := by decide +kernel
theorem dL_tells_125 : decode cL_tells 125 = .ok (.iload 5, 2) := by decide +kernel
theorem dL_tells_127 : decode cL_tells 127 = .ok (.aload_n 0, 1) := by decide +kernel
theorem dL_tells_128 : decode cL_tells 128 = .ok (.getfield 55, 3) := by decide +kernel
theorem dL_tells_131 : decode cL_tells 131 = .ok (.if_icmp .ge 49, 3) := by decide +kernel
theorem dL_tells_134 : decode cL_tells 134 = .ok (.aload_n 0, 1) := by decide +kernel
theorem dL_tells_135 : decode cL_tells 135 = .ok (.ldc 72, 2) := by decide +kernel
theorem dL_tells_137 : decode cL_tells 137 = .ok (.iconst 2, 1) := by decide +kernel
theorem dL_tells_138 : decode cL_tells 138 = .ok (.iload 4, 2) := by decide +kernel
theorem dL_tells_140 : decode cL_tells 140 = .ok (.iload 5, 2) := by decide +kernel
theorem dL_tells_142 : decode cL_tells 142 = .ok (.ishr, 1) := by decide +kernel
theorem dL_tells_143 : decode cL_tells 143 = .ok (.iconst 5, 1) := by decide +kernel
theorem dL_tells_144 : decode cL_tells 144 = .ok (.irem, 1) := by decide +kernel
theorem dL_tells_145 : decode cL_tells 145 = .ok (.iadd, 1) := by decide +kernel
theorem dL_tells_146 : decode cL_tells 146 = .ok (.iload_n 3, 1) := by decide +kernel
theorem dL_tells_147 : decode cL_tells 147 = .ok (.iload 5, 2) := by decide +kernel
theorem dL_tells_149 : decode cL_tells 149 = .ok (.ishr, 1) := by decide +kernel
theorem dL_tells_150 : decode cL_tells 150 = .ok (.aload_n 0, 1) := by decide +kernel
theorem dL_tells_151 : decode cL_tells 151 = .ok (.getfield 52, 3) := by decide +kernel
theorem dL_tells_154 : decode cL_tells 154 = .ok (.irem, 1) := by decide +kernel
theorem dL_tells_155 : decode cL_tells 155 = .ok (.iload 4, 2) := by decide +kernel
theorem dL_tells_157 : decode cL_tells 157 = .ok (.iconst 3, 1) := by decide +kernel
theorem dL_tells_158 : decode cL_tells 158 = .ok (.iload 5, 2) := by decide +kernel
theorem dL_tells_160 : decode cL_tells 160 = .ok (.imul, 1) := by decide +kernel
theorem dL_tells_161 : decode cL_tells 161 = .ok (.ishr, 1) := by decide +kernel
theorem dL_tells_162 : decode cL_tells 162 = .ok (.bipush 15, 2) := by decide +kernel
theorem dL_tells_164 : decode cL_tells 164 = .ok (.iand, 1) := by decide +kernel
theorem dL_tells_165 : decode cL_tells 165 = .ok (.sipush 600, 3) := by decide +kernel
theorem dL_tells_168 : decode cL_tells 168 = .ok (.iload 5, 2) := by decide +kernel
theorem dL_tells_170 : decode cL_tells 170 = .ok (.iadd, 1) := by decide +kernel
theorem dL_tells_171 : decode cL_tells 171 = .ok (.invokevirtual 68, 3) := by decide +kernel
theorem dL_tells_174 : decode cL_tells 174 = .ok (.iinc 5 1, 3) := by decide +kernel
theorem dL_tells_177 : decode cL_tells 177 = .ok (.goto (-52), 3) := by decide +kernel
theorem dL_tells_180 : decode cL_tells 180 = .ok (.aload_n 0, 1) := by decide +kernel
theorem dL_tells_181 : decode cL_tells 181 = .ok (.ldc 74, 2) := by decide +kernel
theorem dL_tells_183 : decode cL_tells 183 = .ok (.aload_n 0, 1) := by decide +kernel
theorem dL_tells_184 : decode cL_tells 184 = .ok (.getfield 58, 3) := by decide +kernel
theorem dL_tells_187 : decode cL_tells 187 = .ok (.iload 4, 2) := by decide +kernel
theorem dL_tells_189 : decode cL_tells 189 = .ok (.sipush 700, 3) := by decide +kernel
theorem dL_tells_192 : decode cL_tells 192 = .ok (.idiv, 1) := by decide +kernel
theorem dL_tells_193 : decode cL_tells 193 = .ok (.bipush 100, 2) := by decide +kernel
theorem dL_tells_195 : decode cL_tells 195 = .ok (.irem, 1) := by decide +kernel
theorem dL_tells_196 : decode cL_tells 196 = .ok (.iconst (-1), 1) := by decide +kernel
theorem dL_tells_197 : decode cL_tells 197 = .ok (.iconst (-1), 1) := by decide +kernel
theorem dL_tells_198 : decode cL_tells 198 = .ok (.invokevirtual 68, 3) := by decide +kernel
theorem dL_tells_201 : decode cL_tells 201 = .ok (.aload_n 0, 1) := by decide +kernel
theorem dL_tells_202 : decode cL_tells 202 = .ok (.ldc 76, 2) := by decide +kernel
theorem dL_tells_204 : decode cL_tells 204 = .ok (.iconst 2, 1) := by decide +kernel
theorem dL_tells_205 : decode cL_tells 205 = .ok (.iload_n 3, 1) := by decide +kernel
theorem dL_tells_206 : decode cL_tells 206 = .ok (.sipush 12000, 3) := by decide +kernel
theorem dL_tells_209 : decode cL_tells 209 = .ok (.idiv, 1) := by decide +kernel
theorem dL_tells_210 : decode cL_tells 210 = .ok (.bipush 60, 2) := by decide +kernel
theorem dL_tells_212 : decode cL_tells 212 = .ok (.irem, 1) := by decide +kernel
theorem dL_tells_213 : decode cL_tells 213 = .ok (.iconst (-1), 1) := by decide +kernel
theorem dL_tells_214 : decode cL_tells 214 = .ok (.iconst (-1), 1) := by decide +kernel
theorem dL_tells_215 : decode cL_tells 215 = .ok (.invokevirtual 68, 3) := by decide +kernel
theorem dL_tells_218 : decode cL_tells 218 = .ok (.aload_n 0, 1) := by decide +kernel
theorem dL_tells_219 : decode cL_tells 219 = .ok (.ldc 76, 2) := by decide +kernel
theorem dL_tells_221 : decode cL_tells 221 = .ok (.iconst 3, 1) := by decide +kernel
theorem dL_tells_222 : decode cL_tells 222 = .ok (.iload 4, 2) := by decide +kernel
theorem dL_tells_224 : decode cL_tells 224 = .ok (.ldc 78, 2) := by decide +kernel
theorem dL_tells_226 : decode cL_tells 226 = .ok (.idiv, 1) := by decide +kernel
theorem dL_tells_227 : decode cL_tells 227 = .ok (.bipush 60, 2) := by decide +kernel
theorem dL_tells_229 : decode cL_tells 229 = .ok (.irem, 1) := by decide +kernel
theorem dL_tells_230 : decode cL_tells 230 = .ok (.iconst (-1), 1) := by decide +kernel
theorem dL_tells_231 : decode cL_tells 231 = .ok (.iconst (-1), 1) := by decide +kernel
theorem dL_tells_232 : decode cL_tells 232 = .ok (.invokevirtual 68, 3) := by decide +kernel
theorem dL_tells_235 : decode cL_tells 235 = .ok (.aload_n 0, 1) := by decide +kernel
theorem dL_tells_236 : decode cL_tells 236 = .ok (.ldc 79, 2) := by decide +kernel
theorem dL_tells_238 : decode cL_tells 238 = .ok (.bipush 10, 2) := by decide +kernel
theorem dL_tells_240 : decode cL_tells 240 = .ok (.iload_n 3, 1) := by decide +kernel
theorem dL_tells_241 : decode cL_tells 241 = .ok (.bipush 40, 2) := by decide +kernel
theorem dL_tells_243 : decode cL_tells 243 = .ok (.irem, 1) := by decide +kernel
theorem dL_tells_244 : decode cL_tells 244 = .ok (.iadd, 1) := by decide +kernel
theorem dL_tells_245 : decode cL_tells 245 = .ok (.invokevirtual 81, 3) := by decide +kernel
theorem dL_tells_248 : decode cL_tells 248 = .ok (.aload_n 0, 1) := by decide +kernel
theorem dL_tells_249 : decode cL_tells 249 = .ok (.ldc 85, 2) := by decide +kernel
theorem dL_tells_251 : decode cL_tells 251 = .ok (.iload_n 3, 1) := by decide +kernel
theorem dL_tells_252 : decode cL_tells 252 = .ok (.iconst 4, 1) := by decide +kernel
theorem dL_tells_253 : decode cL_tells 253 = .ok (.irem, 1) := by decide +kernel
theorem dL_tells_254 : decode cL_tells 254 = .ok (.invokevirtual 81, 3) := by decide +kernel
theorem dL_tells_257 : decode cL_tells 257 = .ok (.aload_n 0, 1) := by decide +kernel
theorem dL_tells_258 : decode cL_tells 258 = .ok (.ldc 87, 2) := by decide +kernel
theorem dL_tells_260 : decode cL_tells 260 = .ok (.iload 4, 2) := by decide +kernel
theorem dL_tells_262 : decode cL_tells 262 = .ok (.bipush 6, 2) := by decide +kernel
theorem dL_tells_264 : decode cL_tells 264 = .ok (.irem, 1) := by decide +kernel
theorem dL_tells_265 : decode cL_tells 265 = .ok (.invokevirtual 81, 3) := by decide +kernel
theorem dL_tells_268 : decode cL_tells 268 = .ok (.aload_n 0, 1) := by decide +kernel
theorem dL_tells_269 : decode cL_tells 269 = .ok (.ldc 89, 2) := by decide +kernel
theorem dL_tells_271 : decode cL_tells 271 = .ok (.aload_n 0, 1) := by decide +kernel
theorem dL_tells_272 : decode cL_tells 272 = .ok (.getfield 61, 3) := by decide +kernel
theorem dL_tells_275 : decode cL_tells 275 = .ok (.invokevirtual 81, 3) := by decide +kernel
theorem dL_tells_278 : decode cL_tells 278 = .ok (.aload_n 0, 1) := by decide +kernel
theorem dL_tells_279 : decode cL_tells 279 = .ok (.ldc 90, 2) := by decide +kernel
theorem dL_tells_281 : decode cL_tells 281 = .ok (.iconst 5, 1) := by decide +kernel
theorem dL_tells_282 : decode cL_tells 282 = .ok (.iload 4, 2) := by decide +kernel
theorem dL_tells_284 : decode cL_tells 284 = .ok (.bipush 30, 2) := by decide +kernel
theorem dL_tells_286 : decode cL_tells 286 = .ok (.irem, 1) := by decide +kernel
theorem dL_tells_287 : decode cL_tells 287 = .ok (.iadd, 1) := by decide +kernel
theorem dL_tells_288 : decode cL_tells 288 = .ok (.invokevirtual 81, 3) := by decide +kernel
theorem dL_tells_291 : decode cL_tells 291 = .ok (.aload_n 1, 1) := by decide +kernel
theorem dL_tells_292 : decode cL_tells 292 = .ok (.aload_n 0, 1) := by decide +kernel
theorem dL_tells_293 : decode cL_tells 293 = .ok (.aload_n 1, 1) := by decide +kernel
theorem dL_tells_294 : decode cL_tells 294 = .ok (.invokevirtual 92, 3) := by decide +kernel
theorem dL_tells_297 : decode cL_tells 297 = .ok (.invokevirtual 96, 3) := by decide +kernel
theorem dL_tells_300 : decode cL_tells 300 = .ok (.aload_n 0, 1) := by decide +kernel
theorem dL_tells_301 : decode cL_tells 301 = .ok (.getfield 55, 3) := by decide +kernel
theorem dL_tells_304 : decode cL_tells 304 = .ok (.if_icmp .ne 27, 3) := by decide +kernel
theorem dL_tells_307 : decode cL_tells 307 = .ok (.aload_n 1, 1) := by decide +kernel
theorem dL_tells_308 : decode cL_tells 308 = .ok (.iconst 0, 1) := by decide +kernel
theorem dL_tells_309 : decode cL_tells 309 = .ok (.invokevirtual 100, 3) := by decide +kernel
theorem dL_tells_312 : decode cL_tells 312 = .ok (.aload_n 0, 1) := by decide +kernel
theorem dL_tells_313 : decode cL_tells 313 = .ok (.getfield 52, 3) := by decide +kernel
theorem dL_tells_316 : decode cL_tells 316 = .ok (.if_icmp .ne 15, 3) := by decide +kernel
theorem dL_tells_319 : decode cL_tells 319 = .ok (.aload_n 1, 1) := by decide +kernel
theorem dL_tells_320 : decode cL_tells 320 = .ok (.iconst 1, 1) := by decide +kernel
theorem dL_tells_321 : decode cL_tells 321 = .ok (.invokevirtual 100, 3) := by decide +kernel
theorem dL_tells_324 : decode cL_tells 324 = .ok (.aload_n 0, 1) := by decide +kernel
theorem dL_tells_325 : decode cL_tells 325 = .ok (.getfield 52, 3) := by decide +kernel
theorem dL_tells_328 : decode cL_tells 328 = .ok (.if_icmp .eq 5, 3) := by decide +kernel
theorem dL_tells_331 : decode cL_tells 331 = .ok (.iconst 0, 1) := by decide +kernel
theorem dL_tells_332 : decode cL_tells 332 = .ok (.ireturn, 1) := by decide +kernel
theorem dL_tells_333 : decode cL_tells 333 = .ok (.aload_n 1, 1) := by decide +kernel
theorem dL_tells_334 : decode cL_tells 334 = .ok (.invokevirtual 102, 3) := by decide +kernel
theorem dL_tells_337 : decode cL_tells 337 = .ok (.iconst (-1), 1) := by decide +kernel
theorem dL_tells_338 : decode cL_tells 338 = .ok (.if_icmp .ne 32, 3) := by decide +kernel
theorem dL_tells_341 : decode cL_tells 341 = .ok (.aload_n 1, 1) := by decide +kernel
theorem dL_tells_342 : decode cL_tells 342 = .ok (.bipush 7, 2) := by decide +kernel
theorem dL_tells_344 : decode cL_tells 344 = .ok (.invokevirtual 100, 3) := by decide +kernel
theorem dL_tells_347 : decode cL_tells 347 = .ok (.aload_n 0, 1) := by decide +kernel
theorem dL_tells_348 : decode cL_tells 348 = .ok (.getfield 58, 3) := by decide +kernel
theorem dL_tells_351 : decode cL_tells 351 = .ok (.if_icmp .ne 19, 3) := by decide +kernel
theorem dL_tells_354 : decode cL_tells 354 = .ok (.aload_n 1, 1) := by decide +kernel
theorem dL_tells_355 : decode cL_tells 355 = .ok (.iconst 4, 1) := by decide +kernel
theorem dL_tells_356 : decode cL_tells 356 = .ok (.invokevirtual 105, 3) := by decide +kernel
theorem dL_tells_359 : decode cL_tells 359 = .ok (.aload_n 0, 1) := by decide +kernel
theorem dL_tells_360 : decode cL_tells 360 = .ok (.getfield 61, 3) := by decide +kernel
theorem dL_tells_363 : decode cL_tells 363 = .ok (.if_icmp .ne 7, 3) := by decide +kernel
theorem dL_tells_366 : decode cL_tells 366 = .ok (.iconst 1, 1) := by decide +kernel
theorem dL_tells_367 : decode cL_tells 367 = .ok (.goto 4, 3) := by decide +kernel
theorem dL_tells_370 : decode cL_tells 370 = .ok (.iconst 0, 1) := by decide +kernel
theorem dL_tells_371 : decode cL_tells 371 = .ok (.ireturn, 1) := by decide +kernel
theorem dL_asks_0 : decode cL_asks 0 = .ok (.iload_n 2, 1) := by decide +kernel
theorem dL_asks_1 : decode cL_asks 1 = .ok (.aload_n 0, 1) := by decide +kernel
theorem dL_asks_2 : decode cL_asks 2 = .ok (.getfield 52, 3) := by decide +kernel
theorem dL_asks_5 : decode cL_asks 5 = .ok (.irem, 1) := by decide +kernel
theorem dL_asks_6 : decode cL_asks 6 = .ok (.istore_n 3, 1) := by decide +kernel
theorem dL_asks_7 : decode cL_asks 7 = .ok (.iload_n 3, 1) := by decide +kernel
theorem dL_asks_8 : decode cL_asks 8 = .ok (.iconst 1, 1) := by decide +kernel
theorem dL_asks_9 : decode cL_asks 9 = .ok (.iadd, 1) := by decide +kernel
theorem dL_asks_10 : decode cL_asks 10 = .ok (.iload_n 2, 1) := by decide +kernel
theorem dL_asks_11 : decode cL_asks 11 = .ok (.bipush 8, 2) := by decide +kernel
theorem dL_asks_13 : decode cL_asks 13 = .ok (.idiv, 1) := by decide +kernel
theorem dL_asks_14 : decode cL_asks 14 = .ok (.aload_n 0, 1) := by decide +kernel
theorem dL_asks_15 : decode cL_asks 15 = .ok (.getfield 52, 3) := by decide +kernel
theorem dL_asks_18 : decode cL_asks 18 = .ok (.iconst 1, 1) := by decide +kernel
theorem dL_asks_19 : decode cL_asks 19 = .ok (.isub, 1) := by decide +kernel
theorem dL_asks_20 : decode cL_asks 20 = .ok (.irem, 1) := by decide +kernel
theorem dL_asks_21 : decode cL_asks 21 = .ok (.iadd, 1) := by decide +kernel
theorem dL_asks_22 : decode cL_asks 22 = .ok (.aload_n 0, 1) := by decide +kernel
theorem dL_asks_23 : decode cL_asks 23 = .ok (.getfield 52, 3) := by decide +kernel
theorem dL_asks_26 : decode cL_asks 26 = .ok (.irem, 1) := by decide +kernel
theorem dL_asks_27 : decode cL_asks 27 = .ok (.istore 4, 2) := by decide +kernel
theorem dL_asks_29 : decode cL_asks 29 = .ok (.aload_n 1, 1) := by decide +kernel
theorem dL_asks_30 : decode cL_asks 30 = .ok (.iload_n 3, 1) := by decide +kernel
theorem dL_asks_31 : decode cL_asks 31 = .ok (.iload 4, 2) := by decide +kernel
theorem dL_asks_33 : decode cL_asks 33 = .ok (.iconst 1, 1) := by decide +kernel
theorem dL_asks_34 : decode cL_asks 34 = .ok (.iload_n 2, 1) := by decide +kernel
theorem dL_asks_35 : decode cL_asks 35 = .ok (.bipush 64, 2) := by decide +kernel
theorem dL_asks_37 : decode cL_asks 37 = .ok (.idiv, 1) := by decide +kernel
theorem dL_asks_38 : decode cL_asks 38 = .ok (.iconst 3, 1) := by decide +kernel
theorem dL_asks_39 : decode cL_asks 39 = .ok (.irem, 1) := by decide +kernel
theorem dL_asks_40 : decode cL_asks 40 = .ok (.iadd, 1) := by decide +kernel
theorem dL_asks_41 : decode cL_asks 41 = .ok (.iload_n 2, 1) := by decide +kernel
theorem dL_asks_42 : decode cL_asks 42 = .ok (.sipush 256, 3) := by decide +kernel
theorem dL_asks_45 : decode cL_asks 45 = .ok (.idiv, 1) := by decide +kernel
theorem dL_asks_46 : decode cL_asks 46 = .ok (.bipush 20, 2) := by decide +kernel
theorem dL_asks_48 : decode cL_asks 48 = .ok (.irem, 1) := by decide +kernel
theorem dL_asks_49 : decode cL_asks 49 = .ok (.iload_n 2, 1) := by decide +kernel
theorem dL_asks_50 : decode cL_asks 50 = .ok (.sipush 5120, 3) := by decide +kernel
theorem dL_asks_53 : decode cL_asks 53 = .ok (.idiv, 1) := by decide +kernel
theorem dL_asks_54 : decode cL_asks 54 = .ok (.sipush 200, 3) := by decide +kernel
theorem dL_asks_57 : decode cL_asks 57 = .ok (.irem, 1) := by decide +kernel
theorem dL_asks_58 : decode cL_asks 58 = .ok (.invokevirtual 107, 3) := by decide +kernel
theorem dL_asks_61 : decode cL_asks 61 = .ok (.ifCond .lt 13, 3) := by decide +kernel
theorem dL_asks_64 : decode cL_asks 64 = .ok (.aload_n 0, 1) := by decide +kernel
theorem dL_asks_65 : decode cL_asks 65 = .ok (.dup, 1) := by decide +kernel
theorem dL_asks_66 : decode cL_asks 66 = .ok (.getfield 110, 3) := by decide +kernel
theorem dL_asks_69 : decode cL_asks 69 = .ok (.iconst 1, 1) := by decide +kernel
theorem dL_asks_70 : decode cL_asks 70 = .ok (.iadd, 1) := by decide +kernel
theorem dL_asks_71 : decode cL_asks 71 = .ok (.putfield 110, 3) := by decide +kernel
theorem dL_asks_74 : decode cL_asks 74 = .ok (.return_, 1) := by decide +kernel
theorem dL_law_0 : decode cL_law 0 = .ok (.new 8, 3) := by decide +kernel
theorem dL_law_3 : decode cL_law 3 = .ok (.dup, 1) := by decide +kernel
theorem dL_law_4 : decode cL_law 4 = .ok (.invokespecial 113, 3) := by decide +kernel
theorem dL_law_7 : decode cL_law 7 = .ok (.astore_n 1, 1) := by decide +kernel
theorem dL_law_8 : decode cL_law 8 = .ok (.new 29, 3) := by decide +kernel
theorem dL_law_11 : decode cL_law 11 = .ok (.dup, 1) := by decide +kernel
theorem dL_law_12 : decode cL_law 12 = .ok (.invokespecial 114, 3) := by decide +kernel
theorem dL_law_15 : decode cL_law 15 = .ok (.astore_n 2, 1) := by decide +kernel
theorem dL_law_16 : decode cL_law 16 = .ok (.aload_n 1, 1) := by decide +kernel
theorem dL_law_17 : decode cL_law 17 = .ok (.aload_n 2, 1) := by decide +kernel
theorem dL_law_18 : decode cL_law 18 = .ok (.aload_n 0, 1) := by decide +kernel
theorem dL_law_19 : decode cL_law 19 = .ok (.invokevirtual 115, 3) := by decide +kernel
theorem dL_law_22 : decode cL_law 22 = .ok (.ifCond .eq 16, 3) := by decide +kernel
theorem dL_law_25 : decode cL_law 25 = .ok (.aload_n 1, 1) := by decide +kernel
theorem dL_law_26 : decode cL_law 26 = .ok (.aload_n 2, 1) := by decide +kernel
theorem dL_law_27 : decode cL_law 27 = .ok (.aload_n 0, 1) := by decide +kernel
theorem dL_law_28 : decode cL_law 28 = .ok (.invokevirtual 119, 3) := by decide +kernel
theorem dL_law_31 : decode cL_law 31 = .ok (.ifCond .eq 7, 3) := by decide +kernel
theorem dL_law_34 : decode cL_law 34 = .ok (.iconst 1, 1) := by decide +kernel
theorem dL_law_35 : decode cL_law 35 = .ok (.goto 4, 3) := by decide +kernel
theorem dL_law_38 : decode cL_law 38 = .ok (.iconst 0, 1) := by decide +kernel
theorem dL_law_39 : decode cL_law 39 = .ok (.ireturn, 1) := by decide +kernel
theorem dL_holds_0 : decode cL_holds 0 = .ok (.iconst 2, 1) := by decide +kernel
theorem dL_holds_1 : decode cL_holds 1 = .ok (.istore_n 3, 1) := by decide +kernel
theorem dL_holds_2 : decode cL_holds 2 = .ok (.iload_n 3, 1) := by decide +kernel
theorem dL_holds_3 : decode cL_holds 3 = .ok (.bipush 30, 2) := by decide +kernel
theorem dL_holds_5 : decode cL_holds 5 = .ok (.if_icmp .ge 49, 3) := by decide +kernel
theorem dL_holds_8 : decode cL_holds 8 = .ok (.aload_n 0, 1) := by decide +kernel
theorem dL_holds_9 : decode cL_holds 9 = .ok (.aload_n 1, 1) := by decide +kernel
theorem dL_holds_10 : decode cL_holds 10 = .ok (.aload_n 2, 1) := by decide +kernel
theorem dL_holds_11 : decode cL_holds 11 = .ok (.iload_n 3, 1) := by decide +kernel
theorem dL_holds_12 : decode cL_holds 12 = .ok (.invokestatic 48, 3) := by decide +kernel
theorem dL_holds_15 : decode cL_holds 15 = .ok (.invokevirtual 122, 3) := by decide +kernel
theorem dL_holds_18 : decode cL_holds 18 = .ok (.iconst 0, 1) := by decide +kernel
theorem dL_holds_19 : decode cL_holds 19 = .ok (.istore 4, 2) := by decide +kernel
theorem dL_holds_21 : decode cL_holds 21 = .ok (.iload 4, 2) := by decide +kernel
theorem dL_holds_23 : decode cL_holds 23 = .ok (.aload_n 0, 1) := by decide +kernel
theorem dL_holds_24 : decode cL_holds 24 = .ok (.getfield 55, 3) := by decide +kernel
theorem dL_holds_27 : decode cL_holds 27 = .ok (.if_icmp .ge 21, 3) := by decide +kernel
theorem dL_holds_30 : decode cL_holds 30 = .ok (.aload_n 0, 1) := by decide +kernel
theorem dL_holds_31 : decode cL_holds 31 = .ok (.aload_n 1, 1) := by decide +kernel
theorem dL_holds_32 : decode cL_holds 32 = .ok (.iload 4, 2) := by decide +kernel
theorem dL_holds_34 : decode cL_holds 34 = .ok (.invokevirtual 126, 3) := by decide +kernel
theorem dL_holds_37 : decode cL_holds 37 = .ok (.ifCond .ne 5, 3) := by decide +kernel
theorem dL_holds_40 : decode cL_holds 40 = .ok (.iconst 0, 1) := by decide +kernel
theorem dL_holds_41 : decode cL_holds 41 = .ok (.ireturn, 1) := by decide +kernel
theorem dL_holds_42 : decode cL_holds 42 = .ok (.iinc 4 1, 3) := by decide +kernel
theorem dL_holds_45 : decode cL_holds 45 = .ok (.goto (-24), 3) := by decide +kernel
theorem dL_holds_48 : decode cL_holds 48 = .ok (.iinc 3 1, 3) := by decide +kernel
theorem dL_holds_51 : decode cL_holds 51 = .ok (.goto (-49), 3) := by decide +kernel
theorem dL_holds_54 : decode cL_holds 54 = .ok (.iconst 1, 1) := by decide +kernel
theorem dL_holds_55 : decode cL_holds 55 = .ok (.ireturn, 1) := by decide +kernel
theorem dL_acts_0 : decode cL_acts 0 = .ok (.iload_n 2, 1) := by decide +kernel
theorem dL_acts_1 : decode cL_acts 1 = .ok (.bipush 8, 2) := by decide +kernel
theorem dL_acts_3 : decode cL_acts 3 = .ok (.idiv, 1) := by decide +kernel
theorem dL_acts_4 : decode cL_acts 4 = .ok (.istore_n 3, 1) := by decide +kernel
theorem dL_acts_5 : decode cL_acts 5 = .ok (.iload_n 2, 1) := by decide +kernel
theorem dL_acts_6 : decode cL_acts 6 = .ok (.bipush 8, 2) := by decide +kernel
theorem dL_acts_8 : decode cL_acts 8 = .ok (.irem, 1) := by decide +kernel
theorem dL_acts_9 : decode cL_acts 9 = .ok (.tableswitch 105 0 6 #[43, 43, 43, 70, 70, 70, 84], 43) := by decide +kernel
theorem dL_acts_52 : decode cL_acts 52 = .ok (.aload_n 0, 1) := by decide +kernel
theorem dL_acts_53 : decode cL_acts 53 = .ok (.aload_n 1, 1) := by decide +kernel
theorem dL_acts_54 : decode cL_acts 54 = .ok (.iload_n 3, 1) := by decide +kernel
theorem dL_acts_55 : decode cL_acts 55 = .ok (.invokevirtual 130, 3) := by decide +kernel
theorem dL_acts_58 : decode cL_acts 58 = .ok (.aload_n 0, 1) := by decide +kernel
theorem dL_acts_59 : decode cL_acts 59 = .ok (.getfield 110, 3) := by decide +kernel
theorem dL_acts_62 : decode cL_acts 62 = .ok (.ifCond .le 72, 3) := by decide +kernel
theorem dL_acts_65 : decode cL_acts 65 = .ok (.aload_n 1, 1) := by decide +kernel
theorem dL_acts_66 : decode cL_acts 66 = .ok (.aload_n 0, 1) := by decide +kernel
theorem dL_acts_67 : decode cL_acts 67 = .ok (.getfield 110, 3) := by decide +kernel
theorem dL_acts_70 : decode cL_acts 70 = .ok (.iconst 1, 1) := by decide +kernel
theorem dL_acts_71 : decode cL_acts 71 = .ok (.isub, 1) := by decide +kernel
theorem dL_acts_72 : decode cL_acts 72 = .ok (.invokevirtual 133, 3) := by decide +kernel
theorem dL_acts_75 : decode cL_acts 75 = .ok (.pop, 1) := by decide +kernel
theorem dL_acts_76 : decode cL_acts 76 = .ok (.goto 58, 3) := by decide +kernel
theorem dL_acts_79 : decode cL_acts 79 = .ok (.aload_n 1, 1) := by decide +kernel
theorem dL_acts_80 : decode cL_acts 80 = .ok (.iconst 1, 1) := by decide +kernel
theorem dL_acts_81 : decode cL_acts 81 = .ok (.iload_n 3, 1) := by decide +kernel
theorem dL_acts_82 : decode cL_acts 82 = .ok (.bipush 25, 2) := by decide +kernel
theorem dL_acts_84 : decode cL_acts 84 = .ok (.irem, 1) := by decide +kernel
theorem dL_acts_85 : decode cL_acts 85 = .ok (.iadd, 1) := by decide +kernel
theorem dL_acts_86 : decode cL_acts 86 = .ok (.invokevirtual 136, 3) := by decide +kernel
theorem dL_acts_89 : decode cL_acts 89 = .ok (.pop, 1) := by decide +kernel
theorem dL_acts_90 : decode cL_acts 90 = .ok (.goto 44, 3) := by decide +kernel
theorem dL_acts_93 : decode cL_acts 93 = .ok (.aload_n 0, 1) := by decide +kernel
theorem dL_acts_94 : decode cL_acts 94 = .ok (.getfield 110, 3) := by decide +kernel
theorem dL_acts_97 : decode cL_acts 97 = .ok (.ifCond .le 37, 3) := by decide +kernel
theorem dL_acts_100 : decode cL_acts 100 = .ok (.aload_n 1, 1) := by decide +kernel
theorem dL_acts_101 : decode cL_acts 101 = .ok (.iload_n 3, 1) := by decide +kernel
theorem dL_acts_102 : decode cL_acts 102 = .ok (.aload_n 0, 1) := by decide +kernel
theorem dL_acts_103 : decode cL_acts 103 = .ok (.getfield 110, 3) := by decide +kernel
theorem dL_acts_106 : decode cL_acts 106 = .ok (.irem, 1) := by decide +kernel
theorem dL_acts_107 : decode cL_acts 107 = .ok (.invokevirtual 139, 3) := by decide +kernel
theorem dL_acts_110 : decode cL_acts 110 = .ok (.pop, 1) := by decide +kernel
theorem dL_acts_111 : decode cL_acts 111 = .ok (.goto 23, 3) := by decide +kernel
theorem dL_acts_114 : decode cL_acts 114 = .ok (.aload_n 1, 1) := by decide +kernel
theorem dL_acts_115 : decode cL_acts 115 = .ok (.iload_n 3, 1) := by decide +kernel
theorem dL_acts_116 : decode cL_acts 116 = .ok (.aload_n 0, 1) := by decide +kernel
theorem dL_acts_117 : decode cL_acts 117 = .ok (.getfield 55, 3) := by decide +kernel
theorem dL_acts_120 : decode cL_acts 120 = .ok (.irem, 1) := by decide +kernel
theorem dL_acts_121 : decode cL_acts 121 = .ok (.iconst 1, 1) := by decide +kernel
theorem dL_acts_122 : decode cL_acts 122 = .ok (.iload_n 3, 1) := by decide +kernel
theorem dL_acts_123 : decode cL_acts 123 = .ok (.iconst 4, 1) := by decide +kernel
theorem dL_acts_124 : decode cL_acts 124 = .ok (.idiv, 1) := by decide +kernel
theorem dL_acts_125 : decode cL_acts 125 = .ok (.sipush 900, 3) := by decide +kernel
theorem dL_acts_128 : decode cL_acts 128 = .ok (.irem, 1) := by decide +kernel
theorem dL_acts_129 : decode cL_acts 129 = .ok (.iadd, 1) := by decide +kernel
theorem dL_acts_130 : decode cL_acts 130 = .ok (.invokevirtual 142, 3) := by decide +kernel
theorem dL_acts_133 : decode cL_acts 133 = .ok (.pop, 1) := by decide +kernel
theorem dL_acts_134 : decode cL_acts 134 = .ok (.return_, 1) := by decide +kernel
theorem dL_isSettled_0 : decode cL_isSettled 0 = .ok (.iconst 0, 1) := by decide +kernel
theorem dL_isSettled_1 : decode cL_isSettled 1 = .ok (.istore_n 3, 1) := by decide +kernel
theorem dL_isSettled_2 : decode cL_isSettled 2 = .ok (.iconst 0, 1) := by decide +kernel
theorem dL_isSettled_3 : decode cL_isSettled 3 = .ok (.istore 4, 2) := by decide +kernel
theorem dL_isSettled_5 : decode cL_isSettled 5 = .ok (.iconst 0, 1) := by decide +kernel
theorem dL_isSettled_6 : decode cL_isSettled 6 = .ok (.istore 5, 2) := by decide +kernel
theorem dL_isSettled_8 : decode cL_isSettled 8 = .ok (.iconst 0, 1) := by decide +kernel
theorem dL_isSettled_9 : decode cL_isSettled 9 = .ok (.istore 6, 2) := by decide +kernel
theorem dL_isSettled_11 : decode cL_isSettled 11 = .ok (.iload 6, 2) := by decide +kernel
theorem dL_isSettled_13 : decode cL_isSettled 13 = .ok (.aload_n 0, 1) := by decide +kernel
theorem dL_isSettled_14 : decode cL_isSettled 14 = .ok (.getfield 110, 3) := by decide +kernel
theorem dL_isSettled_17 : decode cL_isSettled 17 = .ok (.if_icmp .ge 132, 3) := by decide +kernel
theorem dL_isSettled_20 : decode cL_isSettled 20 = .ok (.aload_n 1, 1) := by decide +kernel
theorem dL_isSettled_21 : decode cL_isSettled 21 = .ok (.iload 6, 2) := by decide +kernel
theorem dL_isSettled_23 : decode cL_isSettled 23 = .ok (.bipush 9, 2) := by decide +kernel
theorem dL_isSettled_25 : decode cL_isSettled 25 = .ok (.invokevirtual 146, 3) := by decide +kernel
theorem dL_isSettled_28 : decode cL_isSettled 28 = .ok (.iload_n 2, 1) := by decide +kernel
theorem dL_isSettled_29 : decode cL_isSettled 29 = .ok (.if_icmp .eq 6, 3) := by decide +kernel
theorem dL_isSettled_32 : decode cL_isSettled 32 = .ok (.goto 111, 3) := by decide +kernel
theorem dL_isSettled_35 : decode cL_isSettled 35 = .ok (.aload_n 1, 1) := by decide +kernel
theorem dL_isSettled_36 : decode cL_isSettled 36 = .ok (.iload 6, 2) := by decide +kernel
theorem dL_isSettled_38 : decode cL_isSettled 38 = .ok (.iconst 0, 1) := by decide +kernel
theorem dL_isSettled_39 : decode cL_isSettled 39 = .ok (.invokevirtual 146, 3) := by decide +kernel
theorem dL_isSettled_42 : decode cL_isSettled 42 = .ok (.istore 7, 2) := by decide +kernel
theorem dL_isSettled_44 : decode cL_isSettled 44 = .ok (.iload_n 3, 1) := by decide +kernel
theorem dL_isSettled_45 : decode cL_isSettled 45 = .ok (.aload_n 1, 1) := by decide +kernel
theorem dL_isSettled_46 : decode cL_isSettled 46 = .ok (.iload 6, 2) := by decide +kernel
theorem dL_isSettled_48 : decode cL_isSettled 48 = .ok (.bipush 12, 2) := by decide +kernel
theorem dL_isSettled_50 : decode cL_isSettled 50 = .ok (.invokevirtual 146, 3) := by decide +kernel
theorem dL_isSettled_53 : decode cL_isSettled 53 = .ok (.iadd, 1) := by decide +kernel
theorem dL_isSettled_54 : decode cL_isSettled 54 = .ok (.istore_n 3, 1) := by decide +kernel
theorem dL_isSettled_55 : decode cL_isSettled 55 = .ok (.iload 4, 2) := by decide +kernel
theorem dL_isSettled_57 : decode cL_isSettled 57 = .ok (.iload 7, 2) := by decide +kernel
theorem dL_isSettled_59 : decode cL_isSettled 59 = .ok (.iconst 2, 1) := by decide +kernel
theorem dL_isSettled_60 : decode cL_isSettled 60 = .ok (.if_icmp .eq 9, 3) := by decide +kernel
theorem dL_isSettled_63 : decode cL_isSettled 63 = .ok (.iload 7, 2) := by decide +kernel
theorem dL_isSettled_65 : decode cL_isSettled 65 = .ok (.iconst 3, 1) := by decide +kernel
theorem dL_isSettled_66 : decode cL_isSettled 66 = .ok (.if_icmp .ne 10, 3) := by decide +kernel
theorem dL_isSettled_69 : decode cL_isSettled 69 = .ok (.aload_n 0, 1) := by decide +kernel
theorem dL_isSettled_70 : decode cL_isSettled 70 = .ok (.getfield 58, 3) := by decide +kernel
theorem dL_isSettled_73 : decode cL_isSettled 73 = .ok (.goto 4, 3) := by decide +kernel
theorem dL_isSettled_76 : decode cL_isSettled 76 = .ok (.iconst 0, 1) := by decide +kernel
theorem dL_isSettled_77 : decode cL_isSettled 77 = .ok (.iadd, 1) := by decide +kernel
theorem dL_isSettled_78 : decode cL_isSettled 78 = .ok (.istore 4, 2) := by decide +kernel
theorem dL_isSettled_80 : decode cL_isSettled 80 = .ok (.iload 5, 2) := by decide +kernel
theorem dL_isSettled_82 : decode cL_isSettled 82 = .ok (.iload 7, 2) := by decide +kernel
theorem dL_isSettled_84 : decode cL_isSettled 84 = .ok (.iconst 5, 1) := by decide +kernel
theorem dL_isSettled_85 : decode cL_isSettled 85 = .ok (.if_icmp .ne 10, 3) := by decide +kernel
theorem dL_isSettled_88 : decode cL_isSettled 88 = .ok (.aload_n 0, 1) := by decide +kernel
theorem dL_isSettled_89 : decode cL_isSettled 89 = .ok (.getfield 61, 3) := by decide +kernel
theorem dL_isSettled_92 : decode cL_isSettled 92 = .ok (.goto 4, 3) := by decide +kernel
theorem dL_isSettled_95 : decode cL_isSettled 95 = .ok (.iconst 0, 1) := by decide +kernel
theorem dL_isSettled_96 : decode cL_isSettled 96 = .ok (.iadd, 1) := by decide +kernel
theorem dL_isSettled_97 : decode cL_isSettled 97 = .ok (.istore 5, 2) := by decide +kernel
theorem dL_isSettled_99 : decode cL_isSettled 99 = .ok (.iload 7, 2) := by decide +kernel
theorem dL_isSettled_101 : decode cL_isSettled 101 = .ok (.iconst 2, 1) := by decide +kernel
theorem dL_isSettled_102 : decode cL_isSettled 102 = .ok (.if_icmp .ge 14, 3) := by decide +kernel
theorem dL_isSettled_105 : decode cL_isSettled 105 = .ok (.aload_n 1, 1) := by decide +kernel
theorem dL_isSettled_106 : decode cL_isSettled 106 = .ok (.iload 6, 2) := by decide +kernel
theorem dL_isSettled_108 : decode cL_isSettled 108 = .ok (.bipush 12, 2) := by decide +kernel
theorem dL_isSettled_110 : decode cL_isSettled 110 = .ok (.invokevirtual 146, 3) := by decide +kernel
theorem dL_isSettled_113 : decode cL_isSettled 113 = .ok (.ifCond .ne 28, 3) := by decide +kernel
theorem dL_isSettled_116 : decode cL_isSettled 116 = .ok (.iload 7, 2) := by decide +kernel
theorem dL_isSettled_118 : decode cL_isSettled 118 = .ok (.iconst 3, 1) := by decide +kernel
theorem dL_isSettled_119 : decode cL_isSettled 119 = .ok (.if_icmp .ne 24, 3) := by decide +kernel
theorem dL_isSettled_122 : decode cL_isSettled 122 = .ok (.aload_n 1, 1) := by decide +kernel
theorem dL_isSettled_123 : decode cL_isSettled 123 = .ok (.iload 6, 2) := by decide +kernel
theorem dL_isSettled_125 : decode cL_isSettled 125 = .ok (.bipush 11, 2) := by decide +kernel
theorem dL_isSettled_127 : decode cL_isSettled 127 = .ok (.invokevirtual 146, 3) := by decide +kernel
theorem dL_isSettled_130 : decode cL_isSettled 130 = .ok (.aload_n 1, 1) := by decide +kernel
theorem dL_isSettled_131 : decode cL_isSettled 131 = .ok (.iload 6, 2) := by decide +kernel
theorem dL_isSettled_133 : decode cL_isSettled 133 = .ok (.bipush 10, 2) := by decide +kernel
theorem dL_isSettled_135 : decode cL_isSettled 135 = .ok (.invokevirtual 146, 3) := by decide +kernel
theorem dL_isSettled_138 : decode cL_isSettled 138 = .ok (.if_icmp .ge 5, 3) := by decide +kernel
theorem dL_isSettled_141 : decode cL_isSettled 141 = .ok (.iconst 0, 1) := by decide +kernel
theorem dL_isSettled_142 : decode cL_isSettled 142 = .ok (.ireturn, 1) := by decide +kernel
theorem dL_isSettled_143 : decode cL_isSettled 143 = .ok (.iinc 6 1, 3) := by decide +kernel
theorem dL_isSettled_146 : decode cL_isSettled 146 = .ok (.goto (-135), 3) := by decide +kernel
theorem dL_isSettled_149 : decode cL_isSettled 149 = .ok (.iload_n 3, 1) := by decide +kernel
theorem dL_isSettled_150 : decode cL_isSettled 150 = .ok (.iload 4, 2) := by decide +kernel
theorem dL_isSettled_152 : decode cL_isSettled 152 = .ok (.iload 5, 2) := by decide +kernel
theorem dL_isSettled_154 : decode cL_isSettled 154 = .ok (.iadd, 1) := by decide +kernel
theorem dL_isSettled_155 : decode cL_isSettled 155 = .ok (.aload_n 1, 1) := by decide +kernel
theorem dL_isSettled_156 : decode cL_isSettled 156 = .ok (.iload_n 2, 1) := by decide +kernel
theorem dL_isSettled_157 : decode cL_isSettled 157 = .ok (.iconst 5, 1) := by decide +kernel
theorem dL_isSettled_158 : decode cL_isSettled 158 = .ok (.invokevirtual 149, 3) := by decide +kernel
theorem dL_isSettled_161 : decode cL_isSettled 161 = .ok (.iadd, 1) := by decide +kernel
theorem dL_isSettled_162 : decode cL_isSettled 162 = .ok (.if_icmp .ne 20, 3) := by decide +kernel
theorem dL_isSettled_165 : decode cL_isSettled 165 = .ok (.aload_n 1, 1) := by decide +kernel
theorem dL_isSettled_166 : decode cL_isSettled 166 = .ok (.iload_n 2, 1) := by decide +kernel
theorem dL_isSettled_167 : decode cL_isSettled 167 = .ok (.iconst 0, 1) := by decide +kernel
theorem dL_isSettled_168 : decode cL_isSettled 168 = .ok (.invokevirtual 149, 3) := by decide +kernel
theorem dL_isSettled_171 : decode cL_isSettled 171 = .ok (.iload_n 3, 1) := by decide +kernel
theorem dL_isSettled_172 : decode cL_isSettled 172 = .ok (.aload_n 1, 1) := by decide +kernel
theorem dL_isSettled_173 : decode cL_isSettled 173 = .ok (.iload_n 2, 1) := by decide +kernel
theorem dL_isSettled_174 : decode cL_isSettled 174 = .ok (.iconst 1, 1) := by decide +kernel
theorem dL_isSettled_175 : decode cL_isSettled 175 = .ok (.invokevirtual 149, 3) := by decide +kernel
theorem dL_isSettled_178 : decode cL_isSettled 178 = .ok (.iadd, 1) := by decide +kernel
theorem dL_isSettled_179 : decode cL_isSettled 179 = .ok (.if_icmp .eq 5, 3) := by decide +kernel
theorem dL_isSettled_182 : decode cL_isSettled 182 = .ok (.iconst 0, 1) := by decide +kernel
theorem dL_isSettled_183 : decode cL_isSettled 183 = .ok (.ireturn, 1) := by decide +kernel
theorem dL_isSettled_184 : decode cL_isSettled 184 = .ok (.aload_n 1, 1) := by decide +kernel
theorem dL_isSettled_185 : decode cL_isSettled 185 = .ok (.iload_n 2, 1) := by decide +kernel
theorem dL_isSettled_186 : decode cL_isSettled 186 = .ok (.iconst 4, 1) := by decide +kernel
theorem dL_isSettled_187 : decode cL_isSettled 187 = .ok (.invokevirtual 149, 3) := by decide +kernel
theorem dL_isSettled_190 : decode cL_isSettled 190 = .ok (.aload_n 1, 1) := by decide +kernel
theorem dL_isSettled_191 : decode cL_isSettled 191 = .ok (.iload_n 2, 1) := by decide +kernel
theorem dL_isSettled_192 : decode cL_isSettled 192 = .ok (.iconst 3, 1) := by decide +kernel
theorem dL_isSettled_193 : decode cL_isSettled 193 = .ok (.invokevirtual 149, 3) := by decide +kernel
theorem dL_isSettled_196 : decode cL_isSettled 196 = .ok (.if_icmp .gt 22, 3) := by decide +kernel
theorem dL_isSettled_199 : decode cL_isSettled 199 = .ok (.aload_n 1, 1) := by decide +kernel
theorem dL_isSettled_200 : decode cL_isSettled 200 = .ok (.iload_n 2, 1) := by decide +kernel
theorem dL_isSettled_201 : decode cL_isSettled 201 = .ok (.iconst 3, 1) := by decide +kernel
theorem dL_isSettled_202 : decode cL_isSettled 202 = .ok (.invokevirtual 149, 3) := by decide +kernel
theorem dL_isSettled_205 : decode cL_isSettled 205 = .ok (.aload_n 1, 1) := by decide +kernel
theorem dL_isSettled_206 : decode cL_isSettled 206 = .ok (.iload_n 2, 1) := by decide +kernel
theorem dL_isSettled_207 : decode cL_isSettled 207 = .ok (.iconst 2, 1) := by decide +kernel
theorem dL_isSettled_208 : decode cL_isSettled 208 = .ok (.invokevirtual 149, 3) := by decide +kernel
theorem dL_isSettled_211 : decode cL_isSettled 211 = .ok (.if_icmp .gt 7, 3) := by decide +kernel
theorem dL_isSettled_214 : decode cL_isSettled 214 = .ok (.iconst 1, 1) := by decide +kernel
theorem dL_isSettled_215 : decode cL_isSettled 215 = .ok (.goto 4, 3) := by decide +kernel
theorem dL_isSettled_218 : decode cL_isSettled 218 = .ok (.iconst 0, 1) := by decide +kernel
theorem dL_isSettled_219 : decode cL_isSettled 219 = .ok (.ireturn, 1) := by decide +kernel
theorem dJ9_max_7cf53_0 : decode cJ9_max_7cf53 0 = .ok (.iload_n 0, 1) := by decide +kernel
theorem dJ9_max_7cf53_1 : decode cJ9_max_7cf53 1 = .ok (.iload_n 1, 1) := by decide +kernel
theorem dJ9_max_7cf53_2 : decode cJ9_max_7cf53 2 = .ok (.if_icmp .lt 7, 3) := by decide +kernel
theorem dJ9_max_7cf53_5 : decode cJ9_max_7cf53 5 = .ok (.iload_n 0, 1) := by decide +kernel
theorem dJ9_max_7cf53_6 : decode cJ9_max_7cf53 6 = .ok (.goto 4, 3) := by decide +kernel
theorem dJ9_max_7cf53_9 : decode cJ9_max_7cf53 9 = .ok (.iload_n 1, 1) := by decide +kernel
theorem dJ9_max_7cf53_10 : decode cJ9_max_7cf53 10 = .ok (.ireturn, 1) := by decide +kernel
theorem dJ9_min_7cf53_0 : decode cJ9_min_7cf53 0 = .ok (.iload_n 0, 1) := by decide +kernel
theorem dJ9_min_7cf53_1 : decode cJ9_min_7cf53 1 = .ok (.iload_n 1, 1) := by decide +kernel
theorem dJ9_min_7cf53_2 : decode cJ9_min_7cf53 2 = .ok (.if_icmp .gt 7, 3) := by decide +kernel
theorem dJ9_min_7cf53_5 : decode cJ9_min_7cf53 5 = .ok (.iload_n 0, 1) := by decide +kernel
theorem dJ9_min_7cf53_6 : decode cJ9_min_7cf53 6 = .ok (.goto 4, 3) := by decide +kernel
theorem dJ9_min_7cf53_9 : decode cJ9_min_7cf53 9 = .ok (.iload_n 1, 1) := by decide +kernel
theorem dJ9_min_7cf53_10 : decode cJ9_min_7cf53 10 = .ok (.ireturn, 1) := by decide +kernel
theorem dJ0_length_8abf5_0 : decode cJ0_length_8abf5 0 = .ok (.aload_n 0, 1) := by decide +kernel
theorem dJ0_length_8abf5_1 : decode cJ0_length_8abf5 1 = .ok (.getfield 9, 3) := by decide +kernel
theorem dJ0_length_8abf5_4 : decode cJ0_length_8abf5 4 = .ok (.arraylength, 1) := by decide +kernel
theorem dJ0_length_8abf5_5 : decode cJ0_length_8abf5 5 = .ok (.aload_n 0, 1) := by decide +kernel
theorem dJ0_length_8abf5_6 : decode cJ0_length_8abf5 6 = .ok (.invokevirtual 335, 3) := by decide +kernel
theorem dJ0_length_8abf5_9 : decode cJ0_length_8abf5 9 = .ok (.ishr, 1) := by decide +kernel
theorem dJ0_length_8abf5_10 : decode cJ0_length_8abf5 10 = .ok (.ireturn, 1) := by decide +kernel
theorem dJ0_charAt_5068e_0 : decode cJ0_charAt_5068e 0 = .ok (.aload_n 0, 1) := by decide +kernel
theorem dJ0_charAt_5068e_1 : decode cJ0_charAt_5068e 1 = .ok (.invokevirtual 492, 3) := by decide +kernel
theorem dJ0_charAt_5068e_4 : decode cJ0_charAt_5068e 4 = .ok (.ifCond .eq 12, 3) := by decide +kernel
theorem dJ0_charAt_5068e_7 : decode cJ0_charAt_5068e 7 = .ok (.aload_n 0, 1) := by decide +kernel
theorem dJ0_charAt_5068e_8 : decode cJ0_charAt_5068e 8 = .ok (.getfield 9, 3) := by decide +kernel
theorem dJ0_charAt_5068e_11 : decode cJ0_charAt_5068e 11 = .ok (.iload_n 1, 1) := by decide +kernel
theorem dJ0_charAt_5068e_12 : decode cJ0_charAt_5068e 12 = .ok (.invokestatic 495, 3) := by decide +kernel
theorem dJ0_charAt_5068e_15 : decode cJ0_charAt_5068e 15 = .ok (.ireturn, 1) := by decide +kernel
theorem dJ0_charAt_5068e_16 : decode cJ0_charAt_5068e 16 = .ok (.aload_n 0, 1) := by decide +kernel
theorem dJ0_charAt_5068e_17 : decode cJ0_charAt_5068e 17 = .ok (.getfield 9, 3) := by decide +kernel
theorem dJ0_charAt_5068e_20 : decode cJ0_charAt_5068e 20 = .ok (.iload_n 1, 1) := by decide +kernel
theorem dJ0_charAt_5068e_21 : decode cJ0_charAt_5068e 21 = .ok (.invokestatic 498, 3) := by decide +kernel
theorem dJ0_charAt_5068e_24 : decode cJ0_charAt_5068e 24 = .ok (.ireturn, 1) := by decide +kernel
theorem dJ0_coder_7d493_0 : decode cJ0_coder_7d493 0 = .ok (.getstatic 38, 3) := by decide +kernel
theorem dJ0_coder_7d493_3 : decode cJ0_coder_7d493 3 = .ok (.ifCond .eq 10, 3) := by decide +kernel
theorem dJ0_coder_7d493_6 : decode cJ0_coder_7d493 6 = .ok (.aload_n 0, 1) := by decide +kernel
theorem dJ0_coder_7d493_7 : decode cJ0_coder_7d493 7 = .ok (.getfield 15, 3) := by decide +kernel
theorem dJ0_coder_7d493_10 : decode cJ0_coder_7d493 10 = .ok (.goto 4, 3) := by decide +kernel
theorem dJ0_coder_7d493_13 : decode cJ0_coder_7d493 13 = .ok (.iconst 1, 1) := by decide +kernel
theorem dJ0_coder_7d493_14 : decode cJ0_coder_7d493 14 = .ok (.ireturn, 1) := by decide +kernel
theorem dJ0_isLatin1_aae02_0 : decode cJ0_isLatin1_aae02 0 = .ok (.getstatic 38, 3) := by decide +kernel
theorem dJ0_isLatin1_aae02_3 : decode cJ0_isLatin1_aae02 3 = .ok (.ifCond .eq 14, 3) := by decide +kernel
theorem dJ0_isLatin1_aae02_6 : decode cJ0_isLatin1_aae02 6 = .ok (.aload_n 0, 1) := by decide +kernel
theorem dJ0_isLatin1_aae02_7 : decode cJ0_isLatin1_aae02 7 = .ok (.getfield 15, 3) := by decide +kernel
theorem dJ0_isLatin1_aae02_10 : decode cJ0_isLatin1_aae02 10 = .ok (.ifCond .ne 7, 3) := by decide +kernel
theorem dJ0_isLatin1_aae02_13 : decode cJ0_isLatin1_aae02 13 = .ok (.iconst 1, 1) := by decide +kernel
theorem dJ0_isLatin1_aae02_14 : decode cJ0_isLatin1_aae02 14 = .ok (.goto 4, 3) := by decide +kernel
theorem dJ0_isLatin1_aae02_17 : decode cJ0_isLatin1_aae02 17 = .ok (.iconst 0, 1) := by decide +kernel
theorem dJ0_isLatin1_aae02_18 : decode cJ0_isLatin1_aae02 18 = .ok (.ireturn, 1) := by decide +kernel
theorem dJ0_checkIndex_df160_0 : decode cJ0_checkIndex_df160 0 = .ok (.iload_n 0, 1) := by decide +kernel
theorem dJ0_checkIndex_df160_1 : decode cJ0_checkIndex_df160 1 = .ok (.iload_n 1, 1) := by decide +kernel
theorem dJ0_checkIndex_df160_2 : decode cJ0_checkIndex_df160 2 = .ok (.getstatic 1053, 3) := by decide +kernel
theorem dJ0_checkIndex_df160_5 : decode cJ0_checkIndex_df160 5 = .ok (.invokestatic 1059, 3) := by decide +kernel
theorem dJ0_checkIndex_df160_8 : decode cJ0_checkIndex_df160 8 = .ok (.pop, 1) := by decide +kernel
theorem dJ0_checkIndex_df160_9 : decode cJ0_checkIndex_df160 9 = .ok (.return_, 1) := by decide +kernel
theorem dJ1_charAt_3b067_0 : decode cJ1_charAt_3b067 0 = .ok (.iload_n 1, 1) := by decide +kernel
theorem dJ1_charAt_3b067_1 : decode cJ1_charAt_3b067 1 = .ok (.aload_n 0, 1) := by decide +kernel
theorem dJ1_charAt_3b067_2 : decode cJ1_charAt_3b067 2 = .ok (.arraylength, 1) := by decide +kernel
theorem dJ1_charAt_3b067_3 : decode cJ1_charAt_3b067 3 = .ok (.invokestatic 9, 3) := by decide +kernel
theorem dJ1_charAt_3b067_6 : decode cJ1_charAt_3b067 6 = .ok (.aload_n 0, 1) := by decide +kernel
theorem dJ1_charAt_3b067_7 : decode cJ1_charAt_3b067 7 = .ok (.iload_n 1, 1) := by decide +kernel
theorem dJ1_charAt_3b067_8 : decode cJ1_charAt_3b067 8 = .ok (.baload, 1) := by decide +kernel
theorem dJ1_charAt_3b067_9 : decode cJ1_charAt_3b067 9 = .ok (.sipush 255, 3) := by decide +kernel
theorem dJ1_charAt_3b067_12 : decode cJ1_charAt_3b067 12 = .ok (.iand, 1) := by decide +kernel
theorem dJ1_charAt_3b067_13 : decode cJ1_charAt_3b067 13 = .ok (.i2c, 1) := by decide +kernel
theorem dJ1_charAt_3b067_14 : decode cJ1_charAt_3b067 14 = .ok (.ireturn, 1) := by decide +kernel
theorem dJ2_getChar_3b067_0 : decode cJ2_getChar_3b067 0 = .ok (.getstatic 44, 3) := by decide +kernel
theorem dJ2_getChar_3b067_3 : decode cJ2_getChar_3b067 3 = .ok (.ifCond .ne 25, 3) := by decide +kernel
theorem dJ2_getChar_3b067_6 : decode cJ2_getChar_3b067 6 = .ok (.iload_n 1, 1) := by decide +kernel
theorem dJ2_getChar_3b067_7 : decode cJ2_getChar_3b067 7 = .ok (.ifCond .lt 11, 3) := by decide +kernel
theorem dJ2_getChar_3b067_10 : decode cJ2_getChar_3b067 10 = .ok (.iload_n 1, 1) := by decide +kernel
theorem dJ2_getChar_3b067_11 : decode cJ2_getChar_3b067 11 = .ok (.aload_n 0, 1) := by decide +kernel
theorem dJ2_getChar_3b067_12 : decode cJ2_getChar_3b067 12 = .ok (.invokestatic 48, 3) := by decide +kernel
theorem dJ2_getChar_3b067_15 : decode cJ2_getChar_3b067 15 = .ok (.if_icmp .lt 13, 3) := by decide +kernel
theorem dJ2_getChar_3b067_18 : decode cJ2_getChar_3b067 18 = .ok (.new 52, 3) := by decide +kernel
theorem dJ2_getChar_3b067_21 : decode cJ2_getChar_3b067 21 = .ok (.dup, 1) := by decide +kernel
theorem dJ2_getChar_3b067_22 : decode cJ2_getChar_3b067 22 = .ok (.ldc 54, 2) := by decide +kernel
theorem dJ2_getChar_3b067_24 : decode cJ2_getChar_3b067 24 = .ok (.invokespecial 56, 3) := by decide +kernel
theorem dJ2_getChar_3b067_27 : decode cJ2_getChar_3b067 27 = .ok (.athrow, 1) := by decide +kernel
theorem dJ2_getChar_3b067_28 : decode cJ2_getChar_3b067 28 = .ok (.iload_n 1, 1) := by decide +kernel
theorem dJ2_getChar_3b067_29 : decode cJ2_getChar_3b067 29 = .ok (.iconst 1, 1) := by decide +kernel
theorem dJ2_getChar_3b067_30 : decode cJ2_getChar_3b067 30 = .ok (.ishl, 1) := by decide +kernel
theorem dJ2_getChar_3b067_31 : decode cJ2_getChar_3b067 31 = .ok (.istore_n 1, 1) := by decide +kernel
theorem dJ2_getChar_3b067_32 : decode cJ2_getChar_3b067 32 = .ok (.aload_n 0, 1) := by decide +kernel
theorem dJ2_getChar_3b067_33 : decode cJ2_getChar_3b067 33 = .ok (.iload_n 1, 1) := by decide +kernel
theorem dJ2_getChar_3b067_34 : decode cJ2_getChar_3b067 34 = .ok (.iinc 1 1, 3) := by decide +kernel
theorem dJ2_getChar_3b067_37 : decode cJ2_getChar_3b067 37 = .ok (.baload, 1) := by decide +kernel
theorem dJ2_getChar_3b067_38 : decode cJ2_getChar_3b067 38 = .ok (.sipush 255, 3) := by decide +kernel
theorem dJ2_getChar_3b067_41 : decode cJ2_getChar_3b067 41 = .ok (.iand, 1) := by decide +kernel
theorem dJ2_getChar_3b067_42 : decode cJ2_getChar_3b067 42 = .ok (.getstatic 59, 3) := by decide +kernel
theorem dJ2_getChar_3b067_45 : decode cJ2_getChar_3b067 45 = .ok (.ishl, 1) := by decide +kernel
theorem dJ2_getChar_3b067_46 : decode cJ2_getChar_3b067 46 = .ok (.aload_n 0, 1) := by decide +kernel
theorem dJ2_getChar_3b067_47 : decode cJ2_getChar_3b067 47 = .ok (.iload_n 1, 1) := by decide +kernel
theorem dJ2_getChar_3b067_48 : decode cJ2_getChar_3b067 48 = .ok (.baload, 1) := by decide +kernel
theorem dJ2_getChar_3b067_49 : decode cJ2_getChar_3b067 49 = .ok (.sipush 255, 3) := by decide +kernel
theorem dJ2_getChar_3b067_52 : decode cJ2_getChar_3b067 52 = .ok (.iand, 1) := by decide +kernel
theorem dJ2_getChar_3b067_53 : decode cJ2_getChar_3b067 53 = .ok (.getstatic 63, 3) := by decide +kernel
theorem dJ2_getChar_3b067_56 : decode cJ2_getChar_3b067 56 = .ok (.ishl, 1) := by decide +kernel
theorem dJ2_getChar_3b067_57 : decode cJ2_getChar_3b067 57 = .ok (.ior, 1) := by decide +kernel
theorem dJ2_getChar_3b067_58 : decode cJ2_getChar_3b067 58 = .ok (.i2c, 1) := by decide +kernel
theorem dJ2_getChar_3b067_59 : decode cJ2_getChar_3b067 59 = .ok (.ireturn, 1) := by decide +kernel
theorem dJ2_length_9d52b_0 : decode cJ2_length_9d52b 0 = .ok (.aload_n 0, 1) := by decide +kernel
theorem dJ2_length_9d52b_1 : decode cJ2_length_9d52b 1 = .ok (.arraylength, 1) := by decide +kernel
theorem dJ2_length_9d52b_2 : decode cJ2_length_9d52b 2 = .ok (.iconst 1, 1) := by decide +kernel
theorem dJ2_length_9d52b_3 : decode cJ2_length_9d52b 3 = .ok (.ishr, 1) := by decide +kernel
theorem dJ2_length_9d52b_4 : decode cJ2_length_9d52b 4 = .ok (.ireturn, 1) := by decide +kernel
theorem dJ2_charAt_3b067_0 : decode cJ2_charAt_3b067 0 = .ok (.iload_n 1, 1) := by decide +kernel
theorem dJ2_charAt_3b067_1 : decode cJ2_charAt_3b067 1 = .ok (.aload_n 0, 1) := by decide +kernel
theorem dJ2_charAt_3b067_2 : decode cJ2_charAt_3b067 2 = .ok (.invokestatic 67, 3) := by decide +kernel
theorem dJ2_charAt_3b067_5 : decode cJ2_charAt_3b067 5 = .ok (.aload_n 0, 1) := by decide +kernel
theorem dJ2_charAt_3b067_6 : decode cJ2_charAt_3b067 6 = .ok (.iload_n 1, 1) := by decide +kernel
theorem dJ2_charAt_3b067_7 : decode cJ2_charAt_3b067 7 = .ok (.invokestatic 71, 3) := by decide +kernel
theorem dJ2_charAt_3b067_10 : decode cJ2_charAt_3b067 10 = .ok (.ireturn, 1) := by decide +kernel
theorem dJ2_checkIndex_2214a_0 : decode cJ2_checkIndex_2214a 0 = .ok (.iload_n 0, 1) := by decide +kernel
theorem dJ2_checkIndex_2214a_1 : decode cJ2_checkIndex_2214a 1 = .ok (.aload_n 1, 1) := by decide +kernel
theorem dJ2_checkIndex_2214a_2 : decode cJ2_checkIndex_2214a 2 = .ok (.invokestatic 48, 3) := by decide +kernel
theorem dJ2_checkIndex_2214a_5 : decode cJ2_checkIndex_2214a 5 = .ok (.invokestatic 414, 3) := by decide +kernel
theorem dJ2_checkIndex_2214a_8 : decode cJ2_checkIndex_2214a 8 = .ok (.return_, 1) := by decide +kernel
theorem dJ3_checkIndex_8e157_0 : decode cJ3_checkIndex_8e157 0 = .ok (.iload_n 0, 1) := by decide +kernel
theorem dJ3_checkIndex_8e157_1 : decode cJ3_checkIndex_8e157 1 = .ok (.ifCond .lt 8, 3) := by decide +kernel
theorem dJ3_checkIndex_8e157_4 : decode cJ3_checkIndex_8e157 4 = .ok (.iload_n 0, 1) := by decide +kernel
theorem dJ3_checkIndex_8e157_5 : decode cJ3_checkIndex_8e157 5 = .ok (.iload_n 1, 1) := by decide +kernel
theorem dJ3_checkIndex_8e157_6 : decode cJ3_checkIndex_8e157 6 = .ok (.if_icmp .lt 10, 3) := by decide +kernel
theorem dJ3_checkIndex_8e157_9 : decode cJ3_checkIndex_8e157 9 = .ok (.aload_n 2, 1) := by decide +kernel
theorem dJ3_checkIndex_8e157_10 : decode cJ3_checkIndex_8e157 10 = .ok (.iload_n 0, 1) := by decide +kernel
theorem dJ3_checkIndex_8e157_11 : decode cJ3_checkIndex_8e157 11 = .ok (.iload_n 1, 1) := by decide +kernel
theorem dJ3_checkIndex_8e157_12 : decode cJ3_checkIndex_8e157 12 = .ok (.invokestatic 95, 3) := by decide +kernel
theorem dJ3_checkIndex_8e157_15 : decode cJ3_checkIndex_8e157 15 = .ok (.athrow, 1) := by decide +kernel
theorem dJ3_checkIndex_8e157_16 : decode cJ3_checkIndex_8e157 16 = .ok (.iload_n 0, 1) := by decide +kernel
theorem dJ3_checkIndex_8e157_17 : decode cJ3_checkIndex_8e157 17 = .ok (.ireturn, 1) := by decide +kernel
