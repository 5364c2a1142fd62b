theorem dX0_init_0 : decode cX0_init 0 = .ok (.aload_n 0, 1) := by decide +kernel
theorem dX0_init_1 : decode cX0_init 1 = .ok (.invokespecial 3, 3) := by decide +kernel
theorem dX0_init_4 : decode cX0_init 4 = .ok (.aload_n 0, 1) := by decide +kernel
theorem dX0_init_5 : decode cX0_init 5 = .ok (.bipush 10, 2) := by decide +kernel
theorem dX0_init_7 : decode cX0_init 7 = .ok (.newarray .int, 2) := by decide +kernel
theorem dX0_init_9 : decode cX0_init 9 = .ok (.putfield 9, 3) := by decide +kernel
theorem dX0_init_12 : decode cX0_init 12 = .ok (.aload_n 0, 1) := by decide +kernel
theorem dX0_init_13 : decode cX0_init 13 = .ok (.iconst 4, 1) := by decide +kernel
theorem dX0_init_14 : decode cX0_init 14 = .ok (.anewarray 15, 3) := by decide +kernel
theorem dX0_init_17 : decode cX0_init 17 = .ok (.putfield 17, 3) := by decide +kernel
theorem dX0_init_20 : decode cX0_init 20 = .ok (.aload_n 0, 1) := by decide +kernel
theorem dX0_init_21 : decode cX0_init 21 = .ok (.bipush 24, 2) := by decide +kernel
theorem dX0_init_23 : decode cX0_init 23 = .ok (.anewarray 21, 3) := by decide +kernel
theorem dX0_init_26 : decode cX0_init 26 = .ok (.putfield 23, 3) := by decide +kernel
theorem dX0_init_29 : decode cX0_init 29 = .ok (.iconst 0, 1) := by decide +kernel
theorem dX0_init_30 : decode cX0_init 30 = .ok (.istore_n 1, 1) := by decide +kernel
theorem dX0_init_31 : decode cX0_init 31 = .ok (.iload_n 1, 1) := by decide +kernel
theorem dX0_init_32 : decode cX0_init 32 = .ok (.iconst 4, 1) := by decide +kernel
theorem dX0_init_33 : decode cX0_init 33 = .ok (.if_icmp .ge 22, 3) := by decide +kernel
theorem dX0_init_36 : decode cX0_init 36 = .ok (.aload_n 0, 1) := by decide +kernel
theorem dX0_init_37 : decode cX0_init 37 = .ok (.getfield 17, 3) := by decide +kernel
theorem dX0_init_40 : decode cX0_init 40 = .ok (.iload_n 1, 1) := by decide +kernel
theorem dX0_init_41 : decode cX0_init 41 = .ok (.new 15, 3) := by decide +kernel
theorem dX0_init_44 : decode cX0_init 44 = .ok (.dup, 1) := by decide +kernel
theorem dX0_init_45 : decode cX0_init 45 = .ok (.invokespecial 27, 3) := by decide +kernel
theorem dX0_init_48 : decode cX0_init 48 = .ok (.aastore, 1) := by decide +kernel
theorem dX0_init_49 : decode cX0_init 49 = .ok (.iinc 1 1, 3) := by decide +kernel
theorem dX0_init_52 : decode cX0_init 52 = .ok (.goto (-21), 3) := by decide +kernel
theorem dX0_init_55 : decode cX0_init 55 = .ok (.iconst 0, 1) := by decide +kernel
theorem dX0_init_56 : decode cX0_init 56 = .ok (.istore_n 1, 1) := by decide +kernel
theorem dX0_init_57 : decode cX0_init 57 = .ok (.iload_n 1, 1) := by decide +kernel
theorem dX0_init_58 : decode cX0_init 58 = .ok (.bipush 24, 2) := by decide +kernel
theorem dX0_init_60 : decode cX0_init 60 = .ok (.if_icmp .ge 22, 3) := by decide +kernel
theorem dX0_init_63 : decode cX0_init 63 = .ok (.aload_n 0, 1) := by decide +kernel
theorem dX0_init_64 : decode cX0_init 64 = .ok (.getfield 23, 3) := by decide +kernel
theorem dX0_init_67 : decode cX0_init 67 = .ok (.iload_n 1, 1) := by decide +kernel
theorem dX0_init_68 : decode cX0_init 68 = .ok (.new 21, 3) := by decide +kernel
theorem dX0_init_71 : decode cX0_init 71 = .ok (.dup, 1) := by decide +kernel
theorem dX0_init_72 : decode cX0_init 72 = .ok (.invokespecial 28, 3) := by decide +kernel
theorem dX0_init_75 : decode cX0_init 75 = .ok (.aastore, 1) := by decide +kernel
theorem dX0_init_76 : decode cX0_init 76 = .ok (.iinc 1 1, 3) := by decide +kernel
theorem dX0_init_79 : decode cX0_init 79 = .ok (.goto (-22), 3) := by decide +kernel
theorem dX0_init_82 : decode cX0_init 82 = .ok (.return_, 1) := by decide +kernel
theorem dX0_clear_0 : decode cX0_clear 0 = .ok (.aload_n 0, 1) := by decide +kernel
theorem dX0_clear_1 : decode cX0_clear 1 = .ok (.iconst 0, 1) := by decide +kernel
theorem dX0_clear_2 : decode cX0_clear 2 = .ok (.putfield 29, 3) := by decide +kernel
theorem dX0_clear_5 : decode cX0_clear 5 = .ok (.aload_n 0, 1) := by decide +kernel
theorem dX0_clear_6 : decode cX0_clear 6 = .ok (.iconst 0, 1) := by decide +kernel
theorem dX0_clear_7 : decode cX0_clear 7 = .ok (.putfield 33, 3) := by decide +kernel
theorem dX0_clear_10 : decode cX0_clear 10 = .ok (.aload_n 0, 1) := by decide +kernel
theorem dX0_clear_11 : decode cX0_clear 11 = .ok (.iconst 0, 1) := by decide +kernel
theorem dX0_clear_12 : decode cX0_clear 12 = .ok (.putfield 36, 3) := by decide +kernel
theorem dX0_clear_15 : decode cX0_clear 15 = .ok (.aload_n 0, 1) := by decide +kernel
theorem dX0_clear_16 : decode cX0_clear 16 = .ok (.iconst 0, 1) := by decide +kernel
theorem dX0_clear_17 : decode cX0_clear 17 = .ok (.putfield 39, 3) := by decide +kernel
theorem dX0_clear_20 : decode cX0_clear 20 = .ok (.aload_n 0, 1) := by decide +kernel
theorem dX0_clear_21 : decode cX0_clear 21 = .ok (.iconst 0, 1) := by decide +kernel
theorem dX0_clear_22 : decode cX0_clear 22 = .ok (.putfield 42, 3) := by decide +kernel
theorem dX0_clear_25 : decode cX0_clear 25 = .ok (.iconst 0, 1) := by decide +kernel
theorem dX0_clear_26 : decode cX0_clear 26 = .ok (.istore_n 1, 1) := by decide +kernel
theorem dX0_clear_27 : decode cX0_clear 27 = .ok (.iload_n 1, 1) := by decide +kernel
theorem dX0_clear_28 : decode cX0_clear 28 = .ok (.bipush 10, 2) := by decide +kernel
theorem dX0_clear_30 : decode cX0_clear 30 = .ok (.if_icmp .ge 20, 3) := by decide +kernel
theorem dX0_clear_33 : decode cX0_clear 33 = .ok (.aload_n 0, 1) := by decide +kernel
theorem dX0_clear_34 : decode cX0_clear 34 = .ok (.getfield 9, 3) := by decide +kernel
theorem dX0_clear_37 : decode cX0_clear 37 = .ok (.iload_n 1, 1) := by decide +kernel
theorem dX0_clear_38 : decode cX0_clear 38 = .ok (.getstatic 45, 3) := by decide +kernel
theorem dX0_clear_41 : decode cX0_clear 41 = .ok (.iload_n 1, 1) := by decide +kernel
theorem dX0_clear_42 : decode cX0_clear 42 = .ok (.iaload, 1) := by decide +kernel
theorem dX0_clear_43 : decode cX0_clear 43 = .ok (.iastore, 1) := by decide +kernel
theorem dX0_clear_44 : decode cX0_clear 44 = .ok (.iinc 1 1, 3) := by decide +kernel
theorem dX0_clear_47 : decode cX0_clear 47 = .ok (.goto (-20), 3) := by decide +kernel
theorem dX0_clear_50 : decode cX0_clear 50 = .ok (.return_, 1) := by decide +kernel
theorem dX0_copyFrom_0 : decode cX0_copyFrom 0 = .ok (.aload_n 0, 1) := by decide +kernel
theorem dX0_copyFrom_1 : decode cX0_copyFrom 1 = .ok (.aload_n 1, 1) := by decide +kernel
theorem dX0_copyFrom_2 : decode cX0_copyFrom 2 = .ok (.getfield 29, 3) := by decide +kernel
theorem dX0_copyFrom_5 : decode cX0_copyFrom 5 = .ok (.putfield 29, 3) := by decide +kernel
theorem dX0_copyFrom_8 : decode cX0_copyFrom 8 = .ok (.aload_n 0, 1) := by decide +kernel
theorem dX0_copyFrom_9 : decode cX0_copyFrom 9 = .ok (.aload_n 1, 1) := by decide +kernel
theorem dX0_copyFrom_10 : decode cX0_copyFrom 10 = .ok (.getfield 33, 3) := by decide +kernel
theorem dX0_copyFrom_13 : decode cX0_copyFrom 13 = .ok (.putfield 33, 3) := by decide +kernel
theorem dX0_copyFrom_16 : decode cX0_copyFrom 16 = .ok (.aload_n 0, 1) := by decide +kernel
theorem dX0_copyFrom_17 : decode cX0_copyFrom 17 = .ok (.aload_n 1, 1) := by decide +kernel
theorem dX0_copyFrom_18 : decode cX0_copyFrom 18 = .ok (.getfield 36, 3) := by decide +kernel
theorem dX0_copyFrom_21 : decode cX0_copyFrom 21 = .ok (.putfield 36, 3) := by decide +kernel
theorem dX0_copyFrom_24 : decode cX0_copyFrom 24 = .ok (.aload_n 0, 1) := by decide +kernel
theorem dX0_copyFrom_25 : decode cX0_copyFrom 25 = .ok (.aload_n 1, 1) := by decide +kernel
theorem dX0_copyFrom_26 : decode cX0_copyFrom 26 = .ok (.getfield 39, 3) := by decide +kernel
theorem dX0_copyFrom_29 : decode cX0_copyFrom 29 = .ok (.putfield 39, 3) := by decide +kernel
theorem dX0_copyFrom_32 : decode cX0_copyFrom 32 = .ok (.aload_n 0, 1) := by decide +kernel
theorem dX0_copyFrom_33 : decode cX0_copyFrom 33 = .ok (.aload_n 1, 1) := by decide +kernel
theorem dX0_copyFrom_34 : decode cX0_copyFrom 34 = .ok (.getfield 42, 3) := by decide +kernel
theorem dX0_copyFrom_37 : decode cX0_copyFrom 37 = .ok (.putfield 42, 3) := by decide +kernel
theorem dX0_copyFrom_40 : decode cX0_copyFrom 40 = .ok (.iconst 0, 1) := by decide +kernel
theorem dX0_copyFrom_41 : decode cX0_copyFrom 41 = .ok (.istore_n 2, 1) := by decide +kernel
theorem dX0_copyFrom_42 : decode cX0_copyFrom 42 = .ok (.iload_n 2, 1) := by decide +kernel
theorem dX0_copyFrom_43 : decode cX0_copyFrom 43 = .ok (.bipush 10, 2) := by decide +kernel
theorem dX0_copyFrom_45 : decode cX0_copyFrom 45 = .ok (.if_icmp .ge 21, 3) := by decide +kernel
theorem dX0_copyFrom_48 : decode cX0_copyFrom 48 = .ok (.aload_n 0, 1) := by decide +kernel
theorem dX0_copyFrom_49 : decode cX0_copyFrom 49 = .ok (.getfield 9, 3) := by decide +kernel
theorem dX0_copyFrom_52 : decode cX0_copyFrom 52 = .ok (.iload_n 2, 1) := by decide +kernel
theorem dX0_copyFrom_53 : decode cX0_copyFrom 53 = .ok (.aload_n 1, 1) := by decide +kernel
theorem dX0_copyFrom_54 : decode cX0_copyFrom 54 = .ok (.getfield 9, 3) := by decide +kernel
theorem dX0_copyFrom_57 : decode cX0_copyFrom 57 = .ok (.iload_n 2, 1) := by decide +kernel
theorem dX0_copyFrom_58 : decode cX0_copyFrom 58 = .ok (.iaload, 1) := by decide +kernel
theorem dX0_copyFrom_59 : decode cX0_copyFrom 59 = .ok (.iastore, 1) := by decide +kernel
theorem dX0_copyFrom_60 : decode cX0_copyFrom 60 = .ok (.iinc 2 1, 3) := by decide +kernel
theorem dX0_copyFrom_63 : decode cX0_copyFrom 63 = .ok (.goto (-21), 3) := by decide +kernel
theorem dX0_copyFrom_66 : decode cX0_copyFrom 66 = .ok (.iconst 0, 1) := by decide +kernel
theorem dX0_copyFrom_67 : decode cX0_copyFrom 67 = .ok (.istore_n 2, 1) := by decide +kernel
theorem dX0_copyFrom_68 : decode cX0_copyFrom 68 = .ok (.iload_n 2, 1) := by decide +kernel
theorem dX0_copyFrom_69 : decode cX0_copyFrom 69 = .ok (.aload_n 0, 1) := by decide +kernel
theorem dX0_copyFrom_70 : decode cX0_copyFrom 70 = .ok (.getfield 39, 3) := by decide +kernel
theorem dX0_copyFrom_73 : decode cX0_copyFrom 73 = .ok (.if_icmp .ge 29, 3) := by decide +kernel
theorem dX0_copyFrom_76 : decode cX0_copyFrom 76 = .ok (.iload_n 2, 1) := by decide +kernel
theorem dX0_copyFrom_77 : decode cX0_copyFrom 77 = .ok (.iconst 4, 1) := by decide +kernel
theorem dX0_copyFrom_78 : decode cX0_copyFrom 78 = .ok (.if_icmp .ge 24, 3) := by decide +kernel
theorem dX0_copyFrom_81 : decode cX0_copyFrom 81 = .ok (.aload_n 0, 1) := by decide +kernel
theorem dX0_copyFrom_82 : decode cX0_copyFrom 82 = .ok (.getfield 17, 3) := by decide +kernel
theorem dX0_copyFrom_85 : decode cX0_copyFrom 85 = .ok (.iload_n 2, 1) := by decide +kernel
theorem dX0_copyFrom_86 : decode cX0_copyFrom 86 = .ok (.aaload, 1) := by decide +kernel
theorem dX0_copyFrom_87 : decode cX0_copyFrom 87 = .ok (.aload_n 1, 1) := by decide +kernel
theorem dX0_copyFrom_88 : decode cX0_copyFrom 88 = .ok (.getfield 17, 3) := by decide +kernel
theorem dX0_copyFrom_91 : decode cX0_copyFrom 91 = .ok (.iload_n 2, 1) := by decide +kernel
theorem dX0_copyFrom_92 : decode cX0_copyFrom 92 = .ok (.aaload, 1) := by decide +kernel
theorem dX0_copyFrom_93 : decode cX0_copyFrom 93 = .ok (.invokevirtual 48, 3) := by decide +kernel
theorem dX0_copyFrom_96 : decode cX0_copyFrom 96 = .ok (.iinc 2 1, 3) := by decide +kernel
theorem dX0_copyFrom_99 : decode cX0_copyFrom 99 = .ok (.goto (-31), 3) := by decide +kernel
theorem dX0_copyFrom_102 : decode cX0_copyFrom 102 = .ok (.iconst 0, 1) := by decide +kernel
theorem dX0_copyFrom_103 : decode cX0_copyFrom 103 = .ok (.istore_n 2, 1) := by decide +kernel
theorem dX0_copyFrom_104 : decode cX0_copyFrom 104 = .ok (.iload_n 2, 1) := by decide +kernel
theorem dX0_copyFrom_105 : decode cX0_copyFrom 105 = .ok (.aload_n 0, 1) := by decide +kernel
theorem dX0_copyFrom_106 : decode cX0_copyFrom 106 = .ok (.getfield 42, 3) := by decide +kernel
theorem dX0_copyFrom_109 : decode cX0_copyFrom 109 = .ok (.if_icmp .ge 30, 3) := by decide +kernel
theorem dX0_copyFrom_112 : decode cX0_copyFrom 112 = .ok (.iload_n 2, 1) := by decide +kernel
theorem dX0_copyFrom_113 : decode cX0_copyFrom 113 = .ok (.bipush 24, 2) := by decide +kernel
theorem dX0_copyFrom_115 : decode cX0_copyFrom 115 = .ok (.if_icmp .ge 24, 3) := by decide +kernel
theorem dX0_copyFrom_118 : decode cX0_copyFrom 118 = .ok (.aload_n 0, 1) := by decide +kernel
theorem dX0_copyFrom_119 : decode cX0_copyFrom 119 = .ok (.getfield 23, 3) := by decide +kernel
theorem dX0_copyFrom_122 : decode cX0_copyFrom 122 = .ok (.iload_n 2, 1) := by decide +kernel
theorem dX0_copyFrom_123 : decode cX0_copyFrom 123 = .ok (.aaload, 1) := by decide +kernel
theorem dX0_copyFrom_124 : decode cX0_copyFrom 124 = .ok (.aload_n 1, 1) := by decide +kernel
theorem dX0_copyFrom_125 : decode cX0_copyFrom 125 = .ok (.getfield 23, 3) := by decide +kernel
theorem dX0_copyFrom_128 : decode cX0_copyFrom 128 = .ok (.iload_n 2, 1) := by decide +kernel
theorem dX0_copyFrom_129 : decode cX0_copyFrom 129 = .ok (.aaload, 1) := by decide +kernel
theorem dX0_copyFrom_130 : decode cX0_copyFrom 130 = .ok (.invokevirtual 52, 3) := by decide +kernel
theorem dX0_copyFrom_133 : decode cX0_copyFrom 133 = .ok (.iinc 2 1, 3) := by decide +kernel
theorem dX0_copyFrom_136 : decode cX0_copyFrom 136 = .ok (.goto (-32), 3) := by decide +kernel
theorem dX0_copyFrom_139 : decode cX0_copyFrom 139 = .ok (.return_, 1) := by decide +kernel
theorem dX0_ruleValue_0 : decode cX0_ruleValue 0 = .ok (.iload_n 1, 1) := by decide +kernel
theorem dX0_ruleValue_1 : decode cX0_ruleValue 1 = .ok (.ifCond .lt 18, 3) := by decide +kernel
theorem dX0_ruleValue_4 : decode cX0_ruleValue 4 = .ok (.iload_n 1, 1) := by decide +kernel
theorem dX0_ruleValue_5 : decode cX0_ruleValue 5 = .ok (.bipush 10, 2) := by decide +kernel
theorem dX0_ruleValue_7 : decode cX0_ruleValue 7 = .ok (.if_icmp .ge 12, 3) := by decide +kernel
theorem dX0_ruleValue_10 : decode cX0_ruleValue 10 = .ok (.aload_n 0, 1) := by decide +kernel
theorem dX0_ruleValue_11 : decode cX0_ruleValue 11 = .ok (.getfield 9, 3) := by decide +kernel
theorem dX0_ruleValue_14 : decode cX0_ruleValue 14 = .ok (.iload_n 1, 1) := by decide +kernel
theorem dX0_ruleValue_15 : decode cX0_ruleValue 15 = .ok (.iaload, 1) := by decide +kernel
theorem dX0_ruleValue_16 : decode cX0_ruleValue 16 = .ok (.goto 4, 3) := by decide +kernel
theorem dX0_ruleValue_19 : decode cX0_ruleValue 19 = .ok (.iconst 0, 1) := by decide +kernel
theorem dX0_ruleValue_20 : decode cX0_ruleValue 20 = .ok (.ireturn, 1) := by decide +kernel
theorem dX0_changeRule_0 : decode cX0_changeRule 0 = .ok (.iload_n 1, 1) := by decide +kernel
theorem dX0_changeRule_1 : decode cX0_changeRule 1 = .ok (.ifCond .lt 16, 3) := by decide +kernel
theorem dX0_changeRule_4 : decode cX0_changeRule 4 = .ok (.iload_n 1, 1) := by decide +kernel
theorem dX0_changeRule_5 : decode cX0_changeRule 5 = .ok (.bipush 10, 2) := by decide +kernel
theorem dX0_changeRule_7 : decode cX0_changeRule 7 = .ok (.if_icmp .ge 10, 3) := by decide +kernel
theorem dX0_changeRule_10 : decode cX0_changeRule 10 = .ok (.aload_n 0, 1) := by decide +kernel
theorem dX0_changeRule_11 : decode cX0_changeRule 11 = .ok (.getfield 9, 3) := by decide +kernel
theorem dX0_changeRule_14 : decode cX0_changeRule 14 = .ok (.iload_n 1, 1) := by decide +kernel
theorem dX0_changeRule_15 : decode cX0_changeRule 15 = .ok (.iload_n 2, 1) := by decide +kernel
theorem dX0_changeRule_16 : decode cX0_changeRule 16 = .ok (.iastore, 1) := by decide +kernel
theorem dX0_changeRule_17 : decode cX0_changeRule 17 = .ok (.return_, 1) := by decide +kernel
theorem dX0_hasTaxi_0 : decode cX0_hasTaxi 0 = .ok (.iload_n 1, 1) := by decide +kernel
theorem dX0_hasTaxi_1 : decode cX0_hasTaxi 1 = .ok (.ifCond .lt 20, 3) := by decide +kernel
theorem dX0_hasTaxi_4 : decode cX0_hasTaxi 4 = .ok (.iload_n 1, 1) := by decide +kernel
theorem dX0_hasTaxi_5 : decode cX0_hasTaxi 5 = .ok (.aload_n 0, 1) := by decide +kernel
theorem dX0_hasTaxi_6 : decode cX0_hasTaxi 6 = .ok (.getfield 39, 3) := by decide +kernel
theorem dX0_hasTaxi_9 : decode cX0_hasTaxi 9 = .ok (.if_icmp .ge 12, 3) := by decide +kernel
theorem dX0_hasTaxi_12 : decode cX0_hasTaxi 12 = .ok (.iload_n 1, 1) := by decide +kernel
theorem dX0_hasTaxi_13 : decode cX0_hasTaxi 13 = .ok (.iconst 4, 1) := by decide +kernel
theorem dX0_hasTaxi_14 : decode cX0_hasTaxi 14 = .ok (.if_icmp .ge 7, 3) := by decide +kernel
theorem dX0_hasTaxi_17 : decode cX0_hasTaxi 17 = .ok (.iconst 1, 1) := by decide +kernel
theorem dX0_hasTaxi_18 : decode cX0_hasTaxi 18 = .ok (.goto 4, 3) := by decide +kernel
theorem dX0_hasTaxi_21 : decode cX0_hasTaxi 21 = .ok (.iconst 0, 1) := by decide +kernel
theorem dX0_hasTaxi_22 : decode cX0_hasTaxi 22 = .ok (.ireturn, 1) := by decide +kernel
theorem dX0_countInState_0 : decode cX0_countInState 0 = .ok (.iconst 0, 1) := by decide +kernel
theorem dX0_countInState_1 : decode cX0_countInState 1 = .ok (.istore_n 2, 1) := by decide +kernel
theorem dX0_countInState_2 : decode cX0_countInState 2 = .ok (.iconst 0, 1) := by decide +kernel
theorem dX0_countInState_3 : decode cX0_countInState 3 = .ok (.istore_n 3, 1) := by decide +kernel
theorem dX0_countInState_4 : decode cX0_countInState 4 = .ok (.iload_n 3, 1) := by decide +kernel
theorem dX0_countInState_5 : decode cX0_countInState 5 = .ok (.aload_n 0, 1) := by decide +kernel
theorem dX0_countInState_6 : decode cX0_countInState 6 = .ok (.getfield 42, 3) := by decide +kernel
theorem dX0_countInState_9 : decode cX0_countInState 9 = .ok (.if_icmp .ge 31, 3) := by decide +kernel
theorem dX0_countInState_12 : decode cX0_countInState 12 = .ok (.iload_n 3, 1) := by decide +kernel
theorem dX0_countInState_13 : decode cX0_countInState 13 = .ok (.bipush 24, 2) := by decide +kernel
theorem dX0_countInState_15 : decode cX0_countInState 15 = .ok (.if_icmp .ge 25, 3) := by decide +kernel
theorem dX0_countInState_18 : decode cX0_countInState 18 = .ok (.aload_n 0, 1) := by decide +kernel
theorem dX0_countInState_19 : decode cX0_countInState 19 = .ok (.getfield 23, 3) := by decide +kernel
theorem dX0_countInState_22 : decode cX0_countInState 22 = .ok (.iload_n 3, 1) := by decide +kernel
theorem dX0_countInState_23 : decode cX0_countInState 23 = .ok (.aaload, 1) := by decide +kernel
theorem dX0_countInState_24 : decode cX0_countInState 24 = .ok (.getfield 55, 3) := by decide +kernel
theorem dX0_countInState_27 : decode cX0_countInState 27 = .ok (.iload_n 1, 1) := by decide +kernel
theorem dX0_countInState_28 : decode cX0_countInState 28 = .ok (.if_icmp .ne 6, 3) := by decide +kernel
theorem dX0_countInState_31 : decode cX0_countInState 31 = .ok (.iinc 2 1, 3) := by decide +kernel
theorem dX0_countInState_34 : decode cX0_countInState 34 = .ok (.iinc 3 1, 3) := by decide +kernel
theorem dX0_countInState_37 : decode cX0_countInState 37 = .ok (.goto (-33), 3) := by decide +kernel
theorem dX0_countInState_40 : decode cX0_countInState 40 = .ok (.iload_n 2, 1) := by decide +kernel
theorem dX0_countInState_41 : decode cX0_countInState 41 = .ok (.ireturn, 1) := by decide +kernel
theorem dX0_stopsInAllRoutes_0 : decode cX0_stopsInAllRoutes 0 = .ok (.iconst 0, 1) := by decide +kernel
theorem dX0_stopsInAllRoutes_1 : decode cX0_stopsInAllRoutes 1 = .ok (.istore_n 1, 1) := by decide +kernel
theorem dX0_stopsInAllRoutes_2 : decode cX0_stopsInAllRoutes 2 = .ok (.iconst 0, 1) := by decide +kernel
theorem dX0_stopsInAllRoutes_3 : decode cX0_stopsInAllRoutes 3 = .ok (.istore_n 2, 1) := by decide +kernel
theorem dX0_stopsInAllRoutes_4 : decode cX0_stopsInAllRoutes 4 = .ok (.iload_n 2, 1) := by decide +kernel
theorem dX0_stopsInAllRoutes_5 : decode cX0_stopsInAllRoutes 5 = .ok (.aload_n 0, 1) := by decide +kernel
theorem dX0_stopsInAllRoutes_6 : decode cX0_stopsInAllRoutes 6 = .ok (.getfield 39, 3) := by decide +kernel
theorem dX0_stopsInAllRoutes_9 : decode cX0_stopsInAllRoutes 9 = .ok (.if_icmp .ge 26, 3) := by decide +kernel
theorem dX0_stopsInAllRoutes_12 : decode cX0_stopsInAllRoutes 12 = .ok (.iload_n 2, 1) := by decide +kernel
theorem dX0_stopsInAllRoutes_13 : decode cX0_stopsInAllRoutes 13 = .ok (.iconst 4, 1) := by decide +kernel
theorem dX0_stopsInAllRoutes_14 : decode cX0_stopsInAllRoutes 14 = .ok (.if_icmp .ge 21, 3) := by decide +kernel
theorem dX0_stopsInAllRoutes_17 : decode cX0_stopsInAllRoutes 17 = .ok (.iload_n 1, 1) := by decide +kernel
theorem dX0_stopsInAllRoutes_18 : decode cX0_stopsInAllRoutes 18 = .ok (.aload_n 0, 1) := by decide +kernel
theorem dX0_stopsInAllRoutes_19 : decode cX0_stopsInAllRoutes 19 = .ok (.getfield 17, 3) := by decide +kernel
theorem dX0_stopsInAllRoutes_22 : decode cX0_stopsInAllRoutes 22 = .ok (.iload_n 2, 1) := by decide +kernel
theorem dX0_stopsInAllRoutes_23 : decode cX0_stopsInAllRoutes 23 = .ok (.aaload, 1) := by decide +kernel
theorem dX0_stopsInAllRoutes_24 : decode cX0_stopsInAllRoutes 24 = .ok (.getfield 61, 3) := by decide +kernel
theorem dX0_stopsInAllRoutes_27 : decode cX0_stopsInAllRoutes 27 = .ok (.iadd, 1) := by decide +kernel
theorem dX0_stopsInAllRoutes_28 : decode cX0_stopsInAllRoutes 28 = .ok (.istore_n 1, 1) := by decide +kernel
theorem dX0_stopsInAllRoutes_29 : decode cX0_stopsInAllRoutes 29 = .ok (.iinc 2 1, 3) := by decide +kernel
theorem dX0_stopsInAllRoutes_32 : decode cX0_stopsInAllRoutes 32 = .ok (.goto (-28), 3) := by decide +kernel
theorem dX0_stopsInAllRoutes_35 : decode cX0_stopsInAllRoutes 35 = .ok (.iload_n 1, 1) := by decide +kernel
theorem dX0_stopsInAllRoutes_36 : decode cX0_stopsInAllRoutes 36 = .ok (.ireturn, 1) := by decide +kernel
theorem dX0_personsAboard_0 : decode cX0_personsAboard 0 = .ok (.iconst 0, 1) := by decide +kernel
theorem dX0_personsAboard_1 : decode cX0_personsAboard 1 = .ok (.istore_n 2, 1) := by decide +kernel
theorem dX0_personsAboard_2 : decode cX0_personsAboard 2 = .ok (.iconst 0, 1) := by decide +kernel
theorem dX0_personsAboard_3 : decode cX0_personsAboard 3 = .ok (.istore_n 3, 1) := by decide +kernel
theorem dX0_personsAboard_4 : decode cX0_personsAboard 4 = .ok (.iload_n 3, 1) := by decide +kernel
theorem dX0_personsAboard_5 : decode cX0_personsAboard 5 = .ok (.aload_n 1, 1) := by decide +kernel
theorem dX0_personsAboard_6 : decode cX0_personsAboard 6 = .ok (.getfield 64, 3) := by decide +kernel
theorem dX0_personsAboard_9 : decode cX0_personsAboard 9 = .ok (.if_icmp .ge 24, 3) := by decide +kernel
theorem dX0_personsAboard_12 : decode cX0_personsAboard 12 = .ok (.iload_n 2, 1) := by decide +kernel
theorem dX0_personsAboard_13 : decode cX0_personsAboard 13 = .ok (.aload_n 0, 1) := by decide +kernel
theorem dX0_personsAboard_14 : decode cX0_personsAboard 14 = .ok (.aload_n 1, 1) := by decide +kernel
theorem dX0_personsAboard_15 : decode cX0_personsAboard 15 = .ok (.iload_n 3, 1) := by decide +kernel
theorem dX0_personsAboard_16 : decode cX0_personsAboard 16 = .ok (.invokevirtual 67, 3) := by decide +kernel
theorem dX0_personsAboard_19 : decode cX0_personsAboard 19 = .ok (.invokevirtual 71, 3) := by decide +kernel
theorem dX0_personsAboard_22 : decode cX0_personsAboard 22 = .ok (.getfield 75, 3) := by decide +kernel
theorem dX0_personsAboard_25 : decode cX0_personsAboard 25 = .ok (.iadd, 1) := by decide +kernel
theorem dX0_personsAboard_26 : decode cX0_personsAboard 26 = .ok (.istore_n 2, 1) := by decide +kernel
theorem dX0_personsAboard_27 : decode cX0_personsAboard 27 = .ok (.iinc 3 1, 3) := by decide +kernel
theorem dX0_personsAboard_30 : decode cX0_personsAboard 30 = .ok (.goto (-26), 3) := by decide +kernel
theorem dX0_personsAboard_33 : decode cX0_personsAboard 33 = .ok (.iload_n 2, 1) := by decide +kernel
theorem dX0_personsAboard_34 : decode cX0_personsAboard 34 = .ok (.ireturn, 1) := by decide +kernel
theorem dX0_pickupOf_0 : decode cX0_pickupOf 0 = .ok (.iload_n 0, 1) := by decide +kernel
theorem dX0_pickupOf_1 : decode cX0_pickupOf 1 = .ok (.iconst 2, 1) := by decide +kernel
theorem dX0_pickupOf_2 : decode cX0_pickupOf 2 = .ok (.imul, 1) := by decide +kernel
theorem dX0_pickupOf_3 : decode cX0_pickupOf 3 = .ok (.iconst 1, 1) := by decide +kernel
theorem dX0_pickupOf_4 : decode cX0_pickupOf 4 = .ok (.iadd, 1) := by decide +kernel
theorem dX0_pickupOf_5 : decode cX0_pickupOf 5 = .ok (.ireturn, 1) := by decide +kernel
theorem dX0_dropOf_0 : decode cX0_dropOf 0 = .ok (.iload_n 0, 1) := by decide +kernel
theorem dX0_dropOf_1 : decode cX0_dropOf 1 = .ok (.iconst 2, 1) := by decide +kernel
theorem dX0_dropOf_2 : decode cX0_dropOf 2 = .ok (.imul, 1) := by decide +kernel
theorem dX0_dropOf_3 : decode cX0_dropOf 3 = .ok (.ireturn, 1) := by decide +kernel
theorem dX0_isPickup_0 : decode cX0_isPickup 0 = .ok (.iload_n 0, 1) := by decide +kernel
theorem dX0_isPickup_1 : decode cX0_isPickup 1 = .ok (.iconst 1, 1) := by decide +kernel
theorem dX0_isPickup_2 : decode cX0_isPickup 2 = .ok (.iand, 1) := by decide +kernel
theorem dX0_isPickup_3 : decode cX0_isPickup 3 = .ok (.iconst 1, 1) := by decide +kernel
theorem dX0_isPickup_4 : decode cX0_isPickup 4 = .ok (.if_icmp .ne 7, 3) := by decide +kernel
theorem dX0_isPickup_7 : decode cX0_isPickup 7 = .ok (.iconst 1, 1) := by decide +kernel
theorem dX0_isPickup_8 : decode cX0_isPickup 8 = .ok (.goto 4, 3) := by decide +kernel
theorem dX0_isPickup_11 : decode cX0_isPickup 11 = .ok (.iconst 0, 1) := by decide +kernel
theorem dX0_isPickup_12 : decode cX0_isPickup 12 = .ok (.ireturn, 1) := by decide +kernel
theorem dX0_rideNumber_0 : decode cX0_rideNumber 0 = .ok (.iload_n 0, 1) := by decide +kernel
theorem dX0_rideNumber_1 : decode cX0_rideNumber 1 = .ok (.iconst 1, 1) := by decide +kernel
theorem dX0_rideNumber_2 : decode cX0_rideNumber 2 = .ok (.ishr, 1) := by decide +kernel
theorem dX0_rideNumber_3 : decode cX0_rideNumber 3 = .ok (.ireturn, 1) := by decide +kernel
theorem dX0_zoneOfStop_0 : decode cX0_zoneOfStop 0 = .ok (.aload_n 0, 1) := by decide +kernel
theorem dX0_zoneOfStop_1 : decode cX0_zoneOfStop 1 = .ok (.iload_n 1, 1) := by decide +kernel
theorem dX0_zoneOfStop_2 : decode cX0_zoneOfStop 2 = .ok (.invokestatic 78, 3) := by decide +kernel
theorem dX0_zoneOfStop_5 : decode cX0_zoneOfStop 5 = .ok (.invokevirtual 71, 3) := by decide +kernel
theorem dX0_zoneOfStop_8 : decode cX0_zoneOfStop 8 = .ok (.astore_n 2, 1) := by decide +kernel
theorem dX0_zoneOfStop_9 : decode cX0_zoneOfStop 9 = .ok (.iload_n 1, 1) := by decide +kernel
theorem dX0_zoneOfStop_10 : decode cX0_zoneOfStop 10 = .ok (.invokestatic 81, 3) := by decide +kernel
theorem dX0_zoneOfStop_13 : decode cX0_zoneOfStop 13 = .ok (.ifCond .eq 10, 3) := by decide +kernel
theorem dX0_zoneOfStop_16 : decode cX0_zoneOfStop 16 = .ok (.aload_n 2, 1) := by decide +kernel
theorem dX0_zoneOfStop_17 : decode cX0_zoneOfStop 17 = .ok (.getfield 85, 3) := by decide +kernel
theorem dX0_zoneOfStop_20 : decode cX0_zoneOfStop 20 = .ok (.goto 7, 3) := by decide +kernel
theorem dX0_zoneOfStop_23 : decode cX0_zoneOfStop 23 = .ok (.aload_n 2, 1) := by decide +kernel
theorem dX0_zoneOfStop_24 : decode cX0_zoneOfStop 24 = .ok (.getfield 88, 3) := by decide +kernel
theorem dX0_zoneOfStop_27 : decode cX0_zoneOfStop 27 = .ok (.ireturn, 1) := by decide +kernel
theorem dX0_rideAt_0 : decode cX0_rideAt 0 = .ok (.aload_n 0, 1) := by decide +kernel
theorem dX0_rideAt_1 : decode cX0_rideAt 1 = .ok (.getfield 23, 3) := by decide +kernel
theorem dX0_rideAt_4 : decode cX0_rideAt 4 = .ok (.iload_n 1, 1) := by decide +kernel
theorem dX0_rideAt_5 : decode cX0_rideAt 5 = .ok (.ifCond .lt 13, 3) := by decide +kernel
theorem dX0_rideAt_8 : decode cX0_rideAt 8 = .ok (.iload_n 1, 1) := by decide +kernel
theorem dX0_rideAt_9 : decode cX0_rideAt 9 = .ok (.bipush 24, 2) := by decide +kernel
theorem dX0_rideAt_11 : decode cX0_rideAt 11 = .ok (.if_icmp .ge 7, 3) := by decide +kernel
theorem dX0_rideAt_14 : decode cX0_rideAt 14 = .ok (.iload_n 1, 1) := by decide +kernel
theorem dX0_rideAt_15 : decode cX0_rideAt 15 = .ok (.goto 4, 3) := by decide +kernel
theorem dX0_rideAt_18 : decode cX0_rideAt 18 = .ok (.iconst 0, 1) := by decide +kernel
theorem dX0_rideAt_19 : decode cX0_rideAt 19 = .ok (.aaload, 1) := by decide +kernel
theorem dX0_rideAt_20 : decode cX0_rideAt 20 = .ok (.areturn, 1) := by decide +kernel
theorem dX1_init_0 : decode cX1_init 0 = .ok (.aload_n 0, 1) := by decide +kernel
theorem dX1_init_1 : decode cX1_init 1 = .ok (.invokespecial 3, 3) := by decide +kernel
theorem dX1_init_4 : decode cX1_init 4 = .ok (.aload_n 0, 1) := by decide +kernel
theorem dX1_init_5 : decode cX1_init 5 = .ok (.iconst 0, 1) := by decide +kernel
theorem dX1_init_6 : decode cX1_init 6 = .ok (.putfield 9, 3) := by decide +kernel
theorem dX1_init_9 : decode cX1_init 9 = .ok (.aload_n 0, 1) := by decide +kernel
theorem dX1_init_10 : decode cX1_init 10 = .ok (.iconst 0, 1) := by decide +kernel
theorem dX1_init_11 : decode cX1_init 11 = .ok (.putfield 15, 3) := by decide +kernel
theorem dX1_init_14 : decode cX1_init 14 = .ok (.aload_n 0, 1) := by decide +kernel
theorem dX1_init_15 : decode cX1_init 15 = .ok (.bipush 10, 2) := by decide +kernel
theorem dX1_init_17 : decode cX1_init 17 = .ok (.anewarray 18, 3) := by decide +kernel
theorem dX1_init_20 : decode cX1_init 20 = .ok (.putfield 20, 3) := by decide +kernel
theorem dX1_init_23 : decode cX1_init 23 = .ok (.iconst 0, 1) := by decide +kernel
theorem dX1_init_24 : decode cX1_init 24 = .ok (.istore_n 1, 1) := by decide +kernel
theorem dX1_init_25 : decode cX1_init 25 = .ok (.iload_n 1, 1) := by decide +kernel
theorem dX1_init_26 : decode cX1_init 26 = .ok (.bipush 10, 2) := by decide +kernel
theorem dX1_init_28 : decode cX1_init 28 = .ok (.if_icmp .ge 22, 3) := by decide +kernel
theorem dX1_init_31 : decode cX1_init 31 = .ok (.aload_n 0, 1) := by decide +kernel
theorem dX1_init_32 : decode cX1_init 32 = .ok (.getfield 20, 3) := by decide +kernel
theorem dX1_init_35 : decode cX1_init 35 = .ok (.iload_n 1, 1) := by decide +kernel
theorem dX1_init_36 : decode cX1_init 36 = .ok (.new 18, 3) := by decide +kernel
theorem dX1_init_39 : decode cX1_init 39 = .ok (.dup, 1) := by decide +kernel
theorem dX1_init_40 : decode cX1_init 40 = .ok (.invokespecial 24, 3) := by decide +kernel
theorem dX1_init_43 : decode cX1_init 43 = .ok (.aastore, 1) := by decide +kernel
theorem dX1_init_44 : decode cX1_init 44 = .ok (.iinc 1 1, 3) := by decide +kernel
theorem dX1_init_47 : decode cX1_init 47 = .ok (.goto (-22), 3) := by decide +kernel
theorem dX1_init_50 : decode cX1_init 50 = .ok (.return_, 1) := by decide +kernel
theorem dX1_clear_0 : decode cX1_clear 0 = .ok (.aload_n 0, 1) := by decide +kernel
theorem dX1_clear_1 : decode cX1_clear 1 = .ok (.iconst 0, 1) := by decide +kernel
theorem dX1_clear_2 : decode cX1_clear 2 = .ok (.putfield 9, 3) := by decide +kernel
theorem dX1_clear_5 : decode cX1_clear 5 = .ok (.aload_n 0, 1) := by decide +kernel
theorem dX1_clear_6 : decode cX1_clear 6 = .ok (.iconst 0, 1) := by decide +kernel
theorem dX1_clear_7 : decode cX1_clear 7 = .ok (.putfield 15, 3) := by decide +kernel
theorem dX1_clear_10 : decode cX1_clear 10 = .ok (.return_, 1) := by decide +kernel
theorem dX1_note_0 : decode cX1_note 0 = .ok (.aload_n 0, 1) := by decide +kernel
theorem dX1_note_1 : decode cX1_note 1 = .ok (.getfield 15, 3) := by decide +kernel
theorem dX1_note_4 : decode cX1_note 4 = .ok (.ifCond .lt 12, 3) := by decide +kernel
theorem dX1_note_7 : decode cX1_note 7 = .ok (.aload_n 0, 1) := by decide +kernel
theorem dX1_note_8 : decode cX1_note 8 = .ok (.getfield 15, 3) := by decide +kernel
theorem dX1_note_11 : decode cX1_note 11 = .ok (.bipush 10, 2) := by decide +kernel
theorem dX1_note_13 : decode cX1_note 13 = .ok (.if_icmp .lt 8, 3) := by decide +kernel
theorem dX1_note_16 : decode cX1_note 16 = .ok (.aload_n 0, 1) := by decide +kernel
theorem dX1_note_17 : decode cX1_note 17 = .ok (.iconst 0, 1) := by decide +kernel
theorem dX1_note_18 : decode cX1_note 18 = .ok (.putfield 15, 3) := by decide +kernel
theorem dX1_note_21 : decode cX1_note 21 = .ok (.aload_n 0, 1) := by decide +kernel
theorem dX1_note_22 : decode cX1_note 22 = .ok (.getfield 20, 3) := by decide +kernel
theorem dX1_note_25 : decode cX1_note 25 = .ok (.aload_n 0, 1) := by decide +kernel
theorem dX1_note_26 : decode cX1_note 26 = .ok (.getfield 15, 3) := by decide +kernel
theorem dX1_note_29 : decode cX1_note 29 = .ok (.aaload, 1) := by decide +kernel
theorem dX1_note_30 : decode cX1_note 30 = .ok (.aload_n 1, 1) := by decide +kernel
theorem dX1_note_31 : decode cX1_note 31 = .ok (.invokevirtual 25, 3) := by decide +kernel
theorem dX1_note_34 : decode cX1_note 34 = .ok (.aload_n 0, 1) := by decide +kernel
theorem dX1_note_35 : decode cX1_note 35 = .ok (.aload_n 0, 1) := by decide +kernel
theorem dX1_note_36 : decode cX1_note 36 = .ok (.getfield 15, 3) := by decide +kernel
theorem dX1_note_39 : decode cX1_note 39 = .ok (.iconst 1, 1) := by decide +kernel
theorem dX1_note_40 : decode cX1_note 40 = .ok (.iadd, 1) := by decide +kernel
theorem dX1_note_41 : decode cX1_note 41 = .ok (.bipush 10, 2) := by decide +kernel
theorem dX1_note_43 : decode cX1_note 43 = .ok (.irem, 1) := by decide +kernel
theorem dX1_note_44 : decode cX1_note 44 = .ok (.putfield 15, 3) := by decide +kernel
theorem dX1_note_47 : decode cX1_note 47 = .ok (.aload_n 0, 1) := by decide +kernel
theorem dX1_note_48 : decode cX1_note 48 = .ok (.getfield 9, 3) := by decide +kernel
theorem dX1_note_51 : decode cX1_note 51 = .ok (.bipush 10, 2) := by decide +kernel
theorem dX1_note_53 : decode cX1_note 53 = .ok (.if_icmp .ge 13, 3) := by decide +kernel
theorem dX1_note_56 : decode cX1_note 56 = .ok (.aload_n 0, 1) := by decide +kernel
theorem dX1_note_57 : decode cX1_note 57 = .ok (.dup, 1) := by decide +kernel
theorem dX1_note_58 : decode cX1_note 58 = .ok (.getfield 9, 3) := by decide +kernel
theorem dX1_note_61 : decode cX1_note 61 = .ok (.iconst 1, 1) := by decide +kernel
theorem dX1_note_62 : decode cX1_note 62 = .ok (.iadd, 1) := by decide +kernel
theorem dX1_note_63 : decode cX1_note 63 = .ok (.putfield 9, 3) := by decide +kernel
theorem dX1_note_66 : decode cX1_note 66 = .ok (.return_, 1) := by decide +kernel
theorem dX2_init_0 : decode cX2_init 0 = .ok (.aload_n 0, 1) := by decide +kernel
theorem dX2_init_1 : decode cX2_init 1 = .ok (.invokespecial 3, 3) := by decide +kernel
theorem dX2_init_4 : decode cX2_init 4 = .ok (.aload_n 0, 1) := by decide +kernel
theorem dX2_init_5 : decode cX2_init 5 = .ok (.aload_n 1, 1) := by decide +kernel
theorem dX2_init_6 : decode cX2_init 6 = .ok (.putfield 9, 3) := by decide +kernel
theorem dX2_init_9 : decode cX2_init 9 = .ok (.return_, 1) := by decide +kernel
theorem dX2_findBest_0 : decode cX2_findBest 0 = .ok (.aload_n 1, 1) := by decide +kernel
theorem dX2_findBest_1 : decode cX2_findBest 1 = .ok (.getfield 15, 3) := by decide +kernel
theorem dX2_findBest_4 : decode cX2_findBest 4 = .ok (.iconst 1, 1) := by decide +kernel
theorem dX2_findBest_5 : decode cX2_findBest 5 = .ok (.iadd, 1) := by decide +kernel
theorem dX2_findBest_6 : decode cX2_findBest 6 = .ok (.istore_n 3, 1) := by decide +kernel
theorem dX2_findBest_7 : decode cX2_findBest 7 = .ok (.iload_n 3, 1) := by decide +kernel
theorem dX2_findBest_8 : decode cX2_findBest 8 = .ok (.bipush 12, 2) := by decide +kernel
theorem dX2_findBest_10 : decode cX2_findBest 10 = .ok (.if_icmp .lt 5, 3) := by decide +kernel
theorem dX2_findBest_13 : decode cX2_findBest 13 = .ok (.iconst 0, 1) := by decide +kernel
theorem dX2_findBest_14 : decode cX2_findBest 14 = .ok (.ireturn, 1) := by decide +kernel
theorem dX2_findBest_15 : decode cX2_findBest 15 = .ok (.aload_n 0, 1) := by decide +kernel
theorem dX2_findBest_16 : decode cX2_findBest 16 = .ok (.getfield 9, 3) := by decide +kernel
theorem dX2_findBest_19 : decode cX2_findBest 19 = .ok (.aload_n 1, 1) := by decide +kernel
theorem dX2_findBest_20 : decode cX2_findBest 20 = .ok (.invokevirtual 21, 3) := by decide +kernel
theorem dX2_findBest_23 : decode cX2_findBest 23 = .ok (.aload_n 0, 1) := by decide +kernel
theorem dX2_findBest_24 : decode cX2_findBest 24 = .ok (.getfield 9, 3) := by decide +kernel
theorem dX2_findBest_27 : decode cX2_findBest 27 = .ok (.getfield 27, 3) := by decide +kernel
theorem dX2_findBest_30 : decode cX2_findBest 30 = .ok (.istore 4, 2) := by decide +kernel
theorem dX2_findBest_32 : decode cX2_findBest 32 = .ok (.aload_n 1, 1) := by decide +kernel
theorem dX2_findBest_33 : decode cX2_findBest 33 = .ok (.getfield 30, 3) := by decide +kernel
theorem dX2_findBest_36 : decode cX2_findBest 36 = .ok (.iconst (-1), 1) := by decide +kernel
theorem dX2_findBest_37 : decode cX2_findBest 37 = .ok (.if_icmp .ne 7, 3) := by decide +kernel
theorem dX2_findBest_40 : decode cX2_findBest 40 = .ok (.iconst 0, 1) := by decide +kernel
theorem dX2_findBest_41 : decode cX2_findBest 41 = .ok (.goto 4, 3) := by decide +kernel
theorem dX2_findBest_44 : decode cX2_findBest 44 = .ok (.iconst 1, 1) := by decide +kernel
theorem dX2_findBest_45 : decode cX2_findBest 45 = .ok (.istore 5, 2) := by decide +kernel
theorem dX2_findBest_47 : decode cX2_findBest 47 = .ok (.iconst 0, 1) := by decide +kernel
theorem dX2_findBest_48 : decode cX2_findBest 48 = .ok (.istore 6, 2) := by decide +kernel
theorem dX2_findBest_50 : decode cX2_findBest 50 = .ok (.iload 5, 2) := by decide +kernel
theorem dX2_findBest_52 : decode cX2_findBest 52 = .ok (.istore 7, 2) := by decide +kernel
theorem dX2_findBest_54 : decode cX2_findBest 54 = .ok (.iload 7, 2) := by decide +kernel
theorem dX2_findBest_56 : decode cX2_findBest 56 = .ok (.iload_n 3, 1) := by decide +kernel
theorem dX2_findBest_57 : decode cX2_findBest 57 = .ok (.if_icmp .ge 111, 3) := by decide +kernel
theorem dX2_findBest_60 : decode cX2_findBest 60 = .ok (.iload 7, 2) := by decide +kernel
theorem dX2_findBest_62 : decode cX2_findBest 62 = .ok (.iconst 1, 1) := by decide +kernel
theorem dX2_findBest_63 : decode cX2_findBest 63 = .ok (.iadd, 1) := by decide +kernel
theorem dX2_findBest_64 : decode cX2_findBest 64 = .ok (.istore 8, 2) := by decide +kernel
theorem dX2_findBest_66 : decode cX2_findBest 66 = .ok (.iload 8, 2) := by decide +kernel
theorem dX2_findBest_68 : decode cX2_findBest 68 = .ok (.iload_n 3, 1) := by decide +kernel
theorem dX2_findBest_69 : decode cX2_findBest 69 = .ok (.if_icmp .gt 93, 3) := by decide +kernel
theorem dX2_findBest_72 : decode cX2_findBest 72 = .ok (.aload_n 0, 1) := by decide +kernel
theorem dX2_findBest_73 : decode cX2_findBest 73 = .ok (.getfield 9, 3) := by decide +kernel
theorem dX2_findBest_76 : decode cX2_findBest 76 = .ok (.aload_n 1, 1) := by decide +kernel
theorem dX2_findBest_77 : decode cX2_findBest 77 = .ok (.iload_n 2, 1) := by decide +kernel
theorem dX2_findBest_78 : decode cX2_findBest 78 = .ok (.iload 7, 2) := by decide +kernel
theorem dX2_findBest_80 : decode cX2_findBest 80 = .ok (.iload 8, 2) := by decide +kernel
theorem dX2_findBest_82 : decode cX2_findBest 82 = .ok (.invokevirtual 33, 3) := by decide +kernel
theorem dX2_findBest_85 : decode cX2_findBest 85 = .ok (.aload_n 0, 1) := by decide +kernel
theorem dX2_findBest_86 : decode cX2_findBest 86 = .ok (.getfield 9, 3) := by decide +kernel
theorem dX2_findBest_89 : decode cX2_findBest 89 = .ok (.getfield 27, 3) := by decide +kernel
theorem dX2_findBest_92 : decode cX2_findBest 92 = .ok (.iload 4, 2) := by decide +kernel
theorem dX2_findBest_94 : decode cX2_findBest 94 = .ok (.isub, 1) := by decide +kernel
theorem dX2_findBest_95 : decode cX2_findBest 95 = .ok (.istore 9, 2) := by decide +kernel
theorem dX2_findBest_97 : decode cX2_findBest 97 = .ok (.iload 6, 2) := by decide +kernel
theorem dX2_findBest_99 : decode cX2_findBest 99 = .ok (.ifCond .eq 21, 3) := by decide +kernel
theorem dX2_findBest_102 : decode cX2_findBest 102 = .ok (.aload_n 0, 1) := by decide +kernel
theorem dX2_findBest_103 : decode cX2_findBest 103 = .ok (.iload 9, 2) := by decide +kernel
theorem dX2_findBest_105 : decode cX2_findBest 105 = .ok (.aload_n 0, 1) := by decide +kernel
theorem dX2_findBest_106 : decode cX2_findBest 106 = .ok (.getfield 9, 3) := by decide +kernel
theorem dX2_findBest_109 : decode cX2_findBest 109 = .ok (.iload 7, 2) := by decide +kernel
theorem dX2_findBest_111 : decode cX2_findBest 111 = .ok (.invokevirtual 37, 3) := by decide +kernel
theorem dX2_findBest_114 : decode cX2_findBest 114 = .ok (.invokevirtual 41, 3) := by decide +kernel
theorem dX2_findBest_117 : decode cX2_findBest 117 = .ok (.ifCond .ne 7, 3) := by decide +kernel
theorem dX2_findBest_120 : decode cX2_findBest 120 = .ok (.iconst 1, 1) := by decide +kernel
theorem dX2_findBest_121 : decode cX2_findBest 121 = .ok (.goto 4, 3) := by decide +kernel
theorem dX2_findBest_124 : decode cX2_findBest 124 = .ok (.iconst 0, 1) := by decide +kernel
theorem dX2_findBest_125 : decode cX2_findBest 125 = .ok (.istore 10, 2) := by decide +kernel
theorem dX2_findBest_127 : decode cX2_findBest 127 = .ok (.iload 10, 2) := by decide +kernel
theorem dX2_findBest_129 : decode cX2_findBest 129 = .ok (.ifCond .eq 27, 3) := by decide +kernel
theorem dX2_findBest_132 : decode cX2_findBest 132 = .ok (.aload_n 0, 1) := by decide +kernel
theorem dX2_findBest_133 : decode cX2_findBest 133 = .ok (.getfield 9, 3) := by decide +kernel
theorem dX2_findBest_136 : decode cX2_findBest 136 = .ok (.aload_n 1, 1) := by decide +kernel
theorem dX2_findBest_137 : decode cX2_findBest 137 = .ok (.invokevirtual 45, 3) := by decide +kernel
theorem dX2_findBest_140 : decode cX2_findBest 140 = .ok (.ifCond .eq 16, 3) := by decide +kernel
theorem dX2_findBest_143 : decode cX2_findBest 143 = .ok (.iconst 1, 1) := by decide +kernel
theorem dX2_findBest_144 : decode cX2_findBest 144 = .ok (.istore 6, 2) := by decide +kernel
theorem dX2_findBest_146 : decode cX2_findBest 146 = .ok (.aload_n 0, 1) := by decide +kernel
theorem dX2_findBest_147 : decode cX2_findBest 147 = .ok (.iload 9, 2) := by decide +kernel
theorem dX2_findBest_149 : decode cX2_findBest 149 = .ok (.iload 7, 2) := by decide +kernel
theorem dX2_findBest_151 : decode cX2_findBest 151 = .ok (.iload 8, 2) := by decide +kernel
theorem dX2_findBest_153 : decode cX2_findBest 153 = .ok (.invokevirtual 49, 3) := by decide +kernel
theorem dX2_findBest_156 : decode cX2_findBest 156 = .ok (.iinc 8 1, 3) := by decide +kernel
theorem dX2_findBest_159 : decode cX2_findBest 159 = .ok (.goto (-93), 3) := by decide +kernel
theorem dX2_findBest_162 : decode cX2_findBest 162 = .ok (.iinc 7 1, 3) := by decide +kernel
theorem dX2_findBest_165 : decode cX2_findBest 165 = .ok (.goto (-111), 3) := by decide +kernel
theorem dX2_findBest_168 : decode cX2_findBest 168 = .ok (.iload 6, 2) := by decide +kernel
theorem dX2_findBest_170 : decode cX2_findBest 170 = .ok (.ireturn, 1) := by decide +kernel
theorem dX2_keep_0 : decode cX2_keep 0 = .ok (.aload_n 0, 1) := by decide +kernel
theorem dX2_keep_1 : decode cX2_keep 1 = .ok (.iload_n 1, 1) := by decide +kernel
theorem dX2_keep_2 : decode cX2_keep 2 = .ok (.putfield 53, 3) := by decide +kernel
theorem dX2_keep_5 : decode cX2_keep 5 = .ok (.aload_n 0, 1) := by decide +kernel
theorem dX2_keep_6 : decode cX2_keep 6 = .ok (.aload_n 0, 1) := by decide +kernel
theorem dX2_keep_7 : decode cX2_keep 7 = .ok (.getfield 9, 3) := by decide +kernel
theorem dX2_keep_10 : decode cX2_keep 10 = .ok (.iload_n 2, 1) := by decide +kernel
theorem dX2_keep_11 : decode cX2_keep 11 = .ok (.invokevirtual 37, 3) := by decide +kernel
theorem dX2_keep_14 : decode cX2_keep 14 = .ok (.putfield 56, 3) := by decide +kernel
theorem dX2_keep_17 : decode cX2_keep 17 = .ok (.aload_n 0, 1) := by decide +kernel
theorem dX2_keep_18 : decode cX2_keep 18 = .ok (.aload_n 0, 1) := by decide +kernel
theorem dX2_keep_19 : decode cX2_keep 19 = .ok (.getfield 9, 3) := by decide +kernel
theorem dX2_keep_22 : decode cX2_keep 22 = .ok (.iload_n 3, 1) := by decide +kernel
theorem dX2_keep_23 : decode cX2_keep 23 = .ok (.invokevirtual 37, 3) := by decide +kernel
theorem dX2_keep_26 : decode cX2_keep 26 = .ok (.putfield 59, 3) := by decide +kernel
theorem dX2_keep_29 : decode cX2_keep 29 = .ok (.aload_n 0, 1) := by decide +kernel
theorem dX2_keep_30 : decode cX2_keep 30 = .ok (.iload_n 2, 1) := by decide +kernel
theorem dX2_keep_31 : decode cX2_keep 31 = .ok (.putfield 62, 3) := by decide +kernel
theorem dX2_keep_34 : decode cX2_keep 34 = .ok (.aload_n 0, 1) := by decide +kernel
theorem dX2_keep_35 : decode cX2_keep 35 = .ok (.iload_n 3, 1) := by decide +kernel
theorem dX2_keep_36 : decode cX2_keep 36 = .ok (.putfield 65, 3) := by decide +kernel
theorem dX2_keep_39 : decode cX2_keep 39 = .ok (.return_, 1) := by decide +kernel
theorem dX2_isAsGoodAs_0 : decode cX2_isAsGoodAs 0 = .ok (.aload_n 0, 1) := by decide +kernel
theorem dX2_isAsGoodAs_1 : decode cX2_isAsGoodAs 1 = .ok (.getfield 53, 3) := by decide +kernel
theorem dX2_isAsGoodAs_4 : decode cX2_isAsGoodAs 4 = .ok (.iload_n 1, 1) := by decide +kernel
theorem dX2_isAsGoodAs_5 : decode cX2_isAsGoodAs 5 = .ok (.if_icmp .lt 19, 3) := by decide +kernel
theorem dX2_isAsGoodAs_8 : decode cX2_isAsGoodAs 8 = .ok (.aload_n 0, 1) := by decide +kernel
theorem dX2_isAsGoodAs_9 : decode cX2_isAsGoodAs 9 = .ok (.getfield 53, 3) := by decide +kernel
theorem dX2_isAsGoodAs_12 : decode cX2_isAsGoodAs 12 = .ok (.iload_n 1, 1) := by decide +kernel
theorem dX2_isAsGoodAs_13 : decode cX2_isAsGoodAs 13 = .ok (.if_icmp .ne 15, 3) := by decide +kernel
theorem dX2_isAsGoodAs_16 : decode cX2_isAsGoodAs 16 = .ok (.aload_n 0, 1) := by decide +kernel
theorem dX2_isAsGoodAs_17 : decode cX2_isAsGoodAs 17 = .ok (.getfield 56, 3) := by decide +kernel
theorem dX2_isAsGoodAs_20 : decode cX2_isAsGoodAs 20 = .ok (.iload_n 2, 1) := by decide +kernel
theorem dX2_isAsGoodAs_21 : decode cX2_isAsGoodAs 21 = .ok (.if_icmp .gt 7, 3) := by decide +kernel
theorem dX2_isAsGoodAs_24 : decode cX2_isAsGoodAs 24 = .ok (.iconst 1, 1) := by decide +kernel
theorem dX2_isAsGoodAs_25 : decode cX2_isAsGoodAs 25 = .ok (.goto 4, 3) := by decide +kernel
theorem dX2_isAsGoodAs_28 : decode cX2_isAsGoodAs 28 = .ok (.iconst 0, 1) := by decide +kernel
theorem dX2_isAsGoodAs_29 : decode cX2_isAsGoodAs 29 = .ok (.ireturn, 1) := by decide +kernel
theorem dX2_isBetterThan_0 : decode cX2_isBetterThan 0 = .ok (.aload_n 0, 1) := by decide +kernel
theorem dX2_isBetterThan_1 : decode cX2_isBetterThan 1 = .ok (.getfield 53, 3) := by decide +kernel
theorem dX2_isBetterThan_4 : decode cX2_isBetterThan 4 = .ok (.iload_n 1, 1) := by decide +kernel
theorem dX2_isBetterThan_5 : decode cX2_isBetterThan 5 = .ok (.if_icmp .lt 19, 3) := by decide +kernel
theorem dX2_isBetterThan_8 : decode cX2_isBetterThan 8 = .ok (.aload_n 0, 1) := by decide +kernel
theorem dX2_isBetterThan_9 : decode cX2_isBetterThan 9 = .ok (.getfield 53, 3) := by decide +kernel
theorem dX2_isBetterThan_12 : decode cX2_isBetterThan 12 = .ok (.iload_n 1, 1) := by decide +kernel
theorem dX2_isBetterThan_13 : decode cX2_isBetterThan 13 = .ok (.if_icmp .ne 15, 3) := by decide +kernel
theorem dX2_isBetterThan_16 : decode cX2_isBetterThan 16 = .ok (.aload_n 0, 1) := by decide +kernel
theorem dX2_isBetterThan_17 : decode cX2_isBetterThan 17 = .ok (.getfield 56, 3) := by decide +kernel
theorem dX2_isBetterThan_20 : decode cX2_isBetterThan 20 = .ok (.iload_n 2, 1) := by decide +kernel
theorem dX2_isBetterThan_21 : decode cX2_isBetterThan 21 = .ok (.if_icmp .ge 7, 3) := by decide +kernel
theorem dX2_isBetterThan_24 : decode cX2_isBetterThan 24 = .ok (.iconst 1, 1) := by decide +kernel
theorem dX2_isBetterThan_25 : decode cX2_isBetterThan 25 = .ok (.goto 4, 3) := by decide +kernel
theorem dX2_isBetterThan_28 : decode cX2_isBetterThan 28 = .ok (.iconst 0, 1) := by decide +kernel
theorem dX2_isBetterThan_29 : decode cX2_isBetterThan 29 = .ok (.ireturn, 1) := by decide +kernel
theorem dX3_init_0 : decode cX3_init 0 = .ok (.aload_n 0, 1) := by decide +kernel
theorem dX3_init_1 : decode cX3_init 1 = .ok (.invokespecial 3, 3) := by decide +kernel
theorem dX3_init_4 : decode cX3_init 4 = .ok (.aload_n 0, 1) := by decide +kernel
theorem dX3_init_5 : decode cX3_init 5 = .ok (.bipush 12, 2) := by decide +kernel
theorem dX3_init_7 : decode cX3_init 7 = .ok (.newarray .int, 2) := by decide +kernel
theorem dX3_init_9 : decode cX3_init 9 = .ok (.putfield 9, 3) := by decide +kernel
theorem dX3_init_12 : decode cX3_init 12 = .ok (.aload_n 0, 1) := by decide +kernel
theorem dX3_init_13 : decode cX3_init 13 = .ok (.bipush 12, 2) := by decide +kernel
theorem dX3_init_15 : decode cX3_init 15 = .ok (.newarray .int, 2) := by decide +kernel
theorem dX3_init_17 : decode cX3_init 17 = .ok (.putfield 15, 3) := by decide +kernel
theorem dX3_init_20 : decode cX3_init 20 = .ok (.aload_n 0, 1) := by decide +kernel
theorem dX3_init_21 : decode cX3_init 21 = .ok (.bipush 12, 2) := by decide +kernel
theorem dX3_init_23 : decode cX3_init 23 = .ok (.newarray .int, 2) := by decide +kernel
theorem dX3_init_25 : decode cX3_init 25 = .ok (.putfield 18, 3) := by decide +kernel
theorem dX3_init_28 : decode cX3_init 28 = .ok (.aload_n 0, 1) := by decide +kernel
theorem dX3_init_29 : decode cX3_init 29 = .ok (.bipush 12, 2) := by decide +kernel
theorem dX3_init_31 : decode cX3_init 31 = .ok (.newarray .int, 2) := by decide +kernel
theorem dX3_init_33 : decode cX3_init 33 = .ok (.putfield 21, 3) := by decide +kernel
theorem dX3_init_36 : decode cX3_init 36 = .ok (.aload_n 0, 1) := by decide +kernel
theorem dX3_init_37 : decode cX3_init 37 = .ok (.bipush 12, 2) := by decide +kernel
theorem dX3_init_39 : decode cX3_init 39 = .ok (.newarray .int, 2) := by decide +kernel
theorem dX3_init_41 : decode cX3_init 41 = .ok (.putfield 24, 3) := by decide +kernel
theorem dX3_init_44 : decode cX3_init 44 = .ok (.aload_n 0, 1) := by decide +kernel
theorem dX3_init_45 : decode cX3_init 45 = .ok (.bipush 24, 2) := by decide +kernel
theorem dX3_init_47 : decode cX3_init 47 = .ok (.newarray .int, 2) := by decide +kernel
theorem dX3_init_49 : decode cX3_init 49 = .ok (.putfield 27, 3) := by decide +kernel
theorem dX3_init_52 : decode cX3_init 52 = .ok (.aload_n 0, 1) := by decide +kernel
theorem dX3_init_53 : decode cX3_init 53 = .ok (.aload_n 1, 1) := by decide +kernel
theorem dX3_init_54 : decode cX3_init 54 = .ok (.putfield 30, 3) := by decide +kernel
theorem dX3_init_57 : decode cX3_init 57 = .ok (.aload_n 0, 1) := by decide +kernel
theorem dX3_init_58 : decode cX3_init 58 = .ok (.aload_n 2, 1) := by decide +kernel
theorem dX3_init_59 : decode cX3_init 59 = .ok (.putfield 34, 3) := by decide +kernel
theorem dX3_init_62 : decode cX3_init 62 = .ok (.return_, 1) := by decide +kernel
theorem dX3_wayTo_0 : decode cX3_wayTo 0 = .ok (.aload_n 0, 1) := by decide +kernel
theorem dX3_wayTo_1 : decode cX3_wayTo 1 = .ok (.iload_n 1, 1) := by decide +kernel
theorem dX3_wayTo_2 : decode cX3_wayTo 2 = .ok (.invokevirtual 38, 3) := by decide +kernel
theorem dX3_wayTo_5 : decode cX3_wayTo 5 = .ok (.ifCond .eq 12, 3) := by decide +kernel
theorem dX3_wayTo_8 : decode cX3_wayTo 8 = .ok (.aload_n 0, 1) := by decide +kernel
theorem dX3_wayTo_9 : decode cX3_wayTo 9 = .ok (.getfield 15, 3) := by decide +kernel
theorem dX3_wayTo_12 : decode cX3_wayTo 12 = .ok (.iload_n 1, 1) := by decide +kernel
theorem dX3_wayTo_13 : decode cX3_wayTo 13 = .ok (.iaload, 1) := by decide +kernel
theorem dX3_wayTo_14 : decode cX3_wayTo 14 = .ok (.goto 4, 3) := by decide +kernel
theorem dX3_wayTo_17 : decode cX3_wayTo 17 = .ok (.iconst (-1), 1) := by decide +kernel
theorem dX3_wayTo_18 : decode cX3_wayTo 18 = .ok (.ireturn, 1) := by decide +kernel
theorem dX3_leavingAt_0 : decode cX3_leavingAt 0 = .ok (.aload_n 0, 1) := by decide +kernel
theorem dX3_leavingAt_1 : decode cX3_leavingAt 1 = .ok (.iload_n 1, 1) := by decide +kernel
theorem dX3_leavingAt_2 : decode cX3_leavingAt 2 = .ok (.invokevirtual 38, 3) := by decide +kernel
theorem dX3_leavingAt_5 : decode cX3_leavingAt 5 = .ok (.ifCond .eq 12, 3) := by decide +kernel
theorem dX3_leavingAt_8 : decode cX3_leavingAt 8 = .ok (.aload_n 0, 1) := by decide +kernel
theorem dX3_leavingAt_9 : decode cX3_leavingAt 9 = .ok (.getfield 18, 3) := by decide +kernel
theorem dX3_leavingAt_12 : decode cX3_leavingAt 12 = .ok (.iload_n 1, 1) := by decide +kernel
theorem dX3_leavingAt_13 : decode cX3_leavingAt 13 = .ok (.iaload, 1) := by decide +kernel
theorem dX3_leavingAt_14 : decode cX3_leavingAt 14 = .ok (.goto 4, 3) := by decide +kernel
theorem dX3_leavingAt_17 : decode cX3_leavingAt 17 = .ok (.iconst (-1), 1) := by decide +kernel
theorem dX3_leavingAt_18 : decode cX3_leavingAt 18 = .ok (.ireturn, 1) := by decide +kernel
theorem dX3_arrivalAt_0 : decode cX3_arrivalAt 0 = .ok (.aload_n 0, 1) := by decide +kernel
theorem dX3_arrivalAt_1 : decode cX3_arrivalAt 1 = .ok (.iload_n 1, 1) := by decide +kernel
theorem dX3_arrivalAt_2 : decode cX3_arrivalAt 2 = .ok (.invokevirtual 38, 3) := by decide +kernel
theorem dX3_arrivalAt_5 : decode cX3_arrivalAt 5 = .ok (.ifCond .eq 12, 3) := by decide +kernel
theorem dX3_arrivalAt_8 : decode cX3_arrivalAt 8 = .ok (.aload_n 0, 1) := by decide +kernel
theorem dX3_arrivalAt_9 : decode cX3_arrivalAt 9 = .ok (.getfield 21, 3) := by decide +kernel
theorem dX3_arrivalAt_12 : decode cX3_arrivalAt 12 = .ok (.iload_n 1, 1) := by decide +kernel
theorem dX3_arrivalAt_13 : decode cX3_arrivalAt 13 = .ok (.iaload, 1) := by decide +kernel
theorem dX3_arrivalAt_14 : decode cX3_arrivalAt 14 = .ok (.goto 4, 3) := by decide +kernel
theorem dX3_arrivalAt_17 : decode cX3_arrivalAt 17 = .ok (.iconst (-1), 1) := by decide +kernel
theorem dX3_arrivalAt_18 : decode cX3_arrivalAt 18 = .ok (.ireturn, 1) := by decide +kernel
theorem dX3_doneAt_0 : decode cX3_doneAt 0 = .ok (.aload_n 0, 1) := by decide +kernel
theorem dX3_doneAt_1 : decode cX3_doneAt 1 = .ok (.iload_n 1, 1) := by decide +kernel
theorem dX3_doneAt_2 : decode cX3_doneAt 2 = .ok (.invokevirtual 38, 3) := by decide +kernel
theorem dX3_doneAt_5 : decode cX3_doneAt 5 = .ok (.ifCond .eq 12, 3) := by decide +kernel
theorem dX3_doneAt_8 : decode cX3_doneAt 8 = .ok (.aload_n 0, 1) := by decide +kernel
theorem dX3_doneAt_9 : decode cX3_doneAt 9 = .ok (.getfield 24, 3) := by decide +kernel
theorem dX3_doneAt_12 : decode cX3_doneAt 12 = .ok (.iload_n 1, 1) := by decide +kernel
theorem dX3_doneAt_13 : decode cX3_doneAt 13 = .ok (.iaload, 1) := by decide +kernel
theorem dX3_doneAt_14 : decode cX3_doneAt 14 = .ok (.goto 4, 3) := by decide +kernel
theorem dX3_doneAt_17 : decode cX3_doneAt 17 = .ok (.iconst (-1), 1) := by decide +kernel
theorem dX3_doneAt_18 : decode cX3_doneAt 18 = .ok (.ireturn, 1) := by decide +kernel
theorem dX3_hasPlace_0 : decode cX3_hasPlace 0 = .ok (.iload_n 1, 1) := by decide +kernel
theorem dX3_hasPlace_1 : decode cX3_hasPlace 1 = .ok (.ifCond .lt 21, 3) := by decide +kernel
theorem dX3_hasPlace_4 : decode cX3_hasPlace 4 = .ok (.iload_n 1, 1) := by decide +kernel
theorem dX3_hasPlace_5 : decode cX3_hasPlace 5 = .ok (.aload_n 0, 1) := by decide +kernel
theorem dX3_hasPlace_6 : decode cX3_hasPlace 6 = .ok (.getfield 42, 3) := by decide +kernel
theorem dX3_hasPlace_9 : decode cX3_hasPlace 9 = .ok (.if_icmp .ge 13, 3) := by decide +kernel
theorem dX3_hasPlace_12 : decode cX3_hasPlace 12 = .ok (.iload_n 1, 1) := by decide +kernel
theorem dX3_hasPlace_13 : decode cX3_hasPlace 13 = .ok (.bipush 12, 2) := by decide +kernel
theorem dX3_hasPlace_15 : decode cX3_hasPlace 15 = .ok (.if_icmp .ge 7, 3) := by decide +kernel
theorem dX3_hasPlace_18 : decode cX3_hasPlace 18 = .ok (.iconst 1, 1) := by decide +kernel
theorem dX3_hasPlace_19 : decode cX3_hasPlace 19 = .ok (.goto 4, 3) := by decide +kernel
theorem dX3_hasPlace_22 : decode cX3_hasPlace 22 = .ok (.iconst 0, 1) := by decide +kernel
theorem dX3_hasPlace_23 : decode cX3_hasPlace 23 = .ok (.ireturn, 1) := by decide +kernel
theorem dX3_planRoute_0 : decode cX3_planRoute 0 = .ok (.aload_n 0, 1) := by decide +kernel
theorem dX3_planRoute_1 : decode cX3_planRoute 1 = .ok (.iconst 0, 1) := by decide +kernel
theorem dX3_planRoute_2 : decode cX3_planRoute 2 = .ok (.putfield 42, 3) := by decide +kernel
theorem dX3_planRoute_5 : decode cX3_planRoute 5 = .ok (.iconst 0, 1) := by decide +kernel
theorem dX3_planRoute_6 : decode cX3_planRoute 6 = .ok (.istore_n 2, 1) := by decide +kernel
theorem dX3_planRoute_7 : decode cX3_planRoute 7 = .ok (.iload_n 2, 1) := by decide +kernel
theorem dX3_planRoute_8 : decode cX3_planRoute 8 = .ok (.aload_n 1, 1) := by decide +kernel
theorem dX3_planRoute_9 : decode cX3_planRoute 9 = .ok (.getfield 46, 3) := by decide +kernel
theorem dX3_planRoute_12 : decode cX3_planRoute 12 = .ok (.if_icmp .ge 18, 3) := by decide +kernel
theorem dX3_planRoute_15 : decode cX3_planRoute 15 = .ok (.aload_n 0, 1) := by decide +kernel
theorem dX3_planRoute_16 : decode cX3_planRoute 16 = .ok (.aload_n 1, 1) := by decide +kernel
theorem dX3_planRoute_17 : decode cX3_planRoute 17 = .ok (.iload_n 2, 1) := by decide +kernel
theorem dX3_planRoute_18 : decode cX3_planRoute 18 = .ok (.invokevirtual 51, 3) := by decide +kernel
theorem dX3_planRoute_21 : decode cX3_planRoute 21 = .ok (.invokevirtual 55, 3) := by decide +kernel
theorem dX3_planRoute_24 : decode cX3_planRoute 24 = .ok (.iinc 2 1, 3) := by decide +kernel
theorem dX3_planRoute_27 : decode cX3_planRoute 27 = .ok (.goto (-20), 3) := by decide +kernel
theorem dX3_planRoute_30 : decode cX3_planRoute 30 = .ok (.aload_n 0, 1) := by decide +kernel
theorem dX3_planRoute_31 : decode cX3_planRoute 31 = .ok (.aload_n 1, 1) := by decide +kernel
theorem dX3_planRoute_32 : decode cX3_planRoute 32 = .ok (.invokevirtual 59, 3) := by decide +kernel
theorem dX3_planRoute_35 : decode cX3_planRoute 35 = .ok (.return_, 1) := by decide +kernel
theorem dX3_planInsertion_0 : decode cX3_planInsertion 0 = .ok (.aload_n 0, 1) := by decide +kernel
theorem dX3_planInsertion_1 : decode cX3_planInsertion 1 = .ok (.iconst 0, 1) := by decide +kernel
theorem dX3_planInsertion_2 : decode cX3_planInsertion 2 = .ok (.putfield 42, 3) := by decide +kernel
theorem dX3_planInsertion_5 : decode cX3_planInsertion 5 = .ok (.iconst 0, 1) := by decide +kernel
theorem dX3_planInsertion_6 : decode cX3_planInsertion 6 = .ok (.istore 5, 2) := by decide +kernel
theorem dX3_planInsertion_8 : decode cX3_planInsertion 8 = .ok (.iconst 0, 1) := by decide +kernel
theorem dX3_planInsertion_9 : decode cX3_planInsertion 9 = .ok (.istore 6, 2) := by decide +kernel
theorem dX3_planInsertion_11 : decode cX3_planInsertion 11 = .ok (.iload 6, 2) := by decide +kernel
theorem dX3_planInsertion_13 : decode cX3_planInsertion 13 = .ok (.aload_n 1, 1) := by decide +kernel
theorem dX3_planInsertion_14 : decode cX3_planInsertion 14 = .ok (.getfield 46, 3) := by decide +kernel
theorem dX3_planInsertion_17 : decode cX3_planInsertion 17 = .ok (.iconst 2, 1) := by decide +kernel
theorem dX3_planInsertion_18 : decode cX3_planInsertion 18 = .ok (.iadd, 1) := by decide +kernel
theorem dX3_planInsertion_19 : decode cX3_planInsertion 19 = .ok (.if_icmp .ge 57, 3) := by decide +kernel
theorem dX3_planInsertion_22 : decode cX3_planInsertion 22 = .ok (.iload 6, 2) := by decide +kernel
theorem dX3_planInsertion_24 : decode cX3_planInsertion 24 = .ok (.iload_n 3, 1) := by decide +kernel
theorem dX3_planInsertion_25 : decode cX3_planInsertion 25 = .ok (.if_icmp .ne 14, 3) := by decide +kernel
theorem dX3_planInsertion_28 : decode cX3_planInsertion 28 = .ok (.aload_n 0, 1) := by decide +kernel
theorem dX3_planInsertion_29 : decode cX3_planInsertion 29 = .ok (.iload_n 2, 1) := by decide +kernel
theorem dX3_planInsertion_30 : decode cX3_planInsertion 30 = .ok (.invokestatic 63, 3) := by decide +kernel
theorem dX3_planInsertion_33 : decode cX3_planInsertion 33 = .ok (.invokevirtual 55, 3) := by decide +kernel
theorem dX3_planInsertion_36 : decode cX3_planInsertion 36 = .ok (.goto 34, 3) := by decide +kernel
theorem dX3_planInsertion_39 : decode cX3_planInsertion 39 = .ok (.iload 6, 2) := by decide +kernel
theorem dX3_planInsertion_41 : decode cX3_planInsertion 41 = .ok (.iload 4, 2) := by decide +kernel
theorem dX3_planInsertion_43 : decode cX3_planInsertion 43 = .ok (.if_icmp .ne 14, 3) := by decide +kernel
theorem dX3_planInsertion_46 : decode cX3_planInsertion 46 = .ok (.aload_n 0, 1) := by decide +kernel
theorem dX3_planInsertion_47 : decode cX3_planInsertion 47 = .ok (.iload_n 2, 1) := by decide +kernel
theorem dX3_planInsertion_48 : decode cX3_planInsertion 48 = .ok (.invokestatic 68, 3) := by decide +kernel
theorem dX3_planInsertion_51 : decode cX3_planInsertion 51 = .ok (.invokevirtual 55, 3) := by decide +kernel
theorem dX3_planInsertion_54 : decode cX3_planInsertion 54 = .ok (.goto 16, 3) := by decide +kernel
theorem dX3_planInsertion_57 : decode cX3_planInsertion 57 = .ok (.aload_n 0, 1) := by decide +kernel
theorem dX3_planInsertion_58 : decode cX3_planInsertion 58 = .ok (.aload_n 1, 1) := by decide +kernel
theorem dX3_planInsertion_59 : decode cX3_planInsertion 59 = .ok (.iload 5, 2) := by decide +kernel
theorem dX3_planInsertion_61 : decode cX3_planInsertion 61 = .ok (.invokevirtual 51, 3) := by decide +kernel
theorem dX3_planInsertion_64 : decode cX3_planInsertion 64 = .ok (.invokevirtual 55, 3) := by decide +kernel
theorem dX3_planInsertion_67 : decode cX3_planInsertion 67 = .ok (.iinc 5 1, 3) := by decide +kernel
theorem dX3_planInsertion_70 : decode cX3_planInsertion 70 = .ok (.iinc 6 1, 3) := by decide +kernel
theorem dX3_planInsertion_73 : decode cX3_planInsertion 73 = .ok (.goto (-62), 3) := by decide +kernel
theorem dX3_planInsertion_76 : decode cX3_planInsertion 76 = .ok (.aload_n 0, 1) := by decide +kernel
theorem dX3_planInsertion_77 : decode cX3_planInsertion 77 = .ok (.aload_n 1, 1) := by decide +kernel
theorem dX3_planInsertion_78 : decode cX3_planInsertion 78 = .ok (.invokevirtual 59, 3) := by decide +kernel
theorem dX3_planInsertion_81 : decode cX3_planInsertion 81 = .ok (.return_, 1) := by decide +kernel
theorem dX3_append_0 : decode cX3_append 0 = .ok (.aload_n 0, 1) := by decide +kernel
theorem dX3_append_1 : decode cX3_append 1 = .ok (.getfield 42, 3) := by decide +kernel
theorem dX3_append_4 : decode cX3_append 4 = .ok (.ifCond .lt 32, 3) := by decide +kernel
theorem dX3_append_7 : decode cX3_append 7 = .ok (.aload_n 0, 1) := by decide +kernel
theorem dX3_append_8 : decode cX3_append 8 = .ok (.getfield 42, 3) := by decide +kernel
theorem dX3_append_11 : decode cX3_append 11 = .ok (.bipush 12, 2) := by decide +kernel
theorem dX3_append_13 : decode cX3_append 13 = .ok (.if_icmp .ge 23, 3) := by decide +kernel
theorem dX3_append_16 : decode cX3_append 16 = .ok (.aload_n 0, 1) := by decide +kernel
theorem dX3_append_17 : decode cX3_append 17 = .ok (.getfield 9, 3) := by decide +kernel
theorem dX3_append_20 : decode cX3_append 20 = .ok (.aload_n 0, 1) := by decide +kernel
theorem dX3_append_21 : decode cX3_append 21 = .ok (.getfield 42, 3) := by decide +kernel
theorem dX3_append_24 : decode cX3_append 24 = .ok (.iload_n 1, 1) := by decide +kernel
theorem dX3_append_25 : decode cX3_append 25 = .ok (.iastore, 1) := by decide +kernel
theorem dX3_append_26 : decode cX3_append 26 = .ok (.aload_n 0, 1) := by decide +kernel
theorem dX3_append_27 : decode cX3_append 27 = .ok (.dup, 1) := by decide +kernel
theorem dX3_append_28 : decode cX3_append 28 = .ok (.getfield 42, 3) := by decide +kernel
theorem dX3_append_31 : decode cX3_append 31 = .ok (.iconst 1, 1) := by decide +kernel
theorem dX3_append_32 : decode cX3_append 32 = .ok (.iadd, 1) := by decide +kernel
theorem dX3_append_33 : decode cX3_append 33 = .ok (.putfield 42, 3) := by decide +kernel
theorem dX3_append_36 : decode cX3_append 36 = .ok (.return_, 1) := by decide +kernel
theorem dX3_planTimes_0 : decode cX3_planTimes 0 = .ok (.aload_n 1, 1) := by decide +kernel
theorem dX3_planTimes_1 : decode cX3_planTimes 1 = .ok (.getfield 71, 3) := by decide +kernel
theorem dX3_planTimes_4 : decode cX3_planTimes 4 = .ok (.istore_n 2, 1) := by decide +kernel
theorem dX3_planTimes_5 : decode cX3_planTimes 5 = .ok (.aload_n 1, 1) := by decide +kernel
theorem dX3_planTimes_6 : decode cX3_planTimes 6 = .ok (.getfield 74, 3) := by decide +kernel
theorem dX3_planTimes_9 : decode cX3_planTimes 9 = .ok (.istore_n 3, 1) := by decide +kernel
theorem dX3_planTimes_10 : decode cX3_planTimes 10 = .ok (.aload_n 0, 1) := by decide +kernel
theorem dX3_planTimes_11 : decode cX3_planTimes 11 = .ok (.iconst 0, 1) := by decide +kernel
theorem dX3_planTimes_12 : decode cX3_planTimes 12 = .ok (.putfield 77, 3) := by decide +kernel
theorem dX3_planTimes_15 : decode cX3_planTimes 15 = .ok (.aload_n 0, 1) := by decide +kernel
theorem dX3_planTimes_16 : decode cX3_planTimes 16 = .ok (.iconst 1, 1) := by decide +kernel
theorem dX3_planTimes_17 : decode cX3_planTimes 17 = .ok (.putfield 80, 3) := by decide +kernel
theorem dX3_planTimes_20 : decode cX3_planTimes 20 = .ok (.iconst 0, 1) := by decide +kernel
theorem dX3_planTimes_21 : decode cX3_planTimes 21 = .ok (.istore 4, 2) := by decide +kernel
theorem dX3_planTimes_23 : decode cX3_planTimes 23 = .ok (.iload 4, 2) := by decide +kernel
theorem dX3_planTimes_25 : decode cX3_planTimes 25 = .ok (.aload_n 0, 1) := by decide +kernel
theorem dX3_planTimes_26 : decode cX3_planTimes 26 = .ok (.getfield 42, 3) := by decide +kernel
theorem dX3_planTimes_29 : decode cX3_planTimes 29 = .ok (.if_icmp .ge 169, 3) := by decide +kernel
theorem dX3_planTimes_32 : decode cX3_planTimes 32 = .ok (.iload 4, 2) := by decide +kernel
theorem dX3_planTimes_34 : decode cX3_planTimes 34 = .ok (.bipush 12, 2) := by decide +kernel
theorem dX3_planTimes_36 : decode cX3_planTimes 36 = .ok (.if_icmp .ge 162, 3) := by decide +kernel
theorem dX3_planTimes_39 : decode cX3_planTimes 39 = .ok (.aload_n 0, 1) := by decide +kernel
theorem dX3_planTimes_40 : decode cX3_planTimes 40 = .ok (.getfield 34, 3) := by decide +kernel
theorem dX3_planTimes_43 : decode cX3_planTimes 43 = .ok (.aload_n 0, 1) := by decide +kernel
theorem dX3_planTimes_44 : decode cX3_planTimes 44 = .ok (.getfield 9, 3) := by decide +kernel
theorem dX3_planTimes_47 : decode cX3_planTimes 47 = .ok (.iload 4, 2) := by decide +kernel
theorem dX3_planTimes_49 : decode cX3_planTimes 49 = .ok (.iaload, 1) := by decide +kernel
theorem dX3_planTimes_50 : decode cX3_planTimes 50 = .ok (.invokevirtual 84, 3) := by decide +kernel
theorem dX3_planTimes_53 : decode cX3_planTimes 53 = .ok (.istore 5, 2) := by decide +kernel
theorem dX3_planTimes_55 : decode cX3_planTimes 55 = .ok (.aload_n 0, 1) := by decide +kernel
theorem dX3_planTimes_56 : decode cX3_planTimes 56 = .ok (.getfield 30, 3) := by decide +kernel
theorem dX3_planTimes_59 : decode cX3_planTimes 59 = .ok (.iload_n 2, 1) := by decide +kernel
theorem dX3_planTimes_60 : decode cX3_planTimes 60 = .ok (.iload 5, 2) := by decide +kernel
theorem dX3_planTimes_62 : decode cX3_planTimes 62 = .ok (.invokevirtual 87, 3) := by decide +kernel
theorem dX3_planTimes_65 : decode cX3_planTimes 65 = .ok (.istore 6, 2) := by decide +kernel
theorem dX3_planTimes_67 : decode cX3_planTimes 67 = .ok (.aload_n 0, 1) := by decide +kernel
theorem dX3_planTimes_68 : decode cX3_planTimes 68 = .ok (.aload_n 0, 1) := by decide +kernel
theorem dX3_planTimes_69 : decode cX3_planTimes 69 = .ok (.getfield 80, 3) := by decide +kernel
theorem dX3_planTimes_72 : decode cX3_planTimes 72 = .ok (.ifCond .eq 13, 3) := by decide +kernel
theorem dX3_planTimes_75 : decode cX3_planTimes 75 = .ok (.iload 6, 2) := by decide +kernel
theorem dX3_planTimes_77 : decode cX3_planTimes 77 = .ok (.iconst (-1), 1) := by decide +kernel
theorem dX3_planTimes_78 : decode cX3_planTimes 78 = .ok (.if_icmp .eq 7, 3) := by decide +kernel
theorem dX3_planTimes_81 : decode cX3_planTimes 81 = .ok (.iconst 1, 1) := by decide +kernel
theorem dX3_planTimes_82 : decode cX3_planTimes 82 = .ok (.goto 4, 3) := by decide +kernel
theorem dX3_planTimes_85 : decode cX3_planTimes 85 = .ok (.iconst 0, 1) := by decide +kernel
theorem dX3_planTimes_86 : decode cX3_planTimes 86 = .ok (.putfield 80, 3) := by decide +kernel
theorem dX3_planTimes_89 : decode cX3_planTimes 89 = .ok (.aload_n 0, 1) := by decide +kernel
theorem dX3_planTimes_90 : decode cX3_planTimes 90 = .ok (.getfield 15, 3) := by decide +kernel
theorem dX3_planTimes_93 : decode cX3_planTimes 93 = .ok (.iload 4, 2) := by decide +kernel
theorem dX3_planTimes_95 : decode cX3_planTimes 95 = .ok (.iload 6, 2) := by decide +kernel
theorem dX3_planTimes_97 : decode cX3_planTimes 97 = .ok (.iconst 0, 1) := by decide +kernel
theorem dX3_planTimes_98 : decode cX3_planTimes 98 = .ok (.invokestatic 93, 3) := by decide +kernel
theorem dX3_planTimes_101 : decode cX3_planTimes 101 = .ok (.iastore, 1) := by decide +kernel
theorem dX3_planTimes_102 : decode cX3_planTimes 102 = .ok (.aload_n 0, 1) := by decide +kernel
theorem dX3_planTimes_103 : decode cX3_planTimes 103 = .ok (.getfield 18, 3) := by decide +kernel
theorem dX3_planTimes_106 : decode cX3_planTimes 106 = .ok (.iload 4, 2) := by decide +kernel
theorem dX3_planTimes_108 : decode cX3_planTimes 108 = .ok (.aload_n 0, 1) := by decide +kernel
theorem dX3_planTimes_109 : decode cX3_planTimes 109 = .ok (.aload_n 1, 1) := by decide +kernel
theorem dX3_planTimes_110 : decode cX3_planTimes 110 = .ok (.iload 4, 2) := by decide +kernel
theorem dX3_planTimes_112 : decode cX3_planTimes 112 = .ok (.iload_n 3, 1) := by decide +kernel
theorem dX3_planTimes_113 : decode cX3_planTimes 113 = .ok (.invokevirtual 98, 3) := by decide +kernel
theorem dX3_planTimes_116 : decode cX3_planTimes 116 = .ok (.iastore, 1) := by decide +kernel
theorem dX3_planTimes_117 : decode cX3_planTimes 117 = .ok (.aload_n 0, 1) := by decide +kernel
theorem dX3_planTimes_118 : decode cX3_planTimes 118 = .ok (.getfield 21, 3) := by decide +kernel
theorem dX3_planTimes_121 : decode cX3_planTimes 121 = .ok (.iload 4, 2) := by decide +kernel
theorem dX3_planTimes_123 : decode cX3_planTimes 123 = .ok (.aload_n 0, 1) := by decide +kernel
theorem dX3_planTimes_124 : decode cX3_planTimes 124 = .ok (.getfield 18, 3) := by decide +kernel
theorem dX3_planTimes_127 : decode cX3_planTimes 127 = .ok (.iload 4, 2) := by decide +kernel
theorem dX3_planTimes_129 : decode cX3_planTimes 129 = .ok (.iaload, 1) := by decide +kernel
theorem dX3_planTimes_130 : decode cX3_planTimes 130 = .ok (.aload_n 0, 1) := by decide +kernel
theorem dX3_planTimes_131 : decode cX3_planTimes 131 = .ok (.getfield 15, 3) := by decide +kernel
theorem dX3_planTimes_134 : decode cX3_planTimes 134 = .ok (.iload 4, 2) := by decide +kernel
theorem dX3_planTimes_136 : decode cX3_planTimes 136 = .ok (.iaload, 1) := by decide +kernel
theorem dX3_planTimes_137 : decode cX3_planTimes 137 = .ok (.iadd, 1) := by decide +kernel
theorem dX3_planTimes_138 : decode cX3_planTimes 138 = .ok (.iastore, 1) := by decide +kernel
theorem dX3_planTimes_139 : decode cX3_planTimes 139 = .ok (.aload_n 0, 1) := by decide +kernel
theorem dX3_planTimes_140 : decode cX3_planTimes 140 = .ok (.getfield 24, 3) := by decide +kernel
theorem dX3_planTimes_143 : decode cX3_planTimes 143 = .ok (.iload 4, 2) := by decide +kernel
theorem dX3_planTimes_145 : decode cX3_planTimes 145 = .ok (.aload_n 0, 1) := by decide +kernel
theorem dX3_planTimes_146 : decode cX3_planTimes 146 = .ok (.getfield 21, 3) := by decide +kernel
theorem dX3_planTimes_149 : decode cX3_planTimes 149 = .ok (.iload 4, 2) := by decide +kernel
theorem dX3_planTimes_151 : decode cX3_planTimes 151 = .ok (.iaload, 1) := by decide +kernel
theorem dX3_planTimes_152 : decode cX3_planTimes 152 = .ok (.aload_n 0, 1) := by decide +kernel
theorem dX3_planTimes_153 : decode cX3_planTimes 153 = .ok (.aload_n 0, 1) := by decide +kernel
theorem dX3_planTimes_154 : decode cX3_planTimes 154 = .ok (.getfield 9, 3) := by decide +kernel
theorem dX3_planTimes_157 : decode cX3_planTimes 157 = .ok (.iload 4, 2) := by decide +kernel
theorem dX3_planTimes_159 : decode cX3_planTimes 159 = .ok (.iaload, 1) := by decide +kernel
theorem dX3_planTimes_160 : decode cX3_planTimes 160 = .ok (.invokevirtual 102, 3) := by decide +kernel
theorem dX3_planTimes_163 : decode cX3_planTimes 163 = .ok (.iadd, 1) := by decide +kernel
theorem dX3_planTimes_164 : decode cX3_planTimes 164 = .ok (.iastore, 1) := by decide +kernel
theorem dX3_planTimes_165 : decode cX3_planTimes 165 = .ok (.aload_n 0, 1) := by decide +kernel
theorem dX3_planTimes_166 : decode cX3_planTimes 166 = .ok (.dup, 1) := by decide +kernel
theorem dX3_planTimes_167 : decode cX3_planTimes 167 = .ok (.getfield 77, 3) := by decide +kernel
theorem dX3_planTimes_170 : decode cX3_planTimes 170 = .ok (.aload_n 0, 1) := by decide +kernel
theorem dX3_planTimes_171 : decode cX3_planTimes 171 = .ok (.getfield 15, 3) := by decide +kernel
theorem dX3_planTimes_174 : decode cX3_planTimes 174 = .ok (.iload 4, 2) := by decide +kernel
theorem dX3_planTimes_176 : decode cX3_planTimes 176 = .ok (.iaload, 1) := by decide +kernel
theorem dX3_planTimes_177 : decode cX3_planTimes 177 = .ok (.iadd, 1) := by decide +kernel
theorem dX3_planTimes_178 : decode cX3_planTimes 178 = .ok (.putfield 77, 3) := by decide +kernel
theorem dX3_planTimes_181 : decode cX3_planTimes 181 = .ok (.iload 5, 2) := by decide +kernel
theorem dX3_planTimes_183 : decode cX3_planTimes 183 = .ok (.istore_n 2, 1) := by decide +kernel
theorem dX3_planTimes_184 : decode cX3_planTimes 184 = .ok (.aload_n 0, 1) := by decide +kernel
theorem dX3_planTimes_185 : decode cX3_planTimes 185 = .ok (.getfield 24, 3) := by decide +kernel
theorem dX3_planTimes_188 : decode cX3_planTimes 188 = .ok (.iload 4, 2) := by decide +kernel
theorem dX3_planTimes_190 : decode cX3_planTimes 190 = .ok (.iaload, 1) := by decide +kernel
theorem dX3_planTimes_191 : decode cX3_planTimes 191 = .ok (.istore_n 3, 1) := by decide +kernel
theorem dX3_planTimes_192 : decode cX3_planTimes 192 = .ok (.iinc 4 1, 3) := by decide +kernel
theorem dX3_planTimes_195 : decode cX3_planTimes 195 = .ok (.goto (-172), 3) := by decide +kernel
theorem dX3_planTimes_198 : decode cX3_planTimes 198 = .ok (.return_, 1) := by decide +kernel
theorem dX3_leavingTime_0 : decode cX3_leavingTime 0 = .ok (.aload_n 0, 1) := by decide +kernel
theorem dX3_leavingTime_1 : decode cX3_leavingTime 1 = .ok (.iload_n 2, 1) := by decide +kernel
theorem dX3_leavingTime_2 : decode cX3_leavingTime 2 = .ok (.invokevirtual 38, 3) := by decide +kernel
theorem dX3_leavingTime_5 : decode cX3_leavingTime 5 = .ok (.ifCond .eq 15, 3) := by decide +kernel
theorem dX3_leavingTime_8 : decode cX3_leavingTime 8 = .ok (.iload_n 2, 1) := by decide +kernel
theorem dX3_leavingTime_9 : decode cX3_leavingTime 9 = .ok (.ifCond .ne 16, 3) := by decide +kernel
theorem dX3_leavingTime_12 : decode cX3_leavingTime 12 = .ok (.aload_n 1, 1) := by decide +kernel
theorem dX3_leavingTime_13 : decode cX3_leavingTime 13 = .ok (.getfield 105, 3) := by decide +kernel
theorem dX3_leavingTime_16 : decode cX3_leavingTime 16 = .ok (.iconst (-1), 1) := by decide +kernel
theorem dX3_leavingTime_17 : decode cX3_leavingTime 17 = .ok (.if_icmp .eq 8, 3) := by decide +kernel
theorem dX3_leavingTime_20 : decode cX3_leavingTime 20 = .ok (.aload_n 1, 1) := by decide +kernel
theorem dX3_leavingTime_21 : decode cX3_leavingTime 21 = .ok (.getfield 105, 3) := by decide +kernel
theorem dX3_leavingTime_24 : decode cX3_leavingTime 24 = .ok (.ireturn, 1) := by decide +kernel
theorem dX3_leavingTime_25 : decode cX3_leavingTime 25 = .ok (.iload_n 2, 1) := by decide +kernel
theorem dX3_leavingTime_26 : decode cX3_leavingTime 26 = .ok (.ifCond .ne 17, 3) := by decide +kernel
theorem dX3_leavingTime_29 : decode cX3_leavingTime 29 = .ok (.iload_n 3, 1) := by decide +kernel
theorem dX3_leavingTime_30 : decode cX3_leavingTime 30 = .ok (.aload_n 0, 1) := by decide +kernel
theorem dX3_leavingTime_31 : decode cX3_leavingTime 31 = .ok (.getfield 34, 3) := by decide +kernel
theorem dX3_leavingTime_34 : decode cX3_leavingTime 34 = .ok (.getfield 108, 3) := by decide +kernel
theorem dX3_leavingTime_37 : decode cX3_leavingTime 37 = .ok (.invokestatic 93, 3) := by decide +kernel
theorem dX3_leavingTime_40 : decode cX3_leavingTime 40 = .ok (.goto 4, 3) := by decide +kernel
theorem dX3_leavingTime_43 : decode cX3_leavingTime 43 = .ok (.iload_n 3, 1) := by decide +kernel
theorem dX3_leavingTime_44 : decode cX3_leavingTime 44 = .ok (.istore 4, 2) := by decide +kernel
theorem dX3_leavingTime_46 : decode cX3_leavingTime 46 = .ok (.aload_n 0, 1) := by decide +kernel
theorem dX3_leavingTime_47 : decode cX3_leavingTime 47 = .ok (.getfield 9, 3) := by decide +kernel
theorem dX3_leavingTime_50 : decode cX3_leavingTime 50 = .ok (.iload_n 2, 1) := by decide +kernel
theorem dX3_leavingTime_51 : decode cX3_leavingTime 51 = .ok (.iaload, 1) := by decide +kernel
theorem dX3_leavingTime_52 : decode cX3_leavingTime 52 = .ok (.invokestatic 111, 3) := by decide +kernel
theorem dX3_leavingTime_55 : decode cX3_leavingTime 55 = .ok (.ifCond .eq 40, 3) := by decide +kernel
theorem dX3_leavingTime_58 : decode cX3_leavingTime 58 = .ok (.aload_n 0, 1) := by decide +kernel
theorem dX3_leavingTime_59 : decode cX3_leavingTime 59 = .ok (.getfield 34, 3) := by decide +kernel
theorem dX3_leavingTime_62 : decode cX3_leavingTime 62 = .ok (.aload_n 0, 1) := by decide +kernel
theorem dX3_leavingTime_63 : decode cX3_leavingTime 63 = .ok (.getfield 9, 3) := by decide +kernel
theorem dX3_leavingTime_66 : decode cX3_leavingTime 66 = .ok (.iload_n 2, 1) := by decide +kernel
theorem dX3_leavingTime_67 : decode cX3_leavingTime 67 = .ok (.iaload, 1) := by decide +kernel
theorem dX3_leavingTime_68 : decode cX3_leavingTime 68 = .ok (.invokestatic 114, 3) := by decide +kernel
theorem dX3_leavingTime_71 : decode cX3_leavingTime 71 = .ok (.invokevirtual 117, 3) := by decide +kernel
theorem dX3_leavingTime_74 : decode cX3_leavingTime 74 = .ok (.astore 5, 2) := by decide +kernel
theorem dX3_leavingTime_76 : decode cX3_leavingTime 76 = .ok (.iload 4, 2) := by decide +kernel
theorem dX3_leavingTime_78 : decode cX3_leavingTime 78 = .ok (.aload 5, 2) := by decide +kernel
theorem dX3_leavingTime_80 : decode cX3_leavingTime 80 = .ok (.getfield 121, 3) := by decide +kernel
theorem dX3_leavingTime_83 : decode cX3_leavingTime 83 = .ok (.aload_n 0, 1) := by decide +kernel
theorem dX3_leavingTime_84 : decode cX3_leavingTime 84 = .ok (.getfield 15, 3) := by decide +kernel
theorem dX3_leavingTime_87 : decode cX3_leavingTime 87 = .ok (.iload_n 2, 1) := by decide +kernel
theorem dX3_leavingTime_88 : decode cX3_leavingTime 88 = .ok (.iaload, 1) := by decide +kernel
theorem dX3_leavingTime_89 : decode cX3_leavingTime 89 = .ok (.isub, 1) := by decide +kernel
theorem dX3_leavingTime_90 : decode cX3_leavingTime 90 = .ok (.invokestatic 93, 3) := by decide +kernel
theorem dX3_leavingTime_93 : decode cX3_leavingTime 93 = .ok (.istore 4, 2) := by decide +kernel
theorem dX3_leavingTime_95 : decode cX3_leavingTime 95 = .ok (.iload 4, 2) := by decide +kernel
theorem dX3_leavingTime_97 : decode cX3_leavingTime 97 = .ok (.ireturn, 1) := by decide +kernel
theorem dX3_stayAt_0 : decode cX3_stayAt 0 = .ok (.iload_n 1, 1) := by decide +kernel
theorem dX3_stayAt_1 : decode cX3_stayAt 1 = .ok (.invokestatic 111, 3) := by decide +kernel
theorem dX3_stayAt_4 : decode cX3_stayAt 4 = .ok (.ifCond .eq 24, 3) := by decide +kernel
theorem dX3_stayAt_7 : decode cX3_stayAt 7 = .ok (.aload_n 0, 1) := by decide +kernel
theorem dX3_stayAt_8 : decode cX3_stayAt 8 = .ok (.getfield 34, 3) := by decide +kernel
theorem dX3_stayAt_11 : decode cX3_stayAt 11 = .ok (.iload_n 1, 1) := by decide +kernel
theorem dX3_stayAt_12 : decode cX3_stayAt 12 = .ok (.invokestatic 114, 3) := by decide +kernel
theorem dX3_stayAt_15 : decode cX3_stayAt 15 = .ok (.invokevirtual 117, 3) := by decide +kernel
theorem dX3_stayAt_18 : decode cX3_stayAt 18 = .ok (.getfield 126, 3) := by decide +kernel
theorem dX3_stayAt_21 : decode cX3_stayAt 21 = .ok (.ifCond .eq 7, 3) := by decide +kernel
theorem dX3_stayAt_24 : decode cX3_stayAt 24 = .ok (.iconst 1, 1) := by decide +kernel
theorem dX3_stayAt_25 : decode cX3_stayAt 25 = .ok (.goto 4, 3) := by decide +kernel
theorem dX3_stayAt_28 : decode cX3_stayAt 28 = .ok (.iconst 0, 1) := by decide +kernel
theorem dX3_stayAt_29 : decode cX3_stayAt 29 = .ok (.istore_n 2, 1) := by decide +kernel
theorem dX3_stayAt_30 : decode cX3_stayAt 30 = .ok (.aload_n 0, 1) := by decide +kernel
theorem dX3_stayAt_31 : decode cX3_stayAt 31 = .ok (.getfield 34, 3) := by decide +kernel
theorem dX3_stayAt_34 : decode cX3_stayAt 34 = .ok (.iload_n 2, 1) := by decide +kernel
theorem dX3_stayAt_35 : decode cX3_stayAt 35 = .ok (.ifCond .eq 7, 3) := by decide +kernel
theorem dX3_stayAt_38 : decode cX3_stayAt 38 = .ok (.iconst 3, 1) := by decide +kernel
theorem dX3_stayAt_39 : decode cX3_stayAt 39 = .ok (.goto 4, 3) := by decide +kernel
theorem dX3_stayAt_42 : decode cX3_stayAt 42 = .ok (.iconst 1, 1) := by decide +kernel
theorem dX3_stayAt_43 : decode cX3_stayAt 43 = .ok (.invokevirtual 129, 3) := by decide +kernel
theorem dX3_stayAt_46 : decode cX3_stayAt 46 = .ok (.ireturn, 1) := by decide +kernel
theorem dX3_stintBehind_0 : decode cX3_stintBehind 0 = .ok (.iload_n 3, 1) := by decide +kernel
theorem dX3_stintBehind_1 : decode cX3_stintBehind 1 = .ok (.iload_n 2, 1) := by decide +kernel
theorem dX3_stintBehind_2 : decode cX3_stintBehind 2 = .ok (.isub, 1) := by decide +kernel
theorem dX3_stintBehind_3 : decode cX3_stintBehind 3 = .ok (.aload_n 0, 1) := by decide +kernel
theorem dX3_stintBehind_4 : decode cX3_stintBehind 4 = .ok (.getfield 34, 3) := by decide +kernel
theorem dX3_stintBehind_7 : decode cX3_stintBehind 7 = .ok (.bipush 6, 2) := by decide +kernel
theorem dX3_stintBehind_9 : decode cX3_stintBehind 9 = .ok (.invokevirtual 129, 3) := by decide +kernel
theorem dX3_stintBehind_12 : decode cX3_stintBehind 12 = .ok (.if_icmp .lt 8, 3) := by decide +kernel
theorem dX3_stintBehind_15 : decode cX3_stintBehind 15 = .ok (.iload 4, 2) := by decide +kernel
theorem dX3_stintBehind_17 : decode cX3_stintBehind 17 = .ok (.goto 7, 3) := by decide +kernel
theorem dX3_stintBehind_20 : decode cX3_stintBehind 20 = .ok (.iload_n 1, 1) := by decide +kernel
theorem dX3_stintBehind_21 : decode cX3_stintBehind 21 = .ok (.iload 4, 2) := by decide +kernel
theorem dX3_stintBehind_23 : decode cX3_stintBehind 23 = .ok (.iadd, 1) := by decide +kernel
theorem dX3_stintBehind_24 : decode cX3_stintBehind 24 = .ok (.ireturn, 1) := by decide +kernel
theorem dX3_keepsLimits_0 : decode cX3_keepsLimits 0 = .ok (.aload_n 0, 1) := by decide +kernel
theorem dX3_keepsLimits_1 : decode cX3_keepsLimits 1 = .ok (.getfield 42, 3) := by decide +kernel
theorem dX3_keepsLimits_4 : decode cX3_keepsLimits 4 = .ok (.ifCond .ne 5, 3) := by decide +kernel
theorem dX3_keepsLimits_7 : decode cX3_keepsLimits 7 = .ok (.iconst 1, 1) := by decide +kernel
theorem dX3_keepsLimits_8 : decode cX3_keepsLimits 8 = .ok (.ireturn, 1) := by decide +kernel
theorem dX3_keepsLimits_9 : decode cX3_keepsLimits 9 = .ok (.aload_n 0, 1) := by decide +kernel
theorem dX3_keepsLimits_10 : decode cX3_keepsLimits 10 = .ok (.getfield 80, 3) := by decide +kernel
theorem dX3_keepsLimits_13 : decode cX3_keepsLimits 13 = .ok (.ifCond .eq 20, 3) := by decide +kernel
theorem dX3_keepsLimits_16 : decode cX3_keepsLimits 16 = .ok (.aload_n 0, 1) := by decide +kernel
theorem dX3_keepsLimits_17 : decode cX3_keepsLimits 17 = .ok (.aload_n 0, 1) := by decide +kernel
theorem dX3_keepsLimits_18 : decode cX3_keepsLimits 18 = .ok (.getfield 42, 3) := by decide +kernel
theorem dX3_keepsLimits_21 : decode cX3_keepsLimits 21 = .ok (.iconst 1, 1) := by decide +kernel
theorem dX3_keepsLimits_22 : decode cX3_keepsLimits 22 = .ok (.isub, 1) := by decide +kernel
theorem dX3_keepsLimits_23 : decode cX3_keepsLimits 23 = .ok (.invokevirtual 132, 3) := by decide +kernel
theorem dX3_keepsLimits_26 : decode cX3_keepsLimits 26 = .ok (.aload_n 1, 1) := by decide +kernel
theorem dX3_keepsLimits_27 : decode cX3_keepsLimits 27 = .ok (.getfield 135, 3) := by decide +kernel
theorem dX3_keepsLimits_30 : decode cX3_keepsLimits 30 = .ok (.if_icmp .le 5, 3) := by decide +kernel
theorem dX3_keepsLimits_33 : decode cX3_keepsLimits 33 = .ok (.iconst 0, 1) := by decide +kernel
theorem dX3_keepsLimits_34 : decode cX3_keepsLimits 34 = .ok (.ireturn, 1) := by decide +kernel
theorem dX3_keepsLimits_35 : decode cX3_keepsLimits 35 = .ok (.aload_n 0, 1) := by decide +kernel
theorem dX3_keepsLimits_36 : decode cX3_keepsLimits 36 = .ok (.getfield 34, 3) := by decide +kernel
theorem dX3_keepsLimits_39 : decode cX3_keepsLimits 39 = .ok (.aload_n 1, 1) := by decide +kernel
theorem dX3_keepsLimits_40 : decode cX3_keepsLimits 40 = .ok (.invokevirtual 138, 3) := by decide +kernel
theorem dX3_keepsLimits_43 : decode cX3_keepsLimits 43 = .ok (.istore_n 2, 1) := by decide +kernel
theorem dX3_keepsLimits_44 : decode cX3_keepsLimits 44 = .ok (.aload_n 1, 1) := by decide +kernel
theorem dX3_keepsLimits_45 : decode cX3_keepsLimits 45 = .ok (.getfield 142, 3) := by decide +kernel
theorem dX3_keepsLimits_48 : decode cX3_keepsLimits 48 = .ok (.istore_n 3, 1) := by decide +kernel
theorem dX3_keepsLimits_49 : decode cX3_keepsLimits 49 = .ok (.aload_n 1, 1) := by decide +kernel
theorem dX3_keepsLimits_50 : decode cX3_keepsLimits 50 = .ok (.getfield 74, 3) := by decide +kernel
theorem dX3_keepsLimits_53 : decode cX3_keepsLimits 53 = .ok (.istore 4, 2) := by decide +kernel
theorem dX3_keepsLimits_55 : decode cX3_keepsLimits 55 = .ok (.iconst 0, 1) := by decide +kernel
theorem dX3_keepsLimits_56 : decode cX3_keepsLimits 56 = .ok (.istore 5, 2) := by decide +kernel
theorem dX3_keepsLimits_58 : decode cX3_keepsLimits 58 = .ok (.iload 5, 2) := by decide +kernel
theorem dX3_keepsLimits_60 : decode cX3_keepsLimits 60 = .ok (.aload_n 0, 1) := by decide +kernel
theorem dX3_keepsLimits_61 : decode cX3_keepsLimits 61 = .ok (.getfield 42, 3) := by decide +kernel
theorem dX3_keepsLimits_64 : decode cX3_keepsLimits 64 = .ok (.if_icmp .ge 92, 3) := by decide +kernel
theorem dX3_keepsLimits_67 : decode cX3_keepsLimits 67 = .ok (.iload 5, 2) := by decide +kernel
theorem dX3_keepsLimits_69 : decode cX3_keepsLimits 69 = .ok (.bipush 12, 2) := by decide +kernel
theorem dX3_keepsLimits_71 : decode cX3_keepsLimits 71 = .ok (.if_icmp .ge 85, 3) := by decide +kernel
theorem dX3_keepsLimits_74 : decode cX3_keepsLimits 74 = .ok (.aload_n 0, 1) := by decide +kernel
theorem dX3_keepsLimits_75 : decode cX3_keepsLimits 75 = .ok (.iload_n 3, 1) := by decide +kernel
theorem dX3_keepsLimits_76 : decode cX3_keepsLimits 76 = .ok (.iload 4, 2) := by decide +kernel
theorem dX3_keepsLimits_78 : decode cX3_keepsLimits 78 = .ok (.aload_n 0, 1) := by decide +kernel
theorem dX3_keepsLimits_79 : decode cX3_keepsLimits 79 = .ok (.getfield 18, 3) := by decide +kernel
theorem dX3_keepsLimits_82 : decode cX3_keepsLimits 82 = .ok (.iload 5, 2) := by decide +kernel
theorem dX3_keepsLimits_84 : decode cX3_keepsLimits 84 = .ok (.iaload, 1) := by decide +kernel
theorem dX3_keepsLimits_85 : decode cX3_keepsLimits 85 = .ok (.aload_n 0, 1) := by decide +kernel
theorem dX3_keepsLimits_86 : decode cX3_keepsLimits 86 = .ok (.getfield 15, 3) := by decide +kernel
theorem dX3_keepsLimits_89 : decode cX3_keepsLimits 89 = .ok (.iload 5, 2) := by decide +kernel
theorem dX3_keepsLimits_91 : decode cX3_keepsLimits 91 = .ok (.iaload, 1) := by decide +kernel
theorem dX3_keepsLimits_92 : decode cX3_keepsLimits 92 = .ok (.invokevirtual 145, 3) := by decide +kernel
theorem dX3_keepsLimits_95 : decode cX3_keepsLimits 95 = .ok (.istore_n 3, 1) := by decide +kernel
theorem dX3_keepsLimits_96 : decode cX3_keepsLimits 96 = .ok (.iload_n 2, 1) := by decide +kernel
theorem dX3_keepsLimits_97 : decode cX3_keepsLimits 97 = .ok (.aload_n 1, 1) := by decide +kernel
theorem dX3_keepsLimits_98 : decode cX3_keepsLimits 98 = .ok (.getfield 149, 3) := by decide +kernel
theorem dX3_keepsLimits_101 : decode cX3_keepsLimits 101 = .ok (.if_icmp .gt 24, 3) := by decide +kernel
theorem dX3_keepsLimits_104 : decode cX3_keepsLimits 104 = .ok (.iload_n 3, 1) := by decide +kernel
theorem dX3_keepsLimits_105 : decode cX3_keepsLimits 105 = .ok (.aload_n 0, 1) := by decide +kernel
theorem dX3_keepsLimits_106 : decode cX3_keepsLimits 106 = .ok (.getfield 34, 3) := by decide +kernel
theorem dX3_keepsLimits_109 : decode cX3_keepsLimits 109 = .ok (.iconst 5, 1) := by decide +kernel
theorem dX3_keepsLimits_110 : decode cX3_keepsLimits 110 = .ok (.invokevirtual 129, 3) := by decide +kernel
theorem dX3_keepsLimits_113 : decode cX3_keepsLimits 113 = .ok (.if_icmp .gt 12, 3) := by decide +kernel
theorem dX3_keepsLimits_116 : decode cX3_keepsLimits 116 = .ok (.aload_n 0, 1) := by decide +kernel
theorem dX3_keepsLimits_117 : decode cX3_keepsLimits 117 = .ok (.iload 5, 2) := by decide +kernel
theorem dX3_keepsLimits_119 : decode cX3_keepsLimits 119 = .ok (.invokevirtual 152, 3) := by decide +kernel
theorem dX3_keepsLimits_122 : decode cX3_keepsLimits 122 = .ok (.ifCond .ne 5, 3) := by decide +kernel
theorem dX3_keepsLimits_125 : decode cX3_keepsLimits 125 = .ok (.iconst 0, 1) := by decide +kernel
theorem dX3_keepsLimits_126 : decode cX3_keepsLimits 126 = .ok (.ireturn, 1) := by decide +kernel
theorem dX3_keepsLimits_127 : decode cX3_keepsLimits 127 = .ok (.iload_n 2, 1) := by decide +kernel
theorem dX3_keepsLimits_128 : decode cX3_keepsLimits 128 = .ok (.aload_n 0, 1) := by decide +kernel
theorem dX3_keepsLimits_129 : decode cX3_keepsLimits 129 = .ok (.aload_n 0, 1) := by decide +kernel
theorem dX3_keepsLimits_130 : decode cX3_keepsLimits 130 = .ok (.getfield 9, 3) := by decide +kernel
theorem dX3_keepsLimits_133 : decode cX3_keepsLimits 133 = .ok (.iload 5, 2) := by decide +kernel
theorem dX3_keepsLimits_135 : decode cX3_keepsLimits 135 = .ok (.iaload, 1) := by decide +kernel
theorem dX3_keepsLimits_136 : decode cX3_keepsLimits 136 = .ok (.invokevirtual 155, 3) := by decide +kernel
theorem dX3_keepsLimits_139 : decode cX3_keepsLimits 139 = .ok (.iadd, 1) := by decide +kernel
theorem dX3_keepsLimits_140 : decode cX3_keepsLimits 140 = .ok (.istore_n 2, 1) := by decide +kernel
theorem dX3_keepsLimits_141 : decode cX3_keepsLimits 141 = .ok (.aload_n 0, 1) := by decide +kernel
theorem dX3_keepsLimits_142 : decode cX3_keepsLimits 142 = .ok (.getfield 24, 3) := by decide +kernel
theorem dX3_keepsLimits_145 : decode cX3_keepsLimits 145 = .ok (.iload 5, 2) := by decide +kernel
theorem dX3_keepsLimits_147 : decode cX3_keepsLimits 147 = .ok (.iaload, 1) := by decide +kernel
theorem dX3_keepsLimits_148 : decode cX3_keepsLimits 148 = .ok (.istore 4, 2) := by decide +kernel
theorem dX3_keepsLimits_150 : decode cX3_keepsLimits 150 = .ok (.iinc 5 1, 3) := by decide +kernel
theorem dX3_keepsLimits_153 : decode cX3_keepsLimits 153 = .ok (.goto (-95), 3) := by decide +kernel
theorem dX3_keepsLimits_156 : decode cX3_keepsLimits 156 = .ok (.iconst 1, 1) := by decide +kernel
theorem dX3_keepsLimits_157 : decode cX3_keepsLimits 157 = .ok (.ireturn, 1) := by decide +kernel
theorem dX3_isInTime_0 : decode cX3_isInTime 0 = .ok (.aload_n 0, 1) := by decide +kernel
theorem dX3_isInTime_1 : decode cX3_isInTime 1 = .ok (.iload_n 1, 1) := by decide +kernel
theorem dX3_isInTime_2 : decode cX3_isInTime 2 = .ok (.invokevirtual 38, 3) := by decide +kernel
theorem dX3_isInTime_5 : decode cX3_isInTime 5 = .ok (.ifCond .eq 15, 3) := by decide +kernel
theorem dX3_isInTime_8 : decode cX3_isInTime 8 = .ok (.aload_n 0, 1) := by decide +kernel
theorem dX3_isInTime_9 : decode cX3_isInTime 9 = .ok (.getfield 9, 3) := by decide +kernel
theorem dX3_isInTime_12 : decode cX3_isInTime 12 = .ok (.iload_n 1, 1) := by decide +kernel
theorem dX3_isInTime_13 : decode cX3_isInTime 13 = .ok (.iaload, 1) := by decide +kernel
theorem dX3_isInTime_14 : decode cX3_isInTime 14 = .ok (.invokestatic 114, 3) := by decide +kernel
theorem dX3_isInTime_17 : decode cX3_isInTime 17 = .ok (.goto 4, 3) := by decide +kernel
theorem dX3_isInTime_20 : decode cX3_isInTime 20 = .ok (.iconst (-1), 1) := by decide +kernel
theorem dX3_isInTime_21 : decode cX3_isInTime 21 = .ok (.istore_n 2, 1) := by decide +kernel
theorem dX3_isInTime_22 : decode cX3_isInTime 22 = .ok (.iload_n 2, 1) := by decide +kernel
theorem dX3_isInTime_23 : decode cX3_isInTime 23 = .ok (.ifCond .lt 9, 3) := by decide +kernel
theorem dX3_isInTime_26 : decode cX3_isInTime 26 = .ok (.iload_n 2, 1) := by decide +kernel
theorem dX3_isInTime_27 : decode cX3_isInTime 27 = .ok (.bipush 24, 2) := by decide +kernel
theorem dX3_isInTime_29 : decode cX3_isInTime 29 = .ok (.if_icmp .lt 5, 3) := by decide +kernel
theorem dX3_isInTime_32 : decode cX3_isInTime 32 = .ok (.iconst 0, 1) := by decide +kernel
theorem dX3_isInTime_33 : decode cX3_isInTime 33 = .ok (.ireturn, 1) := by decide +kernel
theorem dX3_isInTime_34 : decode cX3_isInTime 34 = .ok (.aload_n 0, 1) := by decide +kernel
theorem dX3_isInTime_35 : decode cX3_isInTime 35 = .ok (.getfield 34, 3) := by decide +kernel
theorem dX3_isInTime_38 : decode cX3_isInTime 38 = .ok (.iload_n 2, 1) := by decide +kernel
theorem dX3_isInTime_39 : decode cX3_isInTime 39 = .ok (.invokevirtual 117, 3) := by decide +kernel
theorem dX3_isInTime_42 : decode cX3_isInTime 42 = .ok (.astore_n 3, 1) := by decide +kernel
theorem dX3_isInTime_43 : decode cX3_isInTime 43 = .ok (.aload_n 0, 1) := by decide +kernel
theorem dX3_isInTime_44 : decode cX3_isInTime 44 = .ok (.getfield 9, 3) := by decide +kernel
theorem dX3_isInTime_47 : decode cX3_isInTime 47 = .ok (.iload_n 1, 1) := by decide +kernel
theorem dX3_isInTime_48 : decode cX3_isInTime 48 = .ok (.iaload, 1) := by decide +kernel
theorem dX3_isInTime_49 : decode cX3_isInTime 49 = .ok (.invokestatic 111, 3) := by decide +kernel
theorem dX3_isInTime_52 : decode cX3_isInTime 52 = .ok (.ifCond .eq 34, 3) := by decide +kernel
theorem dX3_isInTime_55 : decode cX3_isInTime 55 = .ok (.aload_n 0, 1) := by decide +kernel
theorem dX3_isInTime_56 : decode cX3_isInTime 56 = .ok (.getfield 27, 3) := by decide +kernel
theorem dX3_isInTime_59 : decode cX3_isInTime 59 = .ok (.iload_n 2, 1) := by decide +kernel
theorem dX3_isInTime_60 : decode cX3_isInTime 60 = .ok (.aload_n 0, 1) := by decide +kernel
theorem dX3_isInTime_61 : decode cX3_isInTime 61 = .ok (.getfield 24, 3) := by decide +kernel
theorem dX3_isInTime_64 : decode cX3_isInTime 64 = .ok (.iload_n 1, 1) := by decide +kernel
theorem dX3_isInTime_65 : decode cX3_isInTime 65 = .ok (.iaload, 1) := by decide +kernel
theorem dX3_isInTime_66 : decode cX3_isInTime 66 = .ok (.iastore, 1) := by decide +kernel
theorem dX3_isInTime_67 : decode cX3_isInTime 67 = .ok (.aload_n 0, 1) := by decide +kernel
theorem dX3_isInTime_68 : decode cX3_isInTime 68 = .ok (.getfield 21, 3) := by decide +kernel
theorem dX3_isInTime_71 : decode cX3_isInTime 71 = .ok (.iload_n 1, 1) := by decide +kernel
theorem dX3_isInTime_72 : decode cX3_isInTime 72 = .ok (.iaload, 1) := by decide +kernel
theorem dX3_isInTime_73 : decode cX3_isInTime 73 = .ok (.aload_n 3, 1) := by decide +kernel
theorem dX3_isInTime_74 : decode cX3_isInTime 74 = .ok (.getfield 158, 3) := by decide +kernel
theorem dX3_isInTime_77 : decode cX3_isInTime 77 = .ok (.if_icmp .gt 7, 3) := by decide +kernel
theorem dX3_isInTime_80 : decode cX3_isInTime 80 = .ok (.iconst 1, 1) := by decide +kernel
theorem dX3_isInTime_81 : decode cX3_isInTime 81 = .ok (.goto 4, 3) := by decide +kernel
theorem dX3_isInTime_84 : decode cX3_isInTime 84 = .ok (.iconst 0, 1) := by decide +kernel
theorem dX3_isInTime_85 : decode cX3_isInTime 85 = .ok (.ireturn, 1) := by decide +kernel
theorem dX3_isInTime_86 : decode cX3_isInTime 86 = .ok (.aload_n 3, 1) := by decide +kernel
theorem dX3_isInTime_87 : decode cX3_isInTime 87 = .ok (.getfield 161, 3) := by decide +kernel
theorem dX3_isInTime_90 : decode cX3_isInTime 90 = .ok (.iconst 2, 1) := by decide +kernel
theorem dX3_isInTime_91 : decode cX3_isInTime 91 = .ok (.if_icmp .ne 10, 3) := by decide +kernel
theorem dX3_isInTime_94 : decode cX3_isInTime 94 = .ok (.aload_n 3, 1) := by decide +kernel
theorem dX3_isInTime_95 : decode cX3_isInTime 95 = .ok (.getfield 164, 3) := by decide +kernel
theorem dX3_isInTime_98 : decode cX3_isInTime 98 = .ok (.goto 9, 3) := by decide +kernel
theorem dX3_isInTime_101 : decode cX3_isInTime 101 = .ok (.aload_n 0, 1) := by decide +kernel
theorem dX3_isInTime_102 : decode cX3_isInTime 102 = .ok (.getfield 27, 3) := by decide +kernel
theorem dX3_isInTime_105 : decode cX3_isInTime 105 = .ok (.iload_n 2, 1) := by decide +kernel
theorem dX3_isInTime_106 : decode cX3_isInTime 106 = .ok (.iaload, 1) := by decide +kernel
theorem dX3_isInTime_107 : decode cX3_isInTime 107 = .ok (.istore 4, 2) := by decide +kernel
theorem dX3_isInTime_109 : decode cX3_isInTime 109 = .ok (.aload_n 0, 1) := by decide +kernel
theorem dX3_isInTime_110 : decode cX3_isInTime 110 = .ok (.getfield 21, 3) := by decide +kernel
theorem dX3_isInTime_113 : decode cX3_isInTime 113 = .ok (.iload_n 1, 1) := by decide +kernel
theorem dX3_isInTime_114 : decode cX3_isInTime 114 = .ok (.iaload, 1) := by decide +kernel
theorem dX3_isInTime_115 : decode cX3_isInTime 115 = .ok (.iload 4, 2) := by decide +kernel
theorem dX3_isInTime_117 : decode cX3_isInTime 117 = .ok (.aload_n 3, 1) := by decide +kernel
theorem dX3_isInTime_118 : decode cX3_isInTime 118 = .ok (.getfield 167, 3) := by decide +kernel
theorem dX3_isInTime_121 : decode cX3_isInTime 121 = .ok (.iadd, 1) := by decide +kernel
theorem dX3_isInTime_122 : decode cX3_isInTime 122 = .ok (.if_icmp .gt 7, 3) := by decide +kernel
theorem dX3_isInTime_125 : decode cX3_isInTime 125 = .ok (.iconst 1, 1) := by decide +kernel
theorem dX3_isInTime_126 : decode cX3_isInTime 126 = .ok (.goto 4, 3) := by decide +kernel
theorem dX3_isInTime_129 : decode cX3_isInTime 129 = .ok (.iconst 0, 1) := by decide +kernel
theorem dX3_isInTime_130 : decode cX3_isInTime 130 = .ok (.ireturn, 1) := by decide +kernel
theorem dX3_personsChange_0 : decode cX3_personsChange 0 = .ok (.aload_n 0, 1) := by decide +kernel
theorem dX3_personsChange_1 : decode cX3_personsChange 1 = .ok (.getfield 34, 3) := by decide +kernel
theorem dX3_personsChange_4 : decode cX3_personsChange 4 = .ok (.iload_n 1, 1) := by decide +kernel
theorem dX3_personsChange_5 : decode cX3_personsChange 5 = .ok (.invokestatic 114, 3) := by decide +kernel
theorem dX3_personsChange_8 : decode cX3_personsChange 8 = .ok (.invokevirtual 117, 3) := by decide +kernel
theorem dX3_personsChange_11 : decode cX3_personsChange 11 = .ok (.astore_n 2, 1) := by decide +kernel
theorem dX3_personsChange_12 : decode cX3_personsChange 12 = .ok (.iload_n 1, 1) := by decide +kernel
theorem dX3_personsChange_13 : decode cX3_personsChange 13 = .ok (.invokestatic 111, 3) := by decide +kernel
theorem dX3_personsChange_16 : decode cX3_personsChange 16 = .ok (.ifCond .ne 9, 3) := by decide +kernel
theorem dX3_personsChange_19 : decode cX3_personsChange 19 = .ok (.aload_n 2, 1) := by decide +kernel
theorem dX3_personsChange_20 : decode cX3_personsChange 20 = .ok (.getfield 170, 3) := by decide +kernel
theorem dX3_personsChange_23 : decode cX3_personsChange 23 = .ok (.ineg, 1) := by decide +kernel
theorem dX3_personsChange_24 : decode cX3_personsChange 24 = .ok (.ireturn, 1) := by decide +kernel
theorem dX3_personsChange_25 : decode cX3_personsChange 25 = .ok (.aload_n 2, 1) := by decide +kernel
theorem dX3_personsChange_26 : decode cX3_personsChange 26 = .ok (.getfield 126, 3) := by decide +kernel
theorem dX3_personsChange_29 : decode cX3_personsChange 29 = .ok (.ifCond .eq 7, 3) := by decide +kernel
theorem dX3_personsChange_32 : decode cX3_personsChange 32 = .ok (.iconst 0, 1) := by decide +kernel
theorem dX3_personsChange_33 : decode cX3_personsChange 33 = .ok (.goto 7, 3) := by decide +kernel
theorem dX3_personsChange_36 : decode cX3_personsChange 36 = .ok (.aload_n 2, 1) := by decide +kernel
theorem dX3_personsChange_37 : decode cX3_personsChange 37 = .ok (.getfield 170, 3) := by decide +kernel
theorem dX3_personsChange_40 : decode cX3_personsChange 40 = .ok (.ireturn, 1) := by decide +kernel
theorem dX4_init_0 : decode cX4_init 0 = .ok (.aload_n 0, 1) := by decide +kernel
theorem dX4_init_1 : decode cX4_init 1 = .ok (.invokespecial 3, 3) := by decide +kernel
theorem dX4_init_4 : decode cX4_init 4 = .ok (.aload_n 0, 1) := by decide +kernel
theorem dX4_init_5 : decode cX4_init 5 = .ok (.aload_n 1, 1) := by decide +kernel
theorem dX4_init_6 : decode cX4_init 6 = .ok (.putfield 9, 3) := by decide +kernel
theorem dX4_init_9 : decode cX4_init 9 = .ok (.aload_n 0, 1) := by decide +kernel
theorem dX4_init_10 : decode cX4_init 10 = .ok (.aload_n 2, 1) := by decide +kernel
theorem dX4_init_11 : decode cX4_init 11 = .ok (.putfield 15, 3) := by decide +kernel
theorem dX4_init_14 : decode cX4_init 14 = .ok (.return_, 1) := by decide +kernel
theorem dX5_init_0 : decode cX5_init 0 = .ok (.aload_n 0, 1) := by decide +kernel
theorem dX5_init_1 : decode cX5_init 1 = .ok (.invokespecial 3, 3) := by decide +kernel
theorem dX5_init_4 : decode cX5_init 4 = .ok (.return_, 1) := by decide +kernel
theorem dX5_begin_0 : decode cX5_begin 0 = .ok (.aload_n 0, 1) := by decide +kernel
theorem dX5_begin_1 : decode cX5_begin 1 = .ok (.iconst 0, 1) := by decide +kernel
theorem dX5_begin_2 : decode cX5_begin 2 = .ok (.putfield 9, 3) := by decide +kernel
theorem dX5_begin_5 : decode cX5_begin 5 = .ok (.aload_n 0, 1) := by decide +kernel
theorem dX5_begin_6 : decode cX5_begin 6 = .ok (.iload_n 1, 1) := by decide +kernel
theorem dX5_begin_7 : decode cX5_begin 7 = .ok (.putfield 15, 3) := by decide +kernel
theorem dX5_begin_10 : decode cX5_begin 10 = .ok (.aload_n 0, 1) := by decide +kernel
theorem dX5_begin_11 : decode cX5_begin 11 = .ok (.iload_n 2, 1) := by decide +kernel
theorem dX5_begin_12 : decode cX5_begin 12 = .ok (.putfield 18, 3) := by decide +kernel
theorem dX5_begin_15 : decode cX5_begin 15 = .ok (.aload_n 0, 1) := by decide +kernel
theorem dX5_begin_16 : decode cX5_begin 16 = .ok (.iload_n 3, 1) := by decide +kernel
theorem dX5_begin_17 : decode cX5_begin 17 = .ok (.putfield 21, 3) := by decide +kernel
theorem dX5_begin_20 : decode cX5_begin 20 = .ok (.aload_n 0, 1) := by decide +kernel
theorem dX5_begin_21 : decode cX5_begin 21 = .ok (.iload 4, 2) := by decide +kernel
theorem dX5_begin_23 : decode cX5_begin 23 = .ok (.putfield 24, 3) := by decide +kernel
theorem dX5_begin_26 : decode cX5_begin 26 = .ok (.aload_n 0, 1) := by decide +kernel
theorem dX5_begin_27 : decode cX5_begin 27 = .ok (.iconst (-1), 1) := by decide +kernel
theorem dX5_begin_28 : decode cX5_begin 28 = .ok (.putfield 27, 3) := by decide +kernel
theorem dX5_begin_31 : decode cX5_begin 31 = .ok (.aload_n 0, 1) := by decide +kernel
theorem dX5_begin_32 : decode cX5_begin 32 = .ok (.iconst (-1), 1) := by decide +kernel
theorem dX5_begin_33 : decode cX5_begin 33 = .ok (.putfield 30, 3) := by decide +kernel
theorem dX5_begin_36 : decode cX5_begin 36 = .ok (.aload_n 0, 1) := by decide +kernel
theorem dX5_begin_37 : decode cX5_begin 37 = .ok (.iconst (-1), 1) := by decide +kernel
theorem dX5_begin_38 : decode cX5_begin 38 = .ok (.putfield 33, 3) := by decide +kernel
theorem dX5_begin_41 : decode cX5_begin 41 = .ok (.aload_n 0, 1) := by decide +kernel
theorem dX5_begin_42 : decode cX5_begin 42 = .ok (.iconst 0, 1) := by decide +kernel
theorem dX5_begin_43 : decode cX5_begin 43 = .ok (.putfield 36, 3) := by decide +kernel
theorem dX5_begin_46 : decode cX5_begin 46 = .ok (.aload_n 0, 1) := by decide +kernel
theorem dX5_begin_47 : decode cX5_begin 47 = .ok (.iconst 0, 1) := by decide +kernel
theorem dX5_begin_48 : decode cX5_begin 48 = .ok (.putfield 39, 3) := by decide +kernel
theorem dX5_begin_51 : decode cX5_begin 51 = .ok (.aload_n 0, 1) := by decide +kernel
theorem dX5_begin_52 : decode cX5_begin 52 = .ok (.iconst (-1), 1) := by decide +kernel
theorem dX5_begin_53 : decode cX5_begin 53 = .ok (.putfield 43, 3) := by decide +kernel
theorem dX5_begin_56 : decode cX5_begin 56 = .ok (.aload_n 0, 1) := by decide +kernel
theorem dX5_begin_57 : decode cX5_begin 57 = .ok (.iconst (-1), 1) := by decide +kernel
theorem dX5_begin_58 : decode cX5_begin 58 = .ok (.putfield 46, 3) := by decide +kernel
theorem dX5_begin_61 : decode cX5_begin 61 = .ok (.aload_n 0, 1) := by decide +kernel
theorem dX5_begin_62 : decode cX5_begin 62 = .ok (.iconst (-1), 1) := by decide +kernel
theorem dX5_begin_63 : decode cX5_begin 63 = .ok (.putfield 49, 3) := by decide +kernel
theorem dX5_begin_66 : decode cX5_begin 66 = .ok (.aload_n 0, 1) := by decide +kernel
theorem dX5_begin_67 : decode cX5_begin 67 = .ok (.iconst (-1), 1) := by decide +kernel
theorem dX5_begin_68 : decode cX5_begin 68 = .ok (.putfield 52, 3) := by decide +kernel
theorem dX5_begin_71 : decode cX5_begin 71 = .ok (.aload_n 0, 1) := by decide +kernel
theorem dX5_begin_72 : decode cX5_begin 72 = .ok (.iconst (-1), 1) := by decide +kernel
theorem dX5_begin_73 : decode cX5_begin 73 = .ok (.putfield 55, 3) := by decide +kernel
theorem dX5_begin_76 : decode cX5_begin 76 = .ok (.return_, 1) := by decide +kernel
theorem dX5_setDirect_0 : decode cX5_setDirect 0 = .ok (.aload_n 0, 1) := by decide +kernel
theorem dX5_setDirect_1 : decode cX5_setDirect 1 = .ok (.iload_n 1, 1) := by decide +kernel
theorem dX5_setDirect_2 : decode cX5_setDirect 2 = .ok (.putfield 58, 3) := by decide +kernel
theorem dX5_setDirect_5 : decode cX5_setDirect 5 = .ok (.aload_n 0, 1) := by decide +kernel
theorem dX5_setDirect_6 : decode cX5_setDirect 6 = .ok (.iload_n 1, 1) := by decide +kernel
theorem dX5_setDirect_7 : decode cX5_setDirect 7 = .ok (.iconst (-1), 1) := by decide +kernel
theorem dX5_setDirect_8 : decode cX5_setDirect 8 = .ok (.if_icmp .ne 7, 3) := by decide +kernel
theorem dX5_setDirect_11 : decode cX5_setDirect 11 = .ok (.iconst (-1), 1) := by decide +kernel
theorem dX5_setDirect_12 : decode cX5_setDirect 12 = .ok (.goto 15, 3) := by decide +kernel
theorem dX5_setDirect_15 : decode cX5_setDirect 15 = .ok (.iload_n 1, 1) := by decide +kernel
theorem dX5_setDirect_16 : decode cX5_setDirect 16 = .ok (.bipush 100, 2) := by decide +kernel
theorem dX5_setDirect_18 : decode cX5_setDirect 18 = .ok (.aload_n 0, 1) := by decide +kernel
theorem dX5_setDirect_19 : decode cX5_setDirect 19 = .ok (.getfield 24, 3) := by decide +kernel
theorem dX5_setDirect_22 : decode cX5_setDirect 22 = .ok (.iadd, 1) := by decide +kernel
theorem dX5_setDirect_23 : decode cX5_setDirect 23 = .ok (.imul, 1) := by decide +kernel
theorem dX5_setDirect_24 : decode cX5_setDirect 24 = .ok (.bipush 100, 2) := by decide +kernel
theorem dX5_setDirect_26 : decode cX5_setDirect 26 = .ok (.idiv, 1) := by decide +kernel
theorem dX5_setDirect_27 : decode cX5_setDirect 27 = .ok (.putfield 61, 3) := by decide +kernel
theorem dX5_setDirect_30 : decode cX5_setDirect 30 = .ok (.return_, 1) := by decide +kernel
theorem dX5_copyFrom_0 : decode cX5_copyFrom 0 = .ok (.aload_n 0, 1) := by decide +kernel
theorem dX5_copyFrom_1 : decode cX5_copyFrom 1 = .ok (.aload_n 1, 1) := by decide +kernel
theorem dX5_copyFrom_2 : decode cX5_copyFrom 2 = .ok (.getfield 9, 3) := by decide +kernel
theorem dX5_copyFrom_5 : decode cX5_copyFrom 5 = .ok (.putfield 9, 3) := by decide +kernel
theorem dX5_copyFrom_8 : decode cX5_copyFrom 8 = .ok (.aload_n 0, 1) := by decide +kernel
theorem dX5_copyFrom_9 : decode cX5_copyFrom 9 = .ok (.aload_n 1, 1) := by decide +kernel
theorem dX5_copyFrom_10 : decode cX5_copyFrom 10 = .ok (.getfield 15, 3) := by decide +kernel
theorem dX5_copyFrom_13 : decode cX5_copyFrom 13 = .ok (.putfield 15, 3) := by decide +kernel
theorem dX5_copyFrom_16 : decode cX5_copyFrom 16 = .ok (.aload_n 0, 1) := by decide +kernel
theorem dX5_copyFrom_17 : decode cX5_copyFrom 17 = .ok (.aload_n 1, 1) := by decide +kernel
theorem dX5_copyFrom_18 : decode cX5_copyFrom 18 = .ok (.getfield 18, 3) := by decide +kernel
theorem dX5_copyFrom_21 : decode cX5_copyFrom 21 = .ok (.putfield 18, 3) := by decide +kernel
theorem dX5_copyFrom_24 : decode cX5_copyFrom 24 = .ok (.aload_n 0, 1) := by decide +kernel
theorem dX5_copyFrom_25 : decode cX5_copyFrom 25 = .ok (.aload_n 1, 1) := by decide +kernel
theorem dX5_copyFrom_26 : decode cX5_copyFrom 26 = .ok (.getfield 21, 3) := by decide +kernel
theorem dX5_copyFrom_29 : decode cX5_copyFrom 29 = .ok (.putfield 21, 3) := by decide +kernel
theorem dX5_copyFrom_32 : decode cX5_copyFrom 32 = .ok (.aload_n 0, 1) := by decide +kernel
theorem dX5_copyFrom_33 : decode cX5_copyFrom 33 = .ok (.aload_n 1, 1) := by decide +kernel
theorem dX5_copyFrom_34 : decode cX5_copyFrom 34 = .ok (.getfield 64, 3) := by decide +kernel
theorem dX5_copyFrom_37 : decode cX5_copyFrom 37 = .ok (.putfield 64, 3) := by decide +kernel
theorem dX5_copyFrom_40 : decode cX5_copyFrom 40 = .ok (.aload_n 0, 1) := by decide +kernel
theorem dX5_copyFrom_41 : decode cX5_copyFrom 41 = .ok (.aload_n 1, 1) := by decide +kernel
theorem dX5_copyFrom_42 : decode cX5_copyFrom 42 = .ok (.getfield 67, 3) := by decide +kernel
theorem dX5_copyFrom_45 : decode cX5_copyFrom 45 = .ok (.putfield 67, 3) := by decide +kernel
theorem dX5_copyFrom_48 : decode cX5_copyFrom 48 = .ok (.aload_n 0, 1) := by decide +kernel
theorem dX5_copyFrom_49 : decode cX5_copyFrom 49 = .ok (.aload_n 1, 1) := by decide +kernel
theorem dX5_copyFrom_50 : decode cX5_copyFrom 50 = .ok (.getfield 24, 3) := by decide +kernel
theorem dX5_copyFrom_53 : decode cX5_copyFrom 53 = .ok (.putfield 24, 3) := by decide +kernel
theorem dX5_copyFrom_56 : decode cX5_copyFrom 56 = .ok (.aload_n 0, 1) := by decide +kernel
theorem dX5_copyFrom_57 : decode cX5_copyFrom 57 = .ok (.aload_n 1, 1) := by decide +kernel
theorem dX5_copyFrom_58 : decode cX5_copyFrom 58 = .ok (.getfield 58, 3) := by decide +kernel
theorem dX5_copyFrom_61 : decode cX5_copyFrom 61 = .ok (.putfield 58, 3) := by decide +kernel
theorem dX5_copyFrom_64 : decode cX5_copyFrom 64 = .ok (.aload_n 0, 1) := by decide +kernel
theorem dX5_copyFrom_65 : decode cX5_copyFrom 65 = .ok (.aload_n 1, 1) := by decide +kernel
theorem dX5_copyFrom_66 : decode cX5_copyFrom 66 = .ok (.getfield 61, 3) := by decide +kernel
theorem dX5_copyFrom_69 : decode cX5_copyFrom 69 = .ok (.putfield 61, 3) := by decide +kernel
theorem dX5_copyFrom_72 : decode cX5_copyFrom 72 = .ok (.aload_n 0, 1) := by decide +kernel
theorem dX5_copyFrom_73 : decode cX5_copyFrom 73 = .ok (.aload_n 1, 1) := by decide +kernel
theorem dX5_copyFrom_74 : decode cX5_copyFrom 74 = .ok (.getfield 27, 3) := by decide +kernel
theorem dX5_copyFrom_77 : decode cX5_copyFrom 77 = .ok (.putfield 27, 3) := by decide +kernel
theorem dX5_copyFrom_80 : decode cX5_copyFrom 80 = .ok (.aload_n 0, 1) := by decide +kernel
theorem dX5_copyFrom_81 : decode cX5_copyFrom 81 = .ok (.aload_n 1, 1) := by decide +kernel
theorem dX5_copyFrom_82 : decode cX5_copyFrom 82 = .ok (.getfield 30, 3) := by decide +kernel
theorem dX5_copyFrom_85 : decode cX5_copyFrom 85 = .ok (.putfield 30, 3) := by decide +kernel
theorem dX5_copyFrom_88 : decode cX5_copyFrom 88 = .ok (.aload_n 0, 1) := by decide +kernel
theorem dX5_copyFrom_89 : decode cX5_copyFrom 89 = .ok (.aload_n 1, 1) := by decide +kernel
theorem dX5_copyFrom_90 : decode cX5_copyFrom 90 = .ok (.getfield 33, 3) := by decide +kernel
theorem dX5_copyFrom_93 : decode cX5_copyFrom 93 = .ok (.putfield 33, 3) := by decide +kernel
theorem dX5_copyFrom_96 : decode cX5_copyFrom 96 = .ok (.aload_n 0, 1) := by decide +kernel
theorem dX5_copyFrom_97 : decode cX5_copyFrom 97 = .ok (.aload_n 1, 1) := by decide +kernel
theorem dX5_copyFrom_98 : decode cX5_copyFrom 98 = .ok (.getfield 36, 3) := by decide +kernel
theorem dX5_copyFrom_101 : decode cX5_copyFrom 101 = .ok (.putfield 36, 3) := by decide +kernel
theorem dX5_copyFrom_104 : decode cX5_copyFrom 104 = .ok (.aload_n 0, 1) := by decide +kernel
theorem dX5_copyFrom_105 : decode cX5_copyFrom 105 = .ok (.aload_n 1, 1) := by decide +kernel
theorem dX5_copyFrom_106 : decode cX5_copyFrom 106 = .ok (.getfield 39, 3) := by decide +kernel
theorem dX5_copyFrom_109 : decode cX5_copyFrom 109 = .ok (.putfield 39, 3) := by decide +kernel
theorem dX5_copyFrom_112 : decode cX5_copyFrom 112 = .ok (.aload_n 0, 1) := by decide +kernel
theorem dX5_copyFrom_113 : decode cX5_copyFrom 113 = .ok (.aload_n 1, 1) := by decide +kernel
theorem dX5_copyFrom_114 : decode cX5_copyFrom 114 = .ok (.getfield 43, 3) := by decide +kernel
theorem dX5_copyFrom_117 : decode cX5_copyFrom 117 = .ok (.putfield 43, 3) := by decide +kernel
theorem dX5_copyFrom_120 : decode cX5_copyFrom 120 = .ok (.aload_n 0, 1) := by decide +kernel
theorem dX5_copyFrom_121 : decode cX5_copyFrom 121 = .ok (.aload_n 1, 1) := by decide +kernel
theorem dX5_copyFrom_122 : decode cX5_copyFrom 122 = .ok (.getfield 46, 3) := by decide +kernel
theorem dX5_copyFrom_125 : decode cX5_copyFrom 125 = .ok (.putfield 46, 3) := by decide +kernel
theorem dX5_copyFrom_128 : decode cX5_copyFrom 128 = .ok (.aload_n 0, 1) := by decide +kernel
theorem dX5_copyFrom_129 : decode cX5_copyFrom 129 = .ok (.aload_n 1, 1) := by decide +kernel
theorem dX5_copyFrom_130 : decode cX5_copyFrom 130 = .ok (.getfield 49, 3) := by decide +kernel
theorem dX5_copyFrom_133 : decode cX5_copyFrom 133 = .ok (.putfield 49, 3) := by decide +kernel
theorem dX5_copyFrom_136 : decode cX5_copyFrom 136 = .ok (.aload_n 0, 1) := by decide +kernel
theorem dX5_copyFrom_137 : decode cX5_copyFrom 137 = .ok (.aload_n 1, 1) := by decide +kernel
theorem dX5_copyFrom_138 : decode cX5_copyFrom 138 = .ok (.getfield 52, 3) := by decide +kernel
theorem dX5_copyFrom_141 : decode cX5_copyFrom 141 = .ok (.putfield 52, 3) := by decide +kernel
theorem dX5_copyFrom_144 : decode cX5_copyFrom 144 = .ok (.aload_n 0, 1) := by decide +kernel
theorem dX5_copyFrom_145 : decode cX5_copyFrom 145 = .ok (.aload_n 1, 1) := by decide +kernel
theorem dX5_copyFrom_146 : decode cX5_copyFrom 146 = .ok (.getfield 55, 3) := by decide +kernel
theorem dX5_copyFrom_149 : decode cX5_copyFrom 149 = .ok (.putfield 55, 3) := by decide +kernel
theorem dX5_copyFrom_152 : decode cX5_copyFrom 152 = .ok (.return_, 1) := by decide +kernel
theorem dX6_init_0 : decode cX6_init 0 = .ok (.aload_n 0, 1) := by decide +kernel
theorem dX6_init_1 : decode cX6_init 1 = .ok (.invokespecial 3, 3) := by decide +kernel
theorem dX6_init_4 : decode cX6_init 4 = .ok (.aload_n 0, 1) := by decide +kernel
theorem dX6_init_5 : decode cX6_init 5 = .ok (.bipush 12, 2) := by decide +kernel
theorem dX6_init_7 : decode cX6_init 7 = .ok (.newarray .int, 2) := by decide +kernel
theorem dX6_init_9 : decode cX6_init 9 = .ok (.putfield 9, 3) := by decide +kernel
theorem dX6_init_12 : decode cX6_init 12 = .ok (.aload_n 0, 1) := by decide +kernel
theorem dX6_init_13 : decode cX6_init 13 = .ok (.bipush 6, 2) := by decide +kernel
theorem dX6_init_15 : decode cX6_init 15 = .ok (.newarray .int, 2) := by decide +kernel
theorem dX6_init_17 : decode cX6_init 17 = .ok (.putfield 15, 3) := by decide +kernel
theorem dX6_init_20 : decode cX6_init 20 = .ok (.return_, 1) := by decide +kernel
theorem dX6_startShift_0 : decode cX6_startShift 0 = .ok (.aload_n 0, 1) := by decide +kernel
theorem dX6_startShift_1 : decode cX6_startShift 1 = .ok (.iload_n 1, 1) := by decide +kernel
theorem dX6_startShift_2 : decode cX6_startShift 2 = .ok (.putfield 18, 3) := by decide +kernel
theorem dX6_startShift_5 : decode cX6_startShift 5 = .ok (.aload_n 0, 1) := by decide +kernel
theorem dX6_startShift_6 : decode cX6_startShift 6 = .ok (.iload_n 2, 1) := by decide +kernel
theorem dX6_startShift_7 : decode cX6_startShift 7 = .ok (.putfield 22, 3) := by decide +kernel
theorem dX6_startShift_10 : decode cX6_startShift 10 = .ok (.aload_n 0, 1) := by decide +kernel
theorem dX6_startShift_11 : decode cX6_startShift 11 = .ok (.iload_n 3, 1) := by decide +kernel
theorem dX6_startShift_12 : decode cX6_startShift 12 = .ok (.putfield 25, 3) := by decide +kernel
theorem dX6_startShift_15 : decode cX6_startShift 15 = .ok (.aload_n 0, 1) := by decide +kernel
theorem dX6_startShift_16 : decode cX6_startShift 16 = .ok (.iload_n 3, 1) := by decide +kernel
theorem dX6_startShift_17 : decode cX6_startShift 17 = .ok (.putfield 28, 3) := by decide +kernel
theorem dX6_startShift_20 : decode cX6_startShift 20 = .ok (.aload_n 0, 1) := by decide +kernel
theorem dX6_startShift_21 : decode cX6_startShift 21 = .ok (.iload 4, 2) := by decide +kernel
theorem dX6_startShift_23 : decode cX6_startShift 23 = .ok (.putfield 31, 3) := by decide +kernel
theorem dX6_startShift_26 : decode cX6_startShift 26 = .ok (.aload_n 0, 1) := by decide +kernel
theorem dX6_startShift_27 : decode cX6_startShift 27 = .ok (.iconst 0, 1) := by decide +kernel
theorem dX6_startShift_28 : decode cX6_startShift 28 = .ok (.putfield 34, 3) := by decide +kernel
theorem dX6_startShift_31 : decode cX6_startShift 31 = .ok (.aload_n 0, 1) := by decide +kernel
theorem dX6_startShift_32 : decode cX6_startShift 32 = .ok (.iconst (-1), 1) := by decide +kernel
theorem dX6_startShift_33 : decode cX6_startShift 33 = .ok (.putfield 37, 3) := by decide +kernel
theorem dX6_startShift_36 : decode cX6_startShift 36 = .ok (.aload_n 0, 1) := by decide +kernel
theorem dX6_startShift_37 : decode cX6_startShift 37 = .ok (.iconst 0, 1) := by decide +kernel
theorem dX6_startShift_38 : decode cX6_startShift 38 = .ok (.putfield 40, 3) := by decide +kernel
theorem dX6_startShift_41 : decode cX6_startShift 41 = .ok (.aload_n 0, 1) := by decide +kernel
theorem dX6_startShift_42 : decode cX6_startShift 42 = .ok (.iconst 0, 1) := by decide +kernel
theorem dX6_startShift_43 : decode cX6_startShift 43 = .ok (.putfield 43, 3) := by decide +kernel
theorem dX6_startShift_46 : decode cX6_startShift 46 = .ok (.aload_n 0, 1) := by decide +kernel
theorem dX6_startShift_47 : decode cX6_startShift 47 = .ok (.iconst 0, 1) := by decide +kernel
theorem dX6_startShift_48 : decode cX6_startShift 48 = .ok (.putfield 46, 3) := by decide +kernel
theorem dX6_startShift_51 : decode cX6_startShift 51 = .ok (.aload_n 0, 1) := by decide +kernel
theorem dX6_startShift_52 : decode cX6_startShift 52 = .ok (.iconst 0, 1) := by decide +kernel
theorem dX6_startShift_53 : decode cX6_startShift 53 = .ok (.putfield 49, 3) := by decide +kernel
theorem dX6_startShift_56 : decode cX6_startShift 56 = .ok (.aload_n 0, 1) := by decide +kernel
theorem dX6_startShift_57 : decode cX6_startShift 57 = .ok (.iconst 0, 1) := by decide +kernel
theorem dX6_startShift_58 : decode cX6_startShift 58 = .ok (.putfield 52, 3) := by decide +kernel
theorem dX6_startShift_61 : decode cX6_startShift 61 = .ok (.aload_n 0, 1) := by decide +kernel
theorem dX6_startShift_62 : decode cX6_startShift 62 = .ok (.iconst 0, 1) := by decide +kernel
theorem dX6_startShift_63 : decode cX6_startShift 63 = .ok (.putfield 55, 3) := by decide +kernel
theorem dX6_startShift_66 : decode cX6_startShift 66 = .ok (.aload_n 0, 1) := by decide +kernel
theorem dX6_startShift_67 : decode cX6_startShift 67 = .ok (.iconst 0, 1) := by decide +kernel
theorem dX6_startShift_68 : decode cX6_startShift 68 = .ok (.putfield 58, 3) := by decide +kernel
theorem dX6_startShift_71 : decode cX6_startShift 71 = .ok (.aload_n 0, 1) := by decide +kernel
theorem dX6_startShift_72 : decode cX6_startShift 72 = .ok (.iconst 0, 1) := by decide +kernel
theorem dX6_startShift_73 : decode cX6_startShift 73 = .ok (.putfield 61, 3) := by decide +kernel
theorem dX6_startShift_76 : decode cX6_startShift 76 = .ok (.return_, 1) := by decide +kernel
theorem dX6_copyFrom_0 : decode cX6_copyFrom 0 = .ok (.aload_n 0, 1) := by decide +kernel
theorem dX6_copyFrom_1 : decode cX6_copyFrom 1 = .ok (.aload_n 1, 1) := by decide +kernel
theorem dX6_copyFrom_2 : decode cX6_copyFrom 2 = .ok (.getfield 18, 3) := by decide +kernel
theorem dX6_copyFrom_5 : decode cX6_copyFrom 5 = .ok (.putfield 18, 3) := by decide +kernel
theorem dX6_copyFrom_8 : decode cX6_copyFrom 8 = .ok (.aload_n 0, 1) := by decide +kernel
theorem dX6_copyFrom_9 : decode cX6_copyFrom 9 = .ok (.aload_n 1, 1) := by decide +kernel
theorem dX6_copyFrom_10 : decode cX6_copyFrom 10 = .ok (.getfield 22, 3) := by decide +kernel
theorem dX6_copyFrom_13 : decode cX6_copyFrom 13 = .ok (.putfield 22, 3) := by decide +kernel
theorem dX6_copyFrom_16 : decode cX6_copyFrom 16 = .ok (.aload_n 0, 1) := by decide +kernel
theorem dX6_copyFrom_17 : decode cX6_copyFrom 17 = .ok (.aload_n 1, 1) := by decide +kernel
theorem dX6_copyFrom_18 : decode cX6_copyFrom 18 = .ok (.getfield 25, 3) := by decide +kernel
theorem dX6_copyFrom_21 : decode cX6_copyFrom 21 = .ok (.putfield 25, 3) := by decide +kernel
theorem dX6_copyFrom_24 : decode cX6_copyFrom 24 = .ok (.aload_n 0, 1) := by decide +kernel
theorem dX6_copyFrom_25 : decode cX6_copyFrom 25 = .ok (.aload_n 1, 1) := by decide +kernel
theorem dX6_copyFrom_26 : decode cX6_copyFrom 26 = .ok (.getfield 28, 3) := by decide +kernel
theorem dX6_copyFrom_29 : decode cX6_copyFrom 29 = .ok (.putfield 28, 3) := by decide +kernel
theorem dX6_copyFrom_32 : decode cX6_copyFrom 32 = .ok (.aload_n 0, 1) := by decide +kernel
theorem dX6_copyFrom_33 : decode cX6_copyFrom 33 = .ok (.aload_n 1, 1) := by decide +kernel
theorem dX6_copyFrom_34 : decode cX6_copyFrom 34 = .ok (.getfield 31, 3) := by decide +kernel
theorem dX6_copyFrom_37 : decode cX6_copyFrom 37 = .ok (.putfield 31, 3) := by decide +kernel
theorem dX6_copyFrom_40 : decode cX6_copyFrom 40 = .ok (.aload_n 0, 1) := by decide +kernel
theorem dX6_copyFrom_41 : decode cX6_copyFrom 41 = .ok (.aload_n 1, 1) := by decide +kernel
theorem dX6_copyFrom_42 : decode cX6_copyFrom 42 = .ok (.getfield 34, 3) := by decide +kernel
theorem dX6_copyFrom_45 : decode cX6_copyFrom 45 = .ok (.putfield 34, 3) := by decide +kernel
theorem dX6_copyFrom_48 : decode cX6_copyFrom 48 = .ok (.aload_n 0, 1) := by decide +kernel
theorem dX6_copyFrom_49 : decode cX6_copyFrom 49 = .ok (.aload_n 1, 1) := by decide +kernel
theorem dX6_copyFrom_50 : decode cX6_copyFrom 50 = .ok (.getfield 37, 3) := by decide +kernel
theorem dX6_copyFrom_53 : decode cX6_copyFrom 53 = .ok (.putfield 37, 3) := by decide +kernel
theorem dX6_copyFrom_56 : decode cX6_copyFrom 56 = .ok (.aload_n 0, 1) := by decide +kernel
theorem dX6_copyFrom_57 : decode cX6_copyFrom 57 = .ok (.aload_n 1, 1) := by decide +kernel
theorem dX6_copyFrom_58 : decode cX6_copyFrom 58 = .ok (.getfield 40, 3) := by decide +kernel
theorem dX6_copyFrom_61 : decode cX6_copyFrom 61 = .ok (.putfield 40, 3) := by decide +kernel
theorem dX6_copyFrom_64 : decode cX6_copyFrom 64 = .ok (.aload_n 0, 1) := by decide +kernel
theorem dX6_copyFrom_65 : decode cX6_copyFrom 65 = .ok (.aload_n 1, 1) := by decide +kernel
theorem dX6_copyFrom_66 : decode cX6_copyFrom 66 = .ok (.getfield 43, 3) := by decide +kernel
theorem dX6_copyFrom_69 : decode cX6_copyFrom 69 = .ok (.putfield 43, 3) := by decide +kernel
theorem dX6_copyFrom_72 : decode cX6_copyFrom 72 = .ok (.iconst 0, 1) := by decide +kernel
theorem dX6_copyFrom_73 : decode cX6_copyFrom 73 = .ok (.istore_n 2, 1) := by decide +kernel
theorem dX6_copyFrom_74 : decode cX6_copyFrom 74 = .ok (.iload_n 2, 1) := by decide +kernel
theorem dX6_copyFrom_75 : decode cX6_copyFrom 75 = .ok (.bipush 12, 2) := by decide +kernel
theorem dX6_copyFrom_77 : decode cX6_copyFrom 77 = .ok (.if_icmp .ge 21, 3) := by decide +kernel
theorem dX6_copyFrom_80 : decode cX6_copyFrom 80 = .ok (.aload_n 0, 1) := by decide +kernel
theorem dX6_copyFrom_81 : decode cX6_copyFrom 81 = .ok (.getfield 9, 3) := by decide +kernel
theorem dX6_copyFrom_84 : decode cX6_copyFrom 84 = .ok (.iload_n 2, 1) := by decide +kernel
theorem dX6_copyFrom_85 : decode cX6_copyFrom 85 = .ok (.aload_n 1, 1) := by decide +kernel
theorem dX6_copyFrom_86 : decode cX6_copyFrom 86 = .ok (.getfield 9, 3) := by decide +kernel
theorem dX6_copyFrom_89 : decode cX6_copyFrom 89 = .ok (.iload_n 2, 1) := by decide +kernel
theorem dX6_copyFrom_90 : decode cX6_copyFrom 90 = .ok (.iaload, 1) := by decide +kernel
theorem dX6_copyFrom_91 : decode cX6_copyFrom 91 = .ok (.iastore, 1) := by decide +kernel
theorem dX6_copyFrom_92 : decode cX6_copyFrom 92 = .ok (.iinc 2 1, 3) := by decide +kernel
theorem dX6_copyFrom_95 : decode cX6_copyFrom 95 = .ok (.goto (-21), 3) := by decide +kernel
theorem dX6_copyFrom_98 : decode cX6_copyFrom 98 = .ok (.iconst 0, 1) := by decide +kernel
theorem dX6_copyFrom_99 : decode cX6_copyFrom 99 = .ok (.istore_n 2, 1) := by decide +kernel
theorem dX6_copyFrom_100 : decode cX6_copyFrom 100 = .ok (.iload_n 2, 1) := by decide +kernel
theorem dX6_copyFrom_101 : decode cX6_copyFrom 101 = .ok (.bipush 6, 2) := by decide +kernel
theorem dX6_copyFrom_103 : decode cX6_copyFrom 103 = .ok (.if_icmp .ge 21, 3) := by decide +kernel
theorem dX6_copyFrom_106 : decode cX6_copyFrom 106 = .ok (.aload_n 0, 1) := by decide +kernel
theorem dX6_copyFrom_107 : decode cX6_copyFrom 107 = .ok (.getfield 15, 3) := by decide +kernel
theorem dX6_copyFrom_110 : decode cX6_copyFrom 110 = .ok (.iload_n 2, 1) := by decide +kernel
theorem dX6_copyFrom_111 : decode cX6_copyFrom 111 = .ok (.aload_n 1, 1) := by decide +kernel
theorem dX6_copyFrom_112 : decode cX6_copyFrom 112 = .ok (.getfield 15, 3) := by decide +kernel
theorem dX6_copyFrom_115 : decode cX6_copyFrom 115 = .ok (.iload_n 2, 1) := by decide +kernel
theorem dX6_copyFrom_116 : decode cX6_copyFrom 116 = .ok (.iaload, 1) := by decide +kernel
theorem dX6_copyFrom_117 : decode cX6_copyFrom 117 = .ok (.iastore, 1) := by decide +kernel
theorem dX6_copyFrom_118 : decode cX6_copyFrom 118 = .ok (.iinc 2 1, 3) := by decide +kernel
theorem dX6_copyFrom_121 : decode cX6_copyFrom 121 = .ok (.goto (-21), 3) := by decide +kernel
theorem dX6_copyFrom_124 : decode cX6_copyFrom 124 = .ok (.aload_n 0, 1) := by decide +kernel
theorem dX6_copyFrom_125 : decode cX6_copyFrom 125 = .ok (.aload_n 1, 1) := by decide +kernel
theorem dX6_copyFrom_126 : decode cX6_copyFrom 126 = .ok (.getfield 46, 3) := by decide +kernel
theorem dX6_copyFrom_129 : decode cX6_copyFrom 129 = .ok (.putfield 46, 3) := by decide +kernel
theorem dX6_copyFrom_132 : decode cX6_copyFrom 132 = .ok (.aload_n 0, 1) := by decide +kernel
theorem dX6_copyFrom_133 : decode cX6_copyFrom 133 = .ok (.aload_n 1, 1) := by decide +kernel
theorem dX6_copyFrom_134 : decode cX6_copyFrom 134 = .ok (.getfield 49, 3) := by decide +kernel
theorem dX6_copyFrom_137 : decode cX6_copyFrom 137 = .ok (.putfield 49, 3) := by decide +kernel
theorem dX6_copyFrom_140 : decode cX6_copyFrom 140 = .ok (.aload_n 0, 1) := by decide +kernel
theorem dX6_copyFrom_141 : decode cX6_copyFrom 141 = .ok (.aload_n 1, 1) := by decide +kernel
theorem dX6_copyFrom_142 : decode cX6_copyFrom 142 = .ok (.getfield 52, 3) := by decide +kernel
theorem dX6_copyFrom_145 : decode cX6_copyFrom 145 = .ok (.putfield 52, 3) := by decide +kernel
theorem dX6_copyFrom_148 : decode cX6_copyFrom 148 = .ok (.aload_n 0, 1) := by decide +kernel
theorem dX6_copyFrom_149 : decode cX6_copyFrom 149 = .ok (.aload_n 1, 1) := by decide +kernel
theorem dX6_copyFrom_150 : decode cX6_copyFrom 150 = .ok (.getfield 55, 3) := by decide +kernel
theorem dX6_copyFrom_153 : decode cX6_copyFrom 153 = .ok (.putfield 55, 3) := by decide +kernel
theorem dX6_copyFrom_156 : decode cX6_copyFrom 156 = .ok (.aload_n 0, 1) := by decide +kernel
theorem dX6_copyFrom_157 : decode cX6_copyFrom 157 = .ok (.aload_n 1, 1) := by decide +kernel
theorem dX6_copyFrom_158 : decode cX6_copyFrom 158 = .ok (.getfield 58, 3) := by decide +kernel
theorem dX6_copyFrom_161 : decode cX6_copyFrom 161 = .ok (.putfield 58, 3) := by decide +kernel
theorem dX6_copyFrom_164 : decode cX6_copyFrom 164 = .ok (.aload_n 0, 1) := by decide +kernel
theorem dX6_copyFrom_165 : decode cX6_copyFrom 165 = .ok (.aload_n 1, 1) := by decide +kernel
theorem dX6_copyFrom_166 : decode cX6_copyFrom 166 = .ok (.getfield 61, 3) := by decide +kernel
theorem dX6_copyFrom_169 : decode cX6_copyFrom 169 = .ok (.putfield 61, 3) := by decide +kernel
theorem dX6_copyFrom_172 : decode cX6_copyFrom 172 = .ok (.return_, 1) := by decide +kernel
theorem dX6_stopAt_0 : decode cX6_stopAt 0 = .ok (.iload_n 1, 1) := by decide +kernel
theorem dX6_stopAt_1 : decode cX6_stopAt 1 = .ok (.ifCond .lt 26, 3) := by decide +kernel
theorem dX6_stopAt_4 : decode cX6_stopAt 4 = .ok (.iload_n 1, 1) := by decide +kernel
theorem dX6_stopAt_5 : decode cX6_stopAt 5 = .ok (.aload_n 0, 1) := by decide +kernel
theorem dX6_stopAt_6 : decode cX6_stopAt 6 = .ok (.getfield 40, 3) := by decide +kernel
theorem dX6_stopAt_9 : decode cX6_stopAt 9 = .ok (.if_icmp .ge 18, 3) := by decide +kernel
theorem dX6_stopAt_12 : decode cX6_stopAt 12 = .ok (.iload_n 1, 1) := by decide +kernel
theorem dX6_stopAt_13 : decode cX6_stopAt 13 = .ok (.bipush 12, 2) := by decide +kernel
theorem dX6_stopAt_15 : decode cX6_stopAt 15 = .ok (.if_icmp .ge 12, 3) := by decide +kernel
theorem dX6_stopAt_18 : decode cX6_stopAt 18 = .ok (.aload_n 0, 1) := by decide +kernel
theorem dX6_stopAt_19 : decode cX6_stopAt 19 = .ok (.getfield 9, 3) := by decide +kernel
theorem dX6_stopAt_22 : decode cX6_stopAt 22 = .ok (.iload_n 1, 1) := by decide +kernel
theorem dX6_stopAt_23 : decode cX6_stopAt 23 = .ok (.iaload, 1) := by decide +kernel
theorem dX6_stopAt_24 : decode cX6_stopAt 24 = .ok (.goto 4, 3) := by decide +kernel
theorem dX6_stopAt_27 : decode cX6_stopAt 27 = .ok (.iconst (-1), 1) := by decide +kernel
theorem dX6_stopAt_28 : decode cX6_stopAt 28 = .ok (.ireturn, 1) := by decide +kernel
theorem dX6_insertStop_0 : decode cX6_insertStop 0 = .ok (.iload_n 1, 1) := by decide +kernel
theorem dX6_insertStop_1 : decode cX6_insertStop 1 = .ok (.ifCond .lt 27, 3) := by decide +kernel
theorem dX6_insertStop_4 : decode cX6_insertStop 4 = .ok (.iload_n 1, 1) := by decide +kernel
theorem dX6_insertStop_5 : decode cX6_insertStop 5 = .ok (.aload_n 0, 1) := by decide +kernel
theorem dX6_insertStop_6 : decode cX6_insertStop 6 = .ok (.getfield 40, 3) := by decide +kernel
theorem dX6_insertStop_9 : decode cX6_insertStop 9 = .ok (.if_icmp .gt 19, 3) := by decide +kernel
theorem dX6_insertStop_12 : decode cX6_insertStop 12 = .ok (.aload_n 0, 1) := by decide +kernel
theorem dX6_insertStop_13 : decode cX6_insertStop 13 = .ok (.getfield 40, 3) := by decide +kernel
theorem dX6_insertStop_16 : decode cX6_insertStop 16 = .ok (.ifCond .lt 12, 3) := by decide +kernel
theorem dX6_insertStop_19 : decode cX6_insertStop 19 = .ok (.aload_n 0, 1) := by decide +kernel
theorem dX6_insertStop_20 : decode cX6_insertStop 20 = .ok (.getfield 40, 3) := by decide +kernel
theorem dX6_insertStop_23 : decode cX6_insertStop 23 = .ok (.bipush 12, 2) := by decide +kernel
theorem dX6_insertStop_25 : decode cX6_insertStop 25 = .ok (.if_icmp .lt 4, 3) := by decide +kernel
theorem dX6_insertStop_28 : decode cX6_insertStop 28 = .ok (.return_, 1) := by decide +kernel
theorem dX6_insertStop_29 : decode cX6_insertStop 29 = .ok (.aload_n 0, 1) := by decide +kernel
theorem dX6_insertStop_30 : decode cX6_insertStop 30 = .ok (.getfield 40, 3) := by decide +kernel
theorem dX6_insertStop_33 : decode cX6_insertStop 33 = .ok (.istore_n 3, 1) := by decide +kernel
theorem dX6_insertStop_34 : decode cX6_insertStop 34 = .ok (.iload_n 3, 1) := by decide +kernel
theorem dX6_insertStop_35 : decode cX6_insertStop 35 = .ok (.iload_n 1, 1) := by decide +kernel
theorem dX6_insertStop_36 : decode cX6_insertStop 36 = .ok (.if_icmp .le 23, 3) := by decide +kernel
theorem dX6_insertStop_39 : decode cX6_insertStop 39 = .ok (.aload_n 0, 1) := by decide +kernel
theorem dX6_insertStop_40 : decode cX6_insertStop 40 = .ok (.getfield 9, 3) := by decide +kernel
theorem dX6_insertStop_43 : decode cX6_insertStop 43 = .ok (.iload_n 3, 1) := by decide +kernel
theorem dX6_insertStop_44 : decode cX6_insertStop 44 = .ok (.aload_n 0, 1) := by decide +kernel
theorem dX6_insertStop_45 : decode cX6_insertStop 45 = .ok (.getfield 9, 3) := by decide +kernel
theorem dX6_insertStop_48 : decode cX6_insertStop 48 = .ok (.iload_n 3, 1) := by decide +kernel
theorem dX6_insertStop_49 : decode cX6_insertStop 49 = .ok (.iconst 1, 1) := by decide +kernel
theorem dX6_insertStop_50 : decode cX6_insertStop 50 = .ok (.isub, 1) := by decide +kernel
theorem dX6_insertStop_51 : decode cX6_insertStop 51 = .ok (.iaload, 1) := by decide +kernel
theorem dX6_insertStop_52 : decode cX6_insertStop 52 = .ok (.iastore, 1) := by decide +kernel
theorem dX6_insertStop_53 : decode cX6_insertStop 53 = .ok (.iinc 3 (-1), 3) := by decide +kernel
theorem dX6_insertStop_56 : decode cX6_insertStop 56 = .ok (.goto (-22), 3) := by decide +kernel
theorem dX6_insertStop_59 : decode cX6_insertStop 59 = .ok (.aload_n 0, 1) := by decide +kernel
theorem dX6_insertStop_60 : decode cX6_insertStop 60 = .ok (.getfield 9, 3) := by decide +kernel
theorem dX6_insertStop_63 : decode cX6_insertStop 63 = .ok (.iload_n 1, 1) := by decide +kernel
theorem dX6_insertStop_64 : decode cX6_insertStop 64 = .ok (.iload_n 2, 1) := by decide +kernel
theorem dX6_insertStop_65 : decode cX6_insertStop 65 = .ok (.iastore, 1) := by decide +kernel
theorem dX6_insertStop_66 : decode cX6_insertStop 66 = .ok (.aload_n 0, 1) := by decide +kernel
theorem dX6_insertStop_67 : decode cX6_insertStop 67 = .ok (.dup, 1) := by decide +kernel
theorem dX6_insertStop_68 : decode cX6_insertStop 68 = .ok (.getfield 40, 3) := by decide +kernel
theorem dX6_insertStop_71 : decode cX6_insertStop 71 = .ok (.iconst 1, 1) := by decide +kernel
theorem dX6_insertStop_72 : decode cX6_insertStop 72 = .ok (.iadd, 1) := by decide +kernel
theorem dX6_insertStop_73 : decode cX6_insertStop 73 = .ok (.putfield 40, 3) := by decide +kernel
theorem dX6_insertStop_76 : decode cX6_insertStop 76 = .ok (.return_, 1) := by decide +kernel
theorem dX6_removeStop_0 : decode cX6_removeStop 0 = .ok (.iconst 0, 1) := by decide +kernel
theorem dX6_removeStop_1 : decode cX6_removeStop 1 = .ok (.istore_n 2, 1) := by decide +kernel
theorem dX6_removeStop_2 : decode cX6_removeStop 2 = .ok (.iconst 0, 1) := by decide +kernel
theorem dX6_removeStop_3 : decode cX6_removeStop 3 = .ok (.istore_n 3, 1) := by decide +kernel
theorem dX6_removeStop_4 : decode cX6_removeStop 4 = .ok (.iload_n 3, 1) := by decide +kernel
theorem dX6_removeStop_5 : decode cX6_removeStop 5 = .ok (.aload_n 0, 1) := by decide +kernel
theorem dX6_removeStop_6 : decode cX6_removeStop 6 = .ok (.getfield 40, 3) := by decide +kernel
theorem dX6_removeStop_9 : decode cX6_removeStop 9 = .ok (.if_icmp .ge 40, 3) := by decide +kernel
theorem dX6_removeStop_12 : decode cX6_removeStop 12 = .ok (.iload_n 3, 1) := by decide +kernel
theorem dX6_removeStop_13 : decode cX6_removeStop 13 = .ok (.bipush 12, 2) := by decide +kernel
theorem dX6_removeStop_15 : decode cX6_removeStop 15 = .ok (.if_icmp .ge 34, 3) := by decide +kernel
theorem dX6_removeStop_18 : decode cX6_removeStop 18 = .ok (.aload_n 0, 1) := by decide +kernel
theorem dX6_removeStop_19 : decode cX6_removeStop 19 = .ok (.getfield 9, 3) := by decide +kernel
theorem dX6_removeStop_22 : decode cX6_removeStop 22 = .ok (.iload_n 3, 1) := by decide +kernel
theorem dX6_removeStop_23 : decode cX6_removeStop 23 = .ok (.iaload, 1) := by decide +kernel
theorem dX6_removeStop_24 : decode cX6_removeStop 24 = .ok (.iload_n 1, 1) := by decide +kernel
theorem dX6_removeStop_25 : decode cX6_removeStop 25 = .ok (.if_icmp .eq 18, 3) := by decide +kernel
theorem dX6_removeStop_28 : decode cX6_removeStop 28 = .ok (.aload_n 0, 1) := by decide +kernel
theorem dX6_removeStop_29 : decode cX6_removeStop 29 = .ok (.getfield 9, 3) := by decide +kernel
theorem dX6_removeStop_32 : decode cX6_removeStop 32 = .ok (.iload_n 2, 1) := by decide +kernel
theorem dX6_removeStop_33 : decode cX6_removeStop 33 = .ok (.aload_n 0, 1) := by decide +kernel
theorem dX6_removeStop_34 : decode cX6_removeStop 34 = .ok (.getfield 9, 3) := by decide +kernel
theorem dX6_removeStop_37 : decode cX6_removeStop 37 = .ok (.iload_n 3, 1) := by decide +kernel
theorem dX6_removeStop_38 : decode cX6_removeStop 38 = .ok (.iaload, 1) := by decide +kernel
theorem dX6_removeStop_39 : decode cX6_removeStop 39 = .ok (.iastore, 1) := by decide +kernel
theorem dX6_removeStop_40 : decode cX6_removeStop 40 = .ok (.iinc 2 1, 3) := by decide +kernel
theorem dX6_removeStop_43 : decode cX6_removeStop 43 = .ok (.iinc 3 1, 3) := by decide +kernel
theorem dX6_removeStop_46 : decode cX6_removeStop 46 = .ok (.goto (-42), 3) := by decide +kernel
theorem dX6_removeStop_49 : decode cX6_removeStop 49 = .ok (.aload_n 0, 1) := by decide +kernel
theorem dX6_removeStop_50 : decode cX6_removeStop 50 = .ok (.iload_n 2, 1) := by decide +kernel
theorem dX6_removeStop_51 : decode cX6_removeStop 51 = .ok (.putfield 40, 3) := by decide +kernel
theorem dX6_removeStop_54 : decode cX6_removeStop 54 = .ok (.return_, 1) := by decide +kernel
theorem dX6_partyAt_0 : decode cX6_partyAt 0 = .ok (.iload_n 1, 1) := by decide +kernel
theorem dX6_partyAt_1 : decode cX6_partyAt 1 = .ok (.ifCond .lt 26, 3) := by decide +kernel
theorem dX6_partyAt_4 : decode cX6_partyAt 4 = .ok (.iload_n 1, 1) := by decide +kernel
theorem dX6_partyAt_5 : decode cX6_partyAt 5 = .ok (.aload_n 0, 1) := by decide +kernel
theorem dX6_partyAt_6 : decode cX6_partyAt 6 = .ok (.getfield 43, 3) := by decide +kernel
theorem dX6_partyAt_9 : decode cX6_partyAt 9 = .ok (.if_icmp .ge 18, 3) := by decide +kernel
theorem dX6_partyAt_12 : decode cX6_partyAt 12 = .ok (.iload_n 1, 1) := by decide +kernel
theorem dX6_partyAt_13 : decode cX6_partyAt 13 = .ok (.bipush 6, 2) := by decide +kernel
theorem dX6_partyAt_15 : decode cX6_partyAt 15 = .ok (.if_icmp .ge 12, 3) := by decide +kernel
theorem dX6_partyAt_18 : decode cX6_partyAt 18 = .ok (.aload_n 0, 1) := by decide +kernel
theorem dX6_partyAt_19 : decode cX6_partyAt 19 = .ok (.getfield 15, 3) := by decide +kernel
theorem dX6_partyAt_22 : decode cX6_partyAt 22 = .ok (.iload_n 1, 1) := by decide +kernel
theorem dX6_partyAt_23 : decode cX6_partyAt 23 = .ok (.iaload, 1) := by decide +kernel
theorem dX6_partyAt_24 : decode cX6_partyAt 24 = .ok (.goto 4, 3) := by decide +kernel
theorem dX6_partyAt_27 : decode cX6_partyAt 27 = .ok (.iconst (-1), 1) := by decide +kernel
theorem dX6_partyAt_28 : decode cX6_partyAt 28 = .ok (.ireturn, 1) := by decide +kernel
theorem dX6_takeAboard_0 : decode cX6_takeAboard 0 = .ok (.aload_n 0, 1) := by decide +kernel
theorem dX6_takeAboard_1 : decode cX6_takeAboard 1 = .ok (.getfield 43, 3) := by decide +kernel
theorem dX6_takeAboard_4 : decode cX6_takeAboard 4 = .ok (.ifCond .lt 32, 3) := by decide +kernel
theorem dX6_takeAboard_7 : decode cX6_takeAboard 7 = .ok (.aload_n 0, 1) := by decide +kernel
theorem dX6_takeAboard_8 : decode cX6_takeAboard 8 = .ok (.getfield 43, 3) := by decide +kernel
theorem dX6_takeAboard_11 : decode cX6_takeAboard 11 = .ok (.bipush 6, 2) := by decide +kernel
theorem dX6_takeAboard_13 : decode cX6_takeAboard 13 = .ok (.if_icmp .ge 23, 3) := by decide +kernel
theorem dX6_takeAboard_16 : decode cX6_takeAboard 16 = .ok (.aload_n 0, 1) := by decide +kernel
theorem dX6_takeAboard_17 : decode cX6_takeAboard 17 = .ok (.getfield 15, 3) := by decide +kernel
theorem dX6_takeAboard_20 : decode cX6_takeAboard 20 = .ok (.aload_n 0, 1) := by decide +kernel
theorem dX6_takeAboard_21 : decode cX6_takeAboard 21 = .ok (.getfield 43, 3) := by decide +kernel
theorem dX6_takeAboard_24 : decode cX6_takeAboard 24 = .ok (.iload_n 1, 1) := by decide +kernel
theorem dX6_takeAboard_25 : decode cX6_takeAboard 25 = .ok (.iastore, 1) := by decide +kernel
theorem dX6_takeAboard_26 : decode cX6_takeAboard 26 = .ok (.aload_n 0, 1) := by decide +kernel
theorem dX6_takeAboard_27 : decode cX6_takeAboard 27 = .ok (.dup, 1) := by decide +kernel
theorem dX6_takeAboard_28 : decode cX6_takeAboard 28 = .ok (.getfield 43, 3) := by decide +kernel
theorem dX6_takeAboard_31 : decode cX6_takeAboard 31 = .ok (.iconst 1, 1) := by decide +kernel
theorem dX6_takeAboard_32 : decode cX6_takeAboard 32 = .ok (.iadd, 1) := by decide +kernel
theorem dX6_takeAboard_33 : decode cX6_takeAboard 33 = .ok (.putfield 43, 3) := by decide +kernel
theorem dX6_takeAboard_36 : decode cX6_takeAboard 36 = .ok (.return_, 1) := by decide +kernel
theorem dX6_letOut_0 : decode cX6_letOut 0 = .ok (.iconst 0, 1) := by decide +kernel
theorem dX6_letOut_1 : decode cX6_letOut 1 = .ok (.istore_n 2, 1) := by decide +kernel
theorem dX6_letOut_2 : decode cX6_letOut 2 = .ok (.iconst 0, 1) := by decide +kernel
theorem dX6_letOut_3 : decode cX6_letOut 3 = .ok (.istore_n 3, 1) := by decide +kernel
theorem dX6_letOut_4 : decode cX6_letOut 4 = .ok (.iload_n 3, 1) := by decide +kernel
theorem dX6_letOut_5 : decode cX6_letOut 5 = .ok (.aload_n 0, 1) := by decide +kernel
theorem dX6_letOut_6 : decode cX6_letOut 6 = .ok (.getfield 43, 3) := by decide +kernel
theorem dX6_letOut_9 : decode cX6_letOut 9 = .ok (.if_icmp .ge 40, 3) := by decide +kernel
theorem dX6_letOut_12 : decode cX6_letOut 12 = .ok (.iload_n 3, 1) := by decide +kernel
theorem dX6_letOut_13 : decode cX6_letOut 13 = .ok (.bipush 6, 2) := by decide +kernel
theorem dX6_letOut_15 : decode cX6_letOut 15 = .ok (.if_icmp .ge 34, 3) := by decide +kernel
theorem dX6_letOut_18 : decode cX6_letOut 18 = .ok (.aload_n 0, 1) := by decide +kernel
theorem dX6_letOut_19 : decode cX6_letOut 19 = .ok (.getfield 15, 3) := by decide +kernel
theorem dX6_letOut_22 : decode cX6_letOut 22 = .ok (.iload_n 3, 1) := by decide +kernel
theorem dX6_letOut_23 : decode cX6_letOut 23 = .ok (.iaload, 1) := by decide +kernel
theorem dX6_letOut_24 : decode cX6_letOut 24 = .ok (.iload_n 1, 1) := by decide +kernel
theorem dX6_letOut_25 : decode cX6_letOut 25 = .ok (.if_icmp .eq 18, 3) := by decide +kernel
theorem dX6_letOut_28 : decode cX6_letOut 28 = .ok (.aload_n 0, 1) := by decide +kernel
theorem dX6_letOut_29 : decode cX6_letOut 29 = .ok (.getfield 15, 3) := by decide +kernel
theorem dX6_letOut_32 : decode cX6_letOut 32 = .ok (.iload_n 2, 1) := by decide +kernel
theorem dX6_letOut_33 : decode cX6_letOut 33 = .ok (.aload_n 0, 1) := by decide +kernel
theorem dX6_letOut_34 : decode cX6_letOut 34 = .ok (.getfield 15, 3) := by decide +kernel
theorem dX6_letOut_37 : decode cX6_letOut 37 = .ok (.iload_n 3, 1) := by decide +kernel
theorem dX6_letOut_38 : decode cX6_letOut 38 = .ok (.iaload, 1) := by decide +kernel
theorem dX6_letOut_39 : decode cX6_letOut 39 = .ok (.iastore, 1) := by decide +kernel
theorem dX6_letOut_40 : decode cX6_letOut 40 = .ok (.iinc 2 1, 3) := by decide +kernel
theorem dX6_letOut_43 : decode cX6_letOut 43 = .ok (.iinc 3 1, 3) := by decide +kernel
theorem dX6_letOut_46 : decode cX6_letOut 46 = .ok (.goto (-42), 3) := by decide +kernel
theorem dX6_letOut_49 : decode cX6_letOut 49 = .ok (.aload_n 0, 1) := by decide +kernel
theorem dX6_letOut_50 : decode cX6_letOut 50 = .ok (.iload_n 2, 1) := by decide +kernel
theorem dX6_letOut_51 : decode cX6_letOut 51 = .ok (.putfield 43, 3) := by decide +kernel
theorem dX6_letOut_54 : decode cX6_letOut 54 = .ok (.return_, 1) := by decide +kernel
theorem dX7_init_0 : decode cX7_init 0 = .ok (.aload_n 0, 1) := by decide +kernel
theorem dX7_init_1 : decode cX7_init 1 = .ok (.invokespecial 3, 3) := by decide +kernel
theorem dX7_init_4 : decode cX7_init 4 = .ok (.aload_n 0, 1) := by decide +kernel
theorem dX7_init_5 : decode cX7_init 5 = .ok (.new 9, 3) := by decide +kernel
theorem dX7_init_8 : decode cX7_init 8 = .ok (.dup, 1) := by decide +kernel
theorem dX7_init_9 : decode cX7_init 9 = .ok (.invokespecial 11, 3) := by decide +kernel
theorem dX7_init_12 : decode cX7_init 12 = .ok (.putfield 12, 3) := by decide +kernel
theorem dX7_init_15 : decode cX7_init 15 = .ok (.aload_n 0, 1) := by decide +kernel
theorem dX7_init_16 : decode cX7_init 16 = .ok (.new 18, 3) := by decide +kernel
theorem dX7_init_19 : decode cX7_init 19 = .ok (.dup, 1) := by decide +kernel
theorem dX7_init_20 : decode cX7_init 20 = .ok (.invokespecial 20, 3) := by decide +kernel
theorem dX7_init_23 : decode cX7_init 23 = .ok (.putfield 21, 3) := by decide +kernel
theorem dX7_init_26 : decode cX7_init 26 = .ok (.aload_n 0, 1) := by decide +kernel
theorem dX7_init_27 : decode cX7_init 27 = .ok (.aload_n 1, 1) := by decide +kernel
theorem dX7_init_28 : decode cX7_init 28 = .ok (.putfield 25, 3) := by decide +kernel
theorem dX7_init_31 : decode cX7_init 31 = .ok (.return_, 1) := by decide +kernel
theorem dX7_readText_0 : decode cX7_readText 0 = .ok (.aload_n 0, 1) := by decide +kernel
theorem dX7_readText_1 : decode cX7_readText 1 = .ok (.getfield 21, 3) := by decide +kernel
theorem dX7_readText_4 : decode cX7_readText 4 = .ok (.invokevirtual 29, 3) := by decide +kernel
theorem dX7_readText_7 : decode cX7_readText 7 = .ok (.aload_n 0, 1) := by decide +kernel
theorem dX7_readText_8 : decode cX7_readText 8 = .ok (.getfield 25, 3) := by decide +kernel
theorem dX7_readText_11 : decode cX7_readText 11 = .ok (.iconst 0, 1) := by decide +kernel
theorem dX7_readText_12 : decode cX7_readText 12 = .ok (.iconst 0, 1) := by decide +kernel
theorem dX7_readText_13 : decode cX7_readText 13 = .ok (.invokevirtual 34, 3) := by decide +kernel
theorem dX7_readText_16 : decode cX7_readText 16 = .ok (.pop, 1) := by decide +kernel
theorem dX7_readText_17 : decode cX7_readText 17 = .ok (.aload_n 0, 1) := by decide +kernel
theorem dX7_readText_18 : decode cX7_readText 18 = .ok (.getfield 12, 3) := by decide +kernel
theorem dX7_readText_21 : decode cX7_readText 21 = .ok (.aload_n 0, 1) := by decide +kernel
theorem dX7_readText_22 : decode cX7_readText 22 = .ok (.getfield 25, 3) := by decide +kernel
theorem dX7_readText_25 : decode cX7_readText 25 = .ok (.iconst 2, 1) := by decide +kernel
theorem dX7_readText_26 : decode cX7_readText 26 = .ok (.bipush 8, 2) := by decide +kernel
theorem dX7_readText_28 : decode cX7_readText 28 = .ok (.invokevirtual 38, 3) := by decide +kernel
theorem dX7_readText_31 : decode cX7_readText 31 = .ok (.invokevirtual 41, 3) := by decide +kernel
theorem dX7_readText_34 : decode cX7_readText 34 = .ok (.aload_n 0, 1) := by decide +kernel
theorem dX7_readText_35 : decode cX7_readText 35 = .ok (.getfield 25, 3) := by decide +kernel
theorem dX7_readText_38 : decode cX7_readText 38 = .ok (.bipush 59, 2) := by decide +kernel
theorem dX7_readText_40 : decode cX7_readText 40 = .ok (.invokevirtual 44, 3) := by decide +kernel
theorem dX7_readText_43 : decode cX7_readText 43 = .ok (.iconst 0, 1) := by decide +kernel
theorem dX7_readText_44 : decode cX7_readText 44 = .ok (.istore_n 1, 1) := by decide +kernel
theorem dX7_readText_45 : decode cX7_readText 45 = .ok (.iload_n 1, 1) := by decide +kernel
theorem dX7_readText_46 : decode cX7_readText 46 = .ok (.sipush 800, 3) := by decide +kernel
theorem dX7_readText_49 : decode cX7_readText 49 = .ok (.if_icmp .ge 23, 3) := by decide +kernel
theorem dX7_readText_52 : decode cX7_readText 52 = .ok (.aload_n 0, 1) := by decide +kernel
theorem dX7_readText_53 : decode cX7_readText 53 = .ok (.getfield 25, 3) := by decide +kernel
theorem dX7_readText_56 : decode cX7_readText 56 = .ok (.invokevirtual 48, 3) := by decide +kernel
theorem dX7_readText_59 : decode cX7_readText 59 = .ok (.ifCond .eq 13, 3) := by decide +kernel
theorem dX7_readText_62 : decode cX7_readText 62 = .ok (.aload_n 0, 1) := by decide +kernel
theorem dX7_readText_63 : decode cX7_readText 63 = .ok (.invokevirtual 52, 3) := by decide +kernel
theorem dX7_readText_66 : decode cX7_readText 66 = .ok (.iinc 1 1, 3) := by decide +kernel
theorem dX7_readText_69 : decode cX7_readText 69 = .ok (.goto (-24), 3) := by decide +kernel
theorem dX7_readText_72 : decode cX7_readText 72 = .ok (.aload_n 0, 1) := by decide +kernel
theorem dX7_readText_73 : decode cX7_readText 73 = .ok (.getfield 12, 3) := by decide +kernel
theorem dX7_readText_76 : decode cX7_readText 76 = .ok (.invokevirtual 55, 3) := by decide +kernel
theorem dX7_readText_79 : decode cX7_readText 79 = .ok (.return_, 1) := by decide +kernel
theorem dX7_readClause_0 : decode cX7_readClause 0 = .ok (.aload_n 0, 1) := by decide +kernel
theorem dX7_readClause_1 : decode cX7_readClause 1 = .ok (.getfield 25, 3) := by decide +kernel
theorem dX7_readClause_4 : decode cX7_readClause 4 = .ok (.iconst 5, 1) := by decide +kernel
theorem dX7_readClause_5 : decode cX7_readClause 5 = .ok (.invokevirtual 58, 3) := by decide +kernel
theorem dX7_readClause_8 : decode cX7_readClause 8 = .ok (.ifCond .eq 22, 3) := by decide +kernel
theorem dX7_readClause_11 : decode cX7_readClause 11 = .ok (.aload_n 0, 1) := by decide +kernel
theorem dX7_readClause_12 : decode cX7_readClause 12 = .ok (.getfield 21, 3) := by decide +kernel
theorem dX7_readClause_15 : decode cX7_readClause 15 = .ok (.getfield 62, 3) := by decide +kernel
theorem dX7_readClause_18 : decode cX7_readClause 18 = .ok (.iconst 4, 1) := by decide +kernel
theorem dX7_readClause_19 : decode cX7_readClause 19 = .ok (.if_icmp .lt 11, 3) := by decide +kernel
theorem dX7_readClause_22 : decode cX7_readClause 22 = .ok (.aload_n 0, 1) := by decide +kernel
theorem dX7_readClause_23 : decode cX7_readClause 23 = .ok (.getfield 25, 3) := by decide +kernel
theorem dX7_readClause_26 : decode cX7_readClause 26 = .ok (.iconst 3, 1) := by decide +kernel
theorem dX7_readClause_27 : decode cX7_readClause 27 = .ok (.invokevirtual 66, 3) := by decide +kernel
theorem dX7_readClause_30 : decode cX7_readClause 30 = .ok (.aload_n 0, 1) := by decide +kernel
theorem dX7_readClause_31 : decode cX7_readClause 31 = .ok (.getfield 25, 3) := by decide +kernel
theorem dX7_readClause_34 : decode cX7_readClause 34 = .ok (.iconst 1, 1) := by decide +kernel
theorem dX7_readClause_35 : decode cX7_readClause 35 = .ok (.iconst 5, 1) := by decide +kernel
theorem dX7_readClause_36 : decode cX7_readClause 36 = .ok (.invokevirtual 34, 3) := by decide +kernel
theorem dX7_readClause_39 : decode cX7_readClause 39 = .ok (.tableswitch 128 1 5 #[33, 40, 79, 100, 121], 33) := by decide +kernel
theorem dX7_readClause_72 : decode cX7_readClause 72 = .ok (.aload_n 0, 1) := by decide +kernel
theorem dX7_readClause_73 : decode cX7_readClause 73 = .ok (.invokevirtual 69, 3) := by decide +kernel
theorem dX7_readClause_76 : decode cX7_readClause 76 = .ok (.goto 91, 3) := by decide +kernel
theorem dX7_readClause_79 : decode cX7_readClause 79 = .ok (.aload_n 0, 1) := by decide +kernel
theorem dX7_readClause_80 : decode cX7_readClause 80 = .ok (.getfield 21, 3) := by decide +kernel
theorem dX7_readClause_83 : decode cX7_readClause 83 = .ok (.aload_n 0, 1) := by decide +kernel
theorem dX7_readClause_84 : decode cX7_readClause 84 = .ok (.getfield 25, 3) := by decide +kernel
theorem dX7_readClause_87 : decode cX7_readClause 87 = .ok (.iconst 0, 1) := by decide +kernel
theorem dX7_readClause_88 : decode cX7_readClause 88 = .ok (.sipush 9999, 3) := by decide +kernel
theorem dX7_readClause_91 : decode cX7_readClause 91 = .ok (.invokevirtual 38, 3) := by decide +kernel
theorem dX7_readClause_94 : decode cX7_readClause 94 = .ok (.putfield 72, 3) := by decide +kernel
theorem dX7_readClause_97 : decode cX7_readClause 97 = .ok (.aload_n 0, 1) := by decide +kernel
theorem dX7_readClause_98 : decode cX7_readClause 98 = .ok (.getfield 21, 3) := by decide +kernel
theorem dX7_readClause_101 : decode cX7_readClause 101 = .ok (.aload_n 0, 1) := by decide +kernel
theorem dX7_readClause_102 : decode cX7_readClause 102 = .ok (.getfield 25, 3) := by decide +kernel
theorem dX7_readClause_105 : decode cX7_readClause 105 = .ok (.iconst 0, 1) := by decide +kernel
theorem dX7_readClause_106 : decode cX7_readClause 106 = .ok (.sipush 999, 3) := by decide +kernel
theorem dX7_readClause_109 : decode cX7_readClause 109 = .ok (.invokevirtual 38, 3) := by decide +kernel
theorem dX7_readClause_112 : decode cX7_readClause 112 = .ok (.putfield 75, 3) := by decide +kernel
theorem dX7_readClause_115 : decode cX7_readClause 115 = .ok (.goto 52, 3) := by decide +kernel
theorem dX7_readClause_118 : decode cX7_readClause 118 = .ok (.aload_n 0, 1) := by decide +kernel
theorem dX7_readClause_119 : decode cX7_readClause 119 = .ok (.bipush 7, 2) := by decide +kernel
theorem dX7_readClause_121 : decode cX7_readClause 121 = .ok (.aload_n 0, 1) := by decide +kernel
theorem dX7_readClause_122 : decode cX7_readClause 122 = .ok (.getfield 25, 3) := by decide +kernel
theorem dX7_readClause_125 : decode cX7_readClause 125 = .ok (.iconst 2, 1) := by decide +kernel
theorem dX7_readClause_126 : decode cX7_readClause 126 = .ok (.iconst 4, 1) := by decide +kernel
theorem dX7_readClause_127 : decode cX7_readClause 127 = .ok (.invokevirtual 38, 3) := by decide +kernel
theorem dX7_readClause_130 : decode cX7_readClause 130 = .ok (.iadd, 1) := by decide +kernel
theorem dX7_readClause_131 : decode cX7_readClause 131 = .ok (.iconst 2, 1) := by decide +kernel
theorem dX7_readClause_132 : decode cX7_readClause 132 = .ok (.isub, 1) := by decide +kernel
theorem dX7_readClause_133 : decode cX7_readClause 133 = .ok (.invokevirtual 78, 3) := by decide +kernel
theorem dX7_readClause_136 : decode cX7_readClause 136 = .ok (.goto 31, 3) := by decide +kernel
theorem dX7_readClause_139 : decode cX7_readClause 139 = .ok (.aload_n 0, 1) := by decide +kernel
theorem dX7_readClause_140 : decode cX7_readClause 140 = .ok (.aload_n 0, 1) := by decide +kernel
theorem dX7_readClause_141 : decode cX7_readClause 141 = .ok (.getfield 25, 3) := by decide +kernel
theorem dX7_readClause_144 : decode cX7_readClause 144 = .ok (.bipush 14, 2) := by decide +kernel
theorem dX7_readClause_146 : decode cX7_readClause 146 = .ok (.bipush 20, 2) := by decide +kernel
theorem dX7_readClause_148 : decode cX7_readClause 148 = .ok (.invokevirtual 34, 3) := by decide +kernel
theorem dX7_readClause_151 : decode cX7_readClause 151 = .ok (.bipush 14, 2) := by decide +kernel
theorem dX7_readClause_153 : decode cX7_readClause 153 = .ok (.isub, 1) := by decide +kernel
theorem dX7_readClause_154 : decode cX7_readClause 154 = .ok (.invokevirtual 78, 3) := by decide +kernel
theorem dX7_readClause_157 : decode cX7_readClause 157 = .ok (.goto 10, 3) := by decide +kernel
theorem dX7_readClause_160 : decode cX7_readClause 160 = .ok (.aload_n 0, 1) := by decide +kernel
theorem dX7_readClause_161 : decode cX7_readClause 161 = .ok (.invokevirtual 81, 3) := by decide +kernel
theorem dX7_readClause_164 : decode cX7_readClause 164 = .ok (.goto 3, 3) := by decide +kernel
theorem dX7_readClause_167 : decode cX7_readClause 167 = .ok (.aload_n 0, 1) := by decide +kernel
theorem dX7_readClause_168 : decode cX7_readClause 168 = .ok (.getfield 25, 3) := by decide +kernel
theorem dX7_readClause_171 : decode cX7_readClause 171 = .ok (.bipush 59, 2) := by decide +kernel
theorem dX7_readClause_173 : decode cX7_readClause 173 = .ok (.invokevirtual 44, 3) := by decide +kernel
theorem dX7_readClause_176 : decode cX7_readClause 176 = .ok (.return_, 1) := by decide +kernel
theorem dX7_readRoad_0 : decode cX7_readRoad 0 = .ok (.aload_n 0, 1) := by decide +kernel
theorem dX7_readRoad_1 : decode cX7_readRoad 1 = .ok (.getfield 25, 3) := by decide +kernel
theorem dX7_readRoad_4 : decode cX7_readRoad 4 = .ok (.iconst 0, 1) := by decide +kernel
theorem dX7_readRoad_5 : decode cX7_readRoad 5 = .ok (.aload_n 0, 1) := by decide +kernel
theorem dX7_readRoad_6 : decode cX7_readRoad 6 = .ok (.getfield 12, 3) := by decide +kernel
theorem dX7_readRoad_9 : decode cX7_readRoad 9 = .ok (.getfield 84, 3) := by decide +kernel
theorem dX7_readRoad_12 : decode cX7_readRoad 12 = .ok (.iconst 1, 1) := by decide +kernel
theorem dX7_readRoad_13 : decode cX7_readRoad 13 = .ok (.isub, 1) := by decide +kernel
theorem dX7_readRoad_14 : decode cX7_readRoad 14 = .ok (.invokevirtual 38, 3) := by decide +kernel
theorem dX7_readRoad_17 : decode cX7_readRoad 17 = .ok (.istore_n 1, 1) := by decide +kernel
theorem dX7_readRoad_18 : decode cX7_readRoad 18 = .ok (.aload_n 0, 1) := by decide +kernel
theorem dX7_readRoad_19 : decode cX7_readRoad 19 = .ok (.getfield 25, 3) := by decide +kernel
theorem dX7_readRoad_22 : decode cX7_readRoad 22 = .ok (.iconst 0, 1) := by decide +kernel
theorem dX7_readRoad_23 : decode cX7_readRoad 23 = .ok (.aload_n 0, 1) := by decide +kernel
theorem dX7_readRoad_24 : decode cX7_readRoad 24 = .ok (.getfield 12, 3) := by decide +kernel
theorem dX7_readRoad_27 : decode cX7_readRoad 27 = .ok (.getfield 84, 3) := by decide +kernel
theorem dX7_readRoad_30 : decode cX7_readRoad 30 = .ok (.iconst 1, 1) := by decide +kernel
theorem dX7_readRoad_31 : decode cX7_readRoad 31 = .ok (.isub, 1) := by decide +kernel
theorem dX7_readRoad_32 : decode cX7_readRoad 32 = .ok (.invokevirtual 87, 3) := by decide +kernel
theorem dX7_readRoad_35 : decode cX7_readRoad 35 = .ok (.istore_n 2, 1) := by decide +kernel
theorem dX7_readRoad_36 : decode cX7_readRoad 36 = .ok (.aload_n 0, 1) := by decide +kernel
theorem dX7_readRoad_37 : decode cX7_readRoad 37 = .ok (.getfield 12, 3) := by decide +kernel
theorem dX7_readRoad_40 : decode cX7_readRoad 40 = .ok (.iload_n 1, 1) := by decide +kernel
theorem dX7_readRoad_41 : decode cX7_readRoad 41 = .ok (.iload_n 2, 1) := by decide +kernel
theorem dX7_readRoad_42 : decode cX7_readRoad 42 = .ok (.invokevirtual 90, 3) := by decide +kernel
theorem dX7_readRoad_45 : decode cX7_readRoad 45 = .ok (.iconst (-1), 1) := by decide +kernel
theorem dX7_readRoad_46 : decode cX7_readRoad 46 = .ok (.if_icmp .eq 11, 3) := by decide +kernel
theorem dX7_readRoad_49 : decode cX7_readRoad 49 = .ok (.aload_n 0, 1) := by decide +kernel
theorem dX7_readRoad_50 : decode cX7_readRoad 50 = .ok (.getfield 25, 3) := by decide +kernel
theorem dX7_readRoad_53 : decode cX7_readRoad 53 = .ok (.iconst 4, 1) := by decide +kernel
theorem dX7_readRoad_54 : decode cX7_readRoad 54 = .ok (.invokevirtual 66, 3) := by decide +kernel
theorem dX7_readRoad_57 : decode cX7_readRoad 57 = .ok (.aload_n 0, 1) := by decide +kernel
theorem dX7_readRoad_58 : decode cX7_readRoad 58 = .ok (.getfield 25, 3) := by decide +kernel
theorem dX7_readRoad_61 : decode cX7_readRoad 61 = .ok (.invokevirtual 93, 3) := by decide +kernel
theorem dX7_readRoad_64 : decode cX7_readRoad 64 = .ok (.aload_n 0, 1) := by decide +kernel
theorem dX7_readRoad_65 : decode cX7_readRoad 65 = .ok (.getfield 12, 3) := by decide +kernel
theorem dX7_readRoad_68 : decode cX7_readRoad 68 = .ok (.iload_n 1, 1) := by decide +kernel
theorem dX7_readRoad_69 : decode cX7_readRoad 69 = .ok (.iload_n 2, 1) := by decide +kernel
theorem dX7_readRoad_70 : decode cX7_readRoad 70 = .ok (.aload_n 0, 1) := by decide +kernel
theorem dX7_readRoad_71 : decode cX7_readRoad 71 = .ok (.getfield 25, 3) := by decide +kernel
theorem dX7_readRoad_74 : decode cX7_readRoad 74 = .ok (.iconst 1, 1) := by decide +kernel
theorem dX7_readRoad_75 : decode cX7_readRoad 75 = .ok (.bipush 99, 2) := by decide +kernel
theorem dX7_readRoad_77 : decode cX7_readRoad 77 = .ok (.invokevirtual 38, 3) := by decide +kernel
theorem dX7_readRoad_80 : decode cX7_readRoad 80 = .ok (.invokevirtual 96, 3) := by decide +kernel
theorem dX7_readRoad_83 : decode cX7_readRoad 83 = .ok (.return_, 1) := by decide +kernel
theorem dX7_readRuleValue_0 : decode cX7_readRuleValue 0 = .ok (.iload_n 1, 1) := by decide +kernel
theorem dX7_readRuleValue_1 : decode cX7_readRuleValue 1 = .ok (.ifCond .lt 34, 3) := by decide +kernel
theorem dX7_readRuleValue_4 : decode cX7_readRuleValue 4 = .ok (.iload_n 1, 1) := by decide +kernel
theorem dX7_readRuleValue_5 : decode cX7_readRuleValue 5 = .ok (.bipush 10, 2) := by decide +kernel
theorem dX7_readRuleValue_7 : decode cX7_readRuleValue 7 = .ok (.if_icmp .ge 28, 3) := by decide +kernel
theorem dX7_readRuleValue_10 : decode cX7_readRuleValue 10 = .ok (.aload_n 0, 1) := by decide +kernel
theorem dX7_readRuleValue_11 : decode cX7_readRuleValue 11 = .ok (.getfield 21, 3) := by decide +kernel
theorem dX7_readRuleValue_14 : decode cX7_readRuleValue 14 = .ok (.iload_n 1, 1) := by decide +kernel
theorem dX7_readRuleValue_15 : decode cX7_readRuleValue 15 = .ok (.aload_n 0, 1) := by decide +kernel
theorem dX7_readRuleValue_16 : decode cX7_readRuleValue 16 = .ok (.getfield 25, 3) := by decide +kernel
theorem dX7_readRuleValue_19 : decode cX7_readRuleValue 19 = .ok (.getstatic 100, 3) := by decide +kernel
theorem dX7_readRuleValue_22 : decode cX7_readRuleValue 22 = .ok (.iload_n 1, 1) := by decide +kernel
theorem dX7_readRuleValue_23 : decode cX7_readRuleValue 23 = .ok (.iaload, 1) := by decide +kernel
theorem dX7_readRuleValue_24 : decode cX7_readRuleValue 24 = .ok (.getstatic 104, 3) := by decide +kernel
theorem dX7_readRuleValue_27 : decode cX7_readRuleValue 27 = .ok (.iload_n 1, 1) := by decide +kernel
theorem dX7_readRuleValue_28 : decode cX7_readRuleValue 28 = .ok (.iaload, 1) := by decide +kernel
theorem dX7_readRuleValue_29 : decode cX7_readRuleValue 29 = .ok (.invokevirtual 38, 3) := by decide +kernel
theorem dX7_readRuleValue_32 : decode cX7_readRuleValue 32 = .ok (.invokevirtual 107, 3) := by decide +kernel
theorem dX7_readRuleValue_35 : decode cX7_readRuleValue 35 = .ok (.return_, 1) := by decide +kernel
theorem dX7_readTaxi_0 : decode cX7_readTaxi 0 = .ok (.aload_n 0, 1) := by decide +kernel
theorem dX7_readTaxi_1 : decode cX7_readTaxi 1 = .ok (.getfield 25, 3) := by decide +kernel
theorem dX7_readTaxi_4 : decode cX7_readTaxi 4 = .ok (.iconst 1, 1) := by decide +kernel
theorem dX7_readTaxi_5 : decode cX7_readTaxi 5 = .ok (.bipush 6, 2) := by decide +kernel
theorem dX7_readTaxi_7 : decode cX7_readTaxi 7 = .ok (.invokevirtual 38, 3) := by decide +kernel
theorem dX7_readTaxi_10 : decode cX7_readTaxi 10 = .ok (.istore_n 1, 1) := by decide +kernel
theorem dX7_readTaxi_11 : decode cX7_readTaxi 11 = .ok (.aload_n 0, 1) := by decide +kernel
theorem dX7_readTaxi_12 : decode cX7_readTaxi 12 = .ok (.getfield 25, 3) := by decide +kernel
theorem dX7_readTaxi_15 : decode cX7_readTaxi 15 = .ok (.iconst 0, 1) := by decide +kernel
theorem dX7_readTaxi_16 : decode cX7_readTaxi 16 = .ok (.aload_n 0, 1) := by decide +kernel
theorem dX7_readTaxi_17 : decode cX7_readTaxi 17 = .ok (.getfield 12, 3) := by decide +kernel
theorem dX7_readTaxi_20 : decode cX7_readTaxi 20 = .ok (.getfield 84, 3) := by decide +kernel
theorem dX7_readTaxi_23 : decode cX7_readTaxi 23 = .ok (.iconst 1, 1) := by decide +kernel
theorem dX7_readTaxi_24 : decode cX7_readTaxi 24 = .ok (.isub, 1) := by decide +kernel
theorem dX7_readTaxi_25 : decode cX7_readTaxi 25 = .ok (.invokevirtual 38, 3) := by decide +kernel
theorem dX7_readTaxi_28 : decode cX7_readTaxi 28 = .ok (.istore_n 2, 1) := by decide +kernel
theorem dX7_readTaxi_29 : decode cX7_readTaxi 29 = .ok (.aload_n 0, 1) := by decide +kernel
theorem dX7_readTaxi_30 : decode cX7_readTaxi 30 = .ok (.getfield 25, 3) := by decide +kernel
theorem dX7_readTaxi_33 : decode cX7_readTaxi 33 = .ok (.iconst 0, 1) := by decide +kernel
theorem dX7_readTaxi_34 : decode cX7_readTaxi 34 = .ok (.sipush 2879, 3) := by decide +kernel
theorem dX7_readTaxi_37 : decode cX7_readTaxi 37 = .ok (.invokevirtual 38, 3) := by decide +kernel
theorem dX7_readTaxi_40 : decode cX7_readTaxi 40 = .ok (.istore_n 3, 1) := by decide +kernel
theorem dX7_readTaxi_41 : decode cX7_readTaxi 41 = .ok (.aload_n 0, 1) := by decide +kernel
theorem dX7_readTaxi_42 : decode cX7_readTaxi 42 = .ok (.getfield 25, 3) := by decide +kernel
theorem dX7_readTaxi_45 : decode cX7_readTaxi 45 = .ok (.iconst 0, 1) := by decide +kernel
theorem dX7_readTaxi_46 : decode cX7_readTaxi 46 = .ok (.sipush 2879, 3) := by decide +kernel
theorem dX7_readTaxi_49 : decode cX7_readTaxi 49 = .ok (.invokevirtual 87, 3) := by decide +kernel
theorem dX7_readTaxi_52 : decode cX7_readTaxi 52 = .ok (.istore 4, 2) := by decide +kernel
theorem dX7_readTaxi_54 : decode cX7_readTaxi 54 = .ok (.iload 4, 2) := by decide +kernel
theorem dX7_readTaxi_56 : decode cX7_readTaxi 56 = .ok (.iload_n 3, 1) := by decide +kernel
theorem dX7_readTaxi_57 : decode cX7_readTaxi 57 = .ok (.if_icmp .gt 11, 3) := by decide +kernel
theorem dX7_readTaxi_60 : decode cX7_readTaxi 60 = .ok (.aload_n 0, 1) := by decide +kernel
theorem dX7_readTaxi_61 : decode cX7_readTaxi 61 = .ok (.getfield 25, 3) := by decide +kernel
theorem dX7_readTaxi_64 : decode cX7_readTaxi 64 = .ok (.iconst 4, 1) := by decide +kernel
theorem dX7_readTaxi_65 : decode cX7_readTaxi 65 = .ok (.invokevirtual 66, 3) := by decide +kernel
theorem dX7_readTaxi_68 : decode cX7_readTaxi 68 = .ok (.aload_n 0, 1) := by decide +kernel
theorem dX7_readTaxi_69 : decode cX7_readTaxi 69 = .ok (.getfield 25, 3) := by decide +kernel
theorem dX7_readTaxi_72 : decode cX7_readTaxi 72 = .ok (.invokevirtual 93, 3) := by decide +kernel
theorem dX7_readTaxi_75 : decode cX7_readTaxi 75 = .ok (.aload_n 0, 1) := by decide +kernel
theorem dX7_readTaxi_76 : decode cX7_readTaxi 76 = .ok (.getfield 21, 3) := by decide +kernel
theorem dX7_readTaxi_79 : decode cX7_readTaxi 79 = .ok (.getfield 62, 3) := by decide +kernel
theorem dX7_readTaxi_82 : decode cX7_readTaxi 82 = .ok (.ifCond .lt 50, 3) := by decide +kernel
theorem dX7_readTaxi_85 : decode cX7_readTaxi 85 = .ok (.aload_n 0, 1) := by decide +kernel
theorem dX7_readTaxi_86 : decode cX7_readTaxi 86 = .ok (.getfield 21, 3) := by decide +kernel
theorem dX7_readTaxi_89 : decode cX7_readTaxi 89 = .ok (.getfield 62, 3) := by decide +kernel
theorem dX7_readTaxi_92 : decode cX7_readTaxi 92 = .ok (.iconst 4, 1) := by decide +kernel
theorem dX7_readTaxi_93 : decode cX7_readTaxi 93 = .ok (.if_icmp .ge 39, 3) := by decide +kernel
theorem dX7_readTaxi_96 : decode cX7_readTaxi 96 = .ok (.aload_n 0, 1) := by decide +kernel
theorem dX7_readTaxi_97 : decode cX7_readTaxi 97 = .ok (.getfield 21, 3) := by decide +kernel
theorem dX7_readTaxi_100 : decode cX7_readTaxi 100 = .ok (.getfield 111, 3) := by decide +kernel
theorem dX7_readTaxi_103 : decode cX7_readTaxi 103 = .ok (.aload_n 0, 1) := by decide +kernel
theorem dX7_readTaxi_104 : decode cX7_readTaxi 104 = .ok (.getfield 21, 3) := by decide +kernel
theorem dX7_readTaxi_107 : decode cX7_readTaxi 107 = .ok (.getfield 62, 3) := by decide +kernel
theorem dX7_readTaxi_110 : decode cX7_readTaxi 110 = .ok (.aaload, 1) := by decide +kernel
theorem dX7_readTaxi_111 : decode cX7_readTaxi 111 = .ok (.iload_n 1, 1) := by decide +kernel
theorem dX7_readTaxi_112 : decode cX7_readTaxi 112 = .ok (.iload_n 2, 1) := by decide +kernel
theorem dX7_readTaxi_113 : decode cX7_readTaxi 113 = .ok (.iload_n 3, 1) := by decide +kernel
theorem dX7_readTaxi_114 : decode cX7_readTaxi 114 = .ok (.iload 4, 2) := by decide +kernel
theorem dX7_readTaxi_116 : decode cX7_readTaxi 116 = .ok (.invokevirtual 115, 3) := by decide +kernel
theorem dX7_readTaxi_119 : decode cX7_readTaxi 119 = .ok (.aload_n 0, 1) := by decide +kernel
theorem dX7_readTaxi_120 : decode cX7_readTaxi 120 = .ok (.getfield 21, 3) := by decide +kernel
theorem dX7_readTaxi_123 : decode cX7_readTaxi 123 = .ok (.dup, 1) := by decide +kernel
theorem dX7_readTaxi_124 : decode cX7_readTaxi 124 = .ok (.getfield 62, 3) := by decide +kernel
theorem dX7_readTaxi_127 : decode cX7_readTaxi 127 = .ok (.iconst 1, 1) := by decide +kernel
theorem dX7_readTaxi_128 : decode cX7_readTaxi 128 = .ok (.iadd, 1) := by decide +kernel
theorem dX7_readTaxi_129 : decode cX7_readTaxi 129 = .ok (.putfield 62, 3) := by decide +kernel
theorem dX7_readTaxi_132 : decode cX7_readTaxi 132 = .ok (.return_, 1) := by decide +kernel
theorem dX8_init_0 : decode cX8_init 0 = .ok (.aload_n 0, 1) := by decide +kernel
theorem dX8_init_1 : decode cX8_init 1 = .ok (.invokespecial 3, 3) := by decide +kernel
theorem dX8_init_4 : decode cX8_init 4 = .ok (.aload_n 0, 1) := by decide +kernel
theorem dX8_init_5 : decode cX8_init 5 = .ok (.iconst (-1), 1) := by decide +kernel
theorem dX8_init_6 : decode cX8_init 6 = .ok (.putfield 9, 3) := by decide +kernel
theorem dX8_init_9 : decode cX8_init 9 = .ok (.aload_n 0, 1) := by decide +kernel
theorem dX8_init_10 : decode cX8_init 10 = .ok (.sipush 801, 3) := by decide +kernel
theorem dX8_init_13 : decode cX8_init 13 = .ok (.newarray .int, 2) := by decide +kernel
theorem dX8_init_15 : decode cX8_init 15 = .ok (.putfield 15, 3) := by decide +kernel
theorem dX8_init_18 : decode cX8_init 18 = .ok (.aload_n 0, 1) := by decide +kernel
theorem dX8_init_19 : decode cX8_init 19 = .ok (.sipush 801, 3) := by decide +kernel
theorem dX8_init_22 : decode cX8_init 22 = .ok (.newarray .int, 2) := by decide +kernel
theorem dX8_init_24 : decode cX8_init 24 = .ok (.putfield 19, 3) := by decide +kernel
theorem dX8_init_27 : decode cX8_init 27 = .ok (.aload_n 0, 1) := by decide +kernel
theorem dX8_init_28 : decode cX8_init 28 = .ok (.sipush 801, 3) := by decide +kernel
theorem dX8_init_31 : decode cX8_init 31 = .ok (.newarray .int, 2) := by decide +kernel
theorem dX8_init_33 : decode cX8_init 33 = .ok (.putfield 22, 3) := by decide +kernel
theorem dX8_init_36 : decode cX8_init 36 = .ok (.aload_n 0, 1) := by decide +kernel
theorem dX8_init_37 : decode cX8_init 37 = .ok (.sipush 801, 3) := by decide +kernel
theorem dX8_init_40 : decode cX8_init 40 = .ok (.newarray .int, 2) := by decide +kernel
theorem dX8_init_42 : decode cX8_init 42 = .ok (.putfield 25, 3) := by decide +kernel
theorem dX8_init_45 : decode cX8_init 45 = .ok (.aload_n 0, 1) := by decide +kernel
theorem dX8_init_46 : decode cX8_init 46 = .ok (.aload_n 1, 1) := by decide +kernel
theorem dX8_init_47 : decode cX8_init 47 = .ok (.putfield 28, 3) := by decide +kernel
theorem dX8_init_50 : decode cX8_init 50 = .ok (.return_, 1) := by decide +kernel
theorem dX8_begin_0 : decode cX8_begin 0 = .ok (.aload_n 0, 1) := by decide +kernel
theorem dX8_begin_1 : decode cX8_begin 1 = .ok (.iconst 0, 1) := by decide +kernel
theorem dX8_begin_2 : decode cX8_begin 2 = .ok (.putfield 32, 3) := by decide +kernel
theorem dX8_begin_5 : decode cX8_begin 5 = .ok (.aload_n 0, 1) := by decide +kernel
theorem dX8_begin_6 : decode cX8_begin 6 = .ok (.iconst (-1), 1) := by decide +kernel
theorem dX8_begin_7 : decode cX8_begin 7 = .ok (.putfield 9, 3) := by decide +kernel
theorem dX8_begin_10 : decode cX8_begin 10 = .ok (.aload_n 0, 1) := by decide +kernel
theorem dX8_begin_11 : decode cX8_begin 11 = .ok (.iconst 0, 1) := by decide +kernel
theorem dX8_begin_12 : decode cX8_begin 12 = .ok (.putfield 35, 3) := by decide +kernel
theorem dX8_begin_15 : decode cX8_begin 15 = .ok (.iconst 0, 1) := by decide +kernel
theorem dX8_begin_16 : decode cX8_begin 16 = .ok (.istore_n 2, 1) := by decide +kernel
theorem dX8_begin_17 : decode cX8_begin 17 = .ok (.iconst 0, 1) := by decide +kernel
theorem dX8_begin_18 : decode cX8_begin 18 = .ok (.istore_n 3, 1) := by decide +kernel
theorem dX8_begin_19 : decode cX8_begin 19 = .ok (.iload_n 3, 1) := by decide +kernel
theorem dX8_begin_20 : decode cX8_begin 20 = .ok (.iload_n 1, 1) := by decide +kernel
theorem dX8_begin_21 : decode cX8_begin 21 = .ok (.if_icmp .ge 61, 3) := by decide +kernel
theorem dX8_begin_24 : decode cX8_begin 24 = .ok (.aload_n 0, 1) := by decide +kernel
theorem dX8_begin_25 : decode cX8_begin 25 = .ok (.iload_n 3, 1) := by decide +kernel
theorem dX8_begin_26 : decode cX8_begin 26 = .ok (.invokevirtual 38, 3) := by decide +kernel
theorem dX8_begin_29 : decode cX8_begin 29 = .ok (.istore 4, 2) := by decide +kernel
theorem dX8_begin_31 : decode cX8_begin 31 = .ok (.iload 4, 2) := by decide +kernel
theorem dX8_begin_33 : decode cX8_begin 33 = .ok (.invokestatic 42, 3) := by decide +kernel
theorem dX8_begin_36 : decode cX8_begin 36 = .ok (.istore 5, 2) := by decide +kernel
theorem dX8_begin_38 : decode cX8_begin 38 = .ok (.iload 5, 2) := by decide +kernel
theorem dX8_begin_40 : decode cX8_begin 40 = .ok (.iconst 3, 1) := by decide +kernel
theorem dX8_begin_41 : decode cX8_begin 41 = .ok (.if_icmp .eq 14, 3) := by decide +kernel
theorem dX8_begin_44 : decode cX8_begin 44 = .ok (.iload 5, 2) := by decide +kernel
theorem dX8_begin_46 : decode cX8_begin 46 = .ok (.ifCond .eq 16, 3) := by decide +kernel
theorem dX8_begin_49 : decode cX8_begin 49 = .ok (.iload 5, 2) := by decide +kernel
theorem dX8_begin_51 : decode cX8_begin 51 = .ok (.iload_n 2, 1) := by decide +kernel
theorem dX8_begin_52 : decode cX8_begin 52 = .ok (.if_icmp .eq 10, 3) := by decide +kernel
theorem dX8_begin_55 : decode cX8_begin 55 = .ok (.aload_n 0, 1) := by decide +kernel
theorem dX8_begin_56 : decode cX8_begin 56 = .ok (.iload 5, 2) := by decide +kernel
theorem dX8_begin_58 : decode cX8_begin 58 = .ok (.iload_n 3, 1) := by decide +kernel
theorem dX8_begin_59 : decode cX8_begin 59 = .ok (.invokevirtual 45, 3) := by decide +kernel
theorem dX8_begin_62 : decode cX8_begin 62 = .ok (.iload 5, 2) := by decide +kernel
theorem dX8_begin_64 : decode cX8_begin 64 = .ok (.ifCond .eq 9, 3) := by decide +kernel
theorem dX8_begin_67 : decode cX8_begin 67 = .ok (.aload_n 0, 1) := by decide +kernel
theorem dX8_begin_68 : decode cX8_begin 68 = .ok (.iload 4, 2) := by decide +kernel
theorem dX8_begin_70 : decode cX8_begin 70 = .ok (.invokevirtual 49, 3) := by decide +kernel
theorem dX8_begin_73 : decode cX8_begin 73 = .ok (.iload 5, 2) := by decide +kernel
theorem dX8_begin_75 : decode cX8_begin 75 = .ok (.istore_n 2, 1) := by decide +kernel
theorem dX8_begin_76 : decode cX8_begin 76 = .ok (.iinc 3 1, 3) := by decide +kernel
theorem dX8_begin_79 : decode cX8_begin 79 = .ok (.goto (-60), 3) := by decide +kernel
theorem dX8_begin_82 : decode cX8_begin 82 = .ok (.aload_n 0, 1) := by decide +kernel
theorem dX8_begin_83 : decode cX8_begin 83 = .ok (.iconst 4, 1) := by decide +kernel
theorem dX8_begin_84 : decode cX8_begin 84 = .ok (.iload_n 1, 1) := by decide +kernel
theorem dX8_begin_85 : decode cX8_begin 85 = .ok (.invokevirtual 45, 3) := by decide +kernel
theorem dX8_begin_88 : decode cX8_begin 88 = .ok (.aload_n 0, 1) := by decide +kernel
theorem dX8_begin_89 : decode cX8_begin 89 = .ok (.invokevirtual 53, 3) := by decide +kernel
theorem dX8_begin_92 : decode cX8_begin 92 = .ok (.aload_n 0, 1) := by decide +kernel
theorem dX8_begin_93 : decode cX8_begin 93 = .ok (.iconst (-1), 1) := by decide +kernel
theorem dX8_begin_94 : decode cX8_begin 94 = .ok (.putfield 56, 3) := by decide +kernel
theorem dX8_begin_97 : decode cX8_begin 97 = .ok (.aload_n 0, 1) := by decide +kernel
theorem dX8_begin_98 : decode cX8_begin 98 = .ok (.invokevirtual 59, 3) := by decide +kernel
theorem dX8_begin_101 : decode cX8_begin 101 = .ok (.return_, 1) := by decide +kernel
theorem dX8_byteAt_0 : decode cX8_byteAt 0 = .ok (.iload_n 1, 1) := by decide +kernel
theorem dX8_byteAt_1 : decode cX8_byteAt 1 = .ok (.ifCond .lt 25, 3) := by decide +kernel
theorem dX8_byteAt_4 : decode cX8_byteAt 4 = .ok (.iload_n 1, 1) := by decide +kernel
theorem dX8_byteAt_5 : decode cX8_byteAt 5 = .ok (.aload_n 0, 1) := by decide +kernel
theorem dX8_byteAt_6 : decode cX8_byteAt 6 = .ok (.getfield 28, 3) := by decide +kernel
theorem dX8_byteAt_9 : decode cX8_byteAt 9 = .ok (.arraylength, 1) := by decide +kernel
theorem dX8_byteAt_10 : decode cX8_byteAt 10 = .ok (.if_icmp .ge 16, 3) := by decide +kernel
theorem dX8_byteAt_13 : decode cX8_byteAt 13 = .ok (.aload_n 0, 1) := by decide +kernel
theorem dX8_byteAt_14 : decode cX8_byteAt 14 = .ok (.getfield 28, 3) := by decide +kernel
theorem dX8_byteAt_17 : decode cX8_byteAt 17 = .ok (.iload_n 1, 1) := by decide +kernel
theorem dX8_byteAt_18 : decode cX8_byteAt 18 = .ok (.baload, 1) := by decide +kernel
theorem dX8_byteAt_19 : decode cX8_byteAt 19 = .ok (.sipush 255, 3) := by decide +kernel
theorem dX8_byteAt_22 : decode cX8_byteAt 22 = .ok (.iand, 1) := by decide +kernel
theorem dX8_byteAt_23 : decode cX8_byteAt 23 = .ok (.goto 4, 3) := by decide +kernel
theorem dX8_byteAt_26 : decode cX8_byteAt 26 = .ok (.iconst 0, 1) := by decide +kernel
theorem dX8_byteAt_27 : decode cX8_byteAt 27 = .ok (.ireturn, 1) := by decide +kernel
theorem dX8_kindOf_0 : decode cX8_kindOf 0 = .ok (.iload_n 0, 1) := by decide +kernel
theorem dX8_kindOf_1 : decode cX8_kindOf 1 = .ok (.bipush 32, 2) := by decide +kernel
theorem dX8_kindOf_3 : decode cX8_kindOf 3 = .ok (.if_icmp .eq 9, 3) := by decide +kernel
theorem dX8_kindOf_6 : decode cX8_kindOf 6 = .ok (.iload_n 0, 1) := by decide +kernel
theorem dX8_kindOf_7 : decode cX8_kindOf 7 = .ok (.bipush 10, 2) := by decide +kernel
theorem dX8_kindOf_9 : decode cX8_kindOf 9 = .ok (.if_icmp .ne 5, 3) := by decide +kernel
theorem dX8_kindOf_12 : decode cX8_kindOf 12 = .ok (.iconst 0, 1) := by decide +kernel
theorem dX8_kindOf_13 : decode cX8_kindOf 13 = .ok (.ireturn, 1) := by decide +kernel
theorem dX8_kindOf_14 : decode cX8_kindOf 14 = .ok (.iload_n 0, 1) := by decide +kernel
theorem dX8_kindOf_15 : decode cX8_kindOf 15 = .ok (.bipush 97, 2) := by decide +kernel
theorem dX8_kindOf_17 : decode cX8_kindOf 17 = .ok (.if_icmp .lt 11, 3) := by decide +kernel
theorem dX8_kindOf_20 : decode cX8_kindOf 20 = .ok (.iload_n 0, 1) := by decide +kernel
theorem dX8_kindOf_21 : decode cX8_kindOf 21 = .ok (.bipush 122, 2) := by decide +kernel
theorem dX8_kindOf_23 : decode cX8_kindOf 23 = .ok (.if_icmp .gt 5, 3) := by decide +kernel
theorem dX8_kindOf_26 : decode cX8_kindOf 26 = .ok (.iconst 1, 1) := by decide +kernel
theorem dX8_kindOf_27 : decode cX8_kindOf 27 = .ok (.ireturn, 1) := by decide +kernel
theorem dX8_kindOf_28 : decode cX8_kindOf 28 = .ok (.iload_n 0, 1) := by decide +kernel
theorem dX8_kindOf_29 : decode cX8_kindOf 29 = .ok (.bipush 48, 2) := by decide +kernel
theorem dX8_kindOf_31 : decode cX8_kindOf 31 = .ok (.if_icmp .lt 13, 3) := by decide +kernel
theorem dX8_kindOf_34 : decode cX8_kindOf 34 = .ok (.iload_n 0, 1) := by decide +kernel
theorem dX8_kindOf_35 : decode cX8_kindOf 35 = .ok (.bipush 57, 2) := by decide +kernel
theorem dX8_kindOf_37 : decode cX8_kindOf 37 = .ok (.if_icmp .gt 7, 3) := by decide +kernel
theorem dX8_kindOf_40 : decode cX8_kindOf 40 = .ok (.iconst 2, 1) := by decide +kernel
theorem dX8_kindOf_41 : decode cX8_kindOf 41 = .ok (.goto 4, 3) := by decide +kernel
theorem dX8_kindOf_44 : decode cX8_kindOf 44 = .ok (.iconst 3, 1) := by decide +kernel
theorem dX8_kindOf_45 : decode cX8_kindOf 45 = .ok (.ireturn, 1) := by decide +kernel
theorem dX8_appendToken_0 : decode cX8_appendToken 0 = .ok (.aload_n 0, 1) := by decide +kernel
theorem dX8_appendToken_1 : decode cX8_appendToken 1 = .ok (.getfield 35, 3) := by decide +kernel
theorem dX8_appendToken_4 : decode cX8_appendToken 4 = .ok (.ifCond .lt 63, 3) := by decide +kernel
theorem dX8_appendToken_7 : decode cX8_appendToken 7 = .ok (.aload_n 0, 1) := by decide +kernel
theorem dX8_appendToken_8 : decode cX8_appendToken 8 = .ok (.getfield 35, 3) := by decide +kernel
theorem dX8_appendToken_11 : decode cX8_appendToken 11 = .ok (.sipush 800, 3) := by decide +kernel
theorem dX8_appendToken_14 : decode cX8_appendToken 14 = .ok (.if_icmp .gt 53, 3) := by decide +kernel
theorem dX8_appendToken_17 : decode cX8_appendToken 17 = .ok (.aload_n 0, 1) := by decide +kernel
theorem dX8_appendToken_18 : decode cX8_appendToken 18 = .ok (.getfield 15, 3) := by decide +kernel
theorem dX8_appendToken_21 : decode cX8_appendToken 21 = .ok (.aload_n 0, 1) := by decide +kernel
theorem dX8_appendToken_22 : decode cX8_appendToken 22 = .ok (.getfield 35, 3) := by decide +kernel
theorem dX8_appendToken_25 : decode cX8_appendToken 25 = .ok (.iload_n 1, 1) := by decide +kernel
theorem dX8_appendToken_26 : decode cX8_appendToken 26 = .ok (.iastore, 1) := by decide +kernel
theorem dX8_appendToken_27 : decode cX8_appendToken 27 = .ok (.aload_n 0, 1) := by decide +kernel
theorem dX8_appendToken_28 : decode cX8_appendToken 28 = .ok (.getfield 19, 3) := by decide +kernel
theorem dX8_appendToken_31 : decode cX8_appendToken 31 = .ok (.aload_n 0, 1) := by decide +kernel
theorem dX8_appendToken_32 : decode cX8_appendToken 32 = .ok (.getfield 35, 3) := by decide +kernel
theorem dX8_appendToken_35 : decode cX8_appendToken 35 = .ok (.iload_n 2, 1) := by decide +kernel
theorem dX8_appendToken_36 : decode cX8_appendToken 36 = .ok (.iastore, 1) := by decide +kernel
theorem dX8_appendToken_37 : decode cX8_appendToken 37 = .ok (.aload_n 0, 1) := by decide +kernel
theorem dX8_appendToken_38 : decode cX8_appendToken 38 = .ok (.getfield 22, 3) := by decide +kernel
theorem dX8_appendToken_41 : decode cX8_appendToken 41 = .ok (.aload_n 0, 1) := by decide +kernel
theorem dX8_appendToken_42 : decode cX8_appendToken 42 = .ok (.getfield 35, 3) := by decide +kernel
theorem dX8_appendToken_45 : decode cX8_appendToken 45 = .ok (.iconst 0, 1) := by decide +kernel
theorem dX8_appendToken_46 : decode cX8_appendToken 46 = .ok (.iastore, 1) := by decide +kernel
theorem dX8_appendToken_47 : decode cX8_appendToken 47 = .ok (.aload_n 0, 1) := by decide +kernel
theorem dX8_appendToken_48 : decode cX8_appendToken 48 = .ok (.getfield 25, 3) := by decide +kernel
theorem dX8_appendToken_51 : decode cX8_appendToken 51 = .ok (.aload_n 0, 1) := by decide +kernel
theorem dX8_appendToken_52 : decode cX8_appendToken 52 = .ok (.getfield 35, 3) := by decide +kernel
theorem dX8_appendToken_55 : decode cX8_appendToken 55 = .ok (.iconst 0, 1) := by decide +kernel
theorem dX8_appendToken_56 : decode cX8_appendToken 56 = .ok (.iastore, 1) := by decide +kernel
theorem dX8_appendToken_57 : decode cX8_appendToken 57 = .ok (.aload_n 0, 1) := by decide +kernel
theorem dX8_appendToken_58 : decode cX8_appendToken 58 = .ok (.dup, 1) := by decide +kernel
theorem dX8_appendToken_59 : decode cX8_appendToken 59 = .ok (.getfield 35, 3) := by decide +kernel
theorem dX8_appendToken_62 : decode cX8_appendToken 62 = .ok (.iconst 1, 1) := by decide +kernel
theorem dX8_appendToken_63 : decode cX8_appendToken 63 = .ok (.iadd, 1) := by decide +kernel
theorem dX8_appendToken_64 : decode cX8_appendToken 64 = .ok (.putfield 35, 3) := by decide +kernel
theorem dX8_appendToken_67 : decode cX8_appendToken 67 = .ok (.return_, 1) := by decide +kernel
theorem dX8_extendToken_0 : decode cX8_extendToken 0 = .ok (.aload_n 0, 1) := by decide +kernel
theorem dX8_extendToken_1 : decode cX8_extendToken 1 = .ok (.getfield 35, 3) := by decide +kernel
theorem dX8_extendToken_4 : decode cX8_extendToken 4 = .ok (.iconst 1, 1) := by decide +kernel
theorem dX8_extendToken_5 : decode cX8_extendToken 5 = .ok (.isub, 1) := by decide +kernel
theorem dX8_extendToken_6 : decode cX8_extendToken 6 = .ok (.istore_n 2, 1) := by decide +kernel
theorem dX8_extendToken_7 : decode cX8_extendToken 7 = .ok (.iload_n 2, 1) := by decide +kernel
theorem dX8_extendToken_8 : decode cX8_extendToken 8 = .ok (.ifCond .lt 10, 3) := by decide +kernel
theorem dX8_extendToken_11 : decode cX8_extendToken 11 = .ok (.iload_n 2, 1) := by decide +kernel
theorem dX8_extendToken_12 : decode cX8_extendToken 12 = .ok (.sipush 800, 3) := by decide +kernel
theorem dX8_extendToken_15 : decode cX8_extendToken 15 = .ok (.if_icmp .le 4, 3) := by decide +kernel
theorem dX8_extendToken_18 : decode cX8_extendToken 18 = .ok (.return_, 1) := by decide +kernel
theorem dX8_extendToken_19 : decode cX8_extendToken 19 = .ok (.aload_n 0, 1) := by decide +kernel
theorem dX8_extendToken_20 : decode cX8_extendToken 20 = .ok (.getfield 22, 3) := by decide +kernel
theorem dX8_extendToken_23 : decode cX8_extendToken 23 = .ok (.iload_n 2, 1) := by decide +kernel
theorem dX8_extendToken_24 : decode cX8_extendToken 24 = .ok (.dup2, 1) := by decide +kernel
theorem dX8_extendToken_25 : decode cX8_extendToken 25 = .ok (.iaload, 1) := by decide +kernel
theorem dX8_extendToken_26 : decode cX8_extendToken 26 = .ok (.iconst 1, 1) := by decide +kernel
theorem dX8_extendToken_27 : decode cX8_extendToken 27 = .ok (.iadd, 1) := by decide +kernel
theorem dX8_extendToken_28 : decode cX8_extendToken 28 = .ok (.iastore, 1) := by decide +kernel
theorem dX8_extendToken_29 : decode cX8_extendToken 29 = .ok (.aload_n 0, 1) := by decide +kernel
theorem dX8_extendToken_30 : decode cX8_extendToken 30 = .ok (.getfield 15, 3) := by decide +kernel
theorem dX8_extendToken_33 : decode cX8_extendToken 33 = .ok (.iload_n 2, 1) := by decide +kernel
theorem dX8_extendToken_34 : decode cX8_extendToken 34 = .ok (.iaload, 1) := by decide +kernel
theorem dX8_extendToken_35 : decode cX8_extendToken 35 = .ok (.iconst 2, 1) := by decide +kernel
theorem dX8_extendToken_36 : decode cX8_extendToken 36 = .ok (.if_icmp .ne 31, 3) := by decide +kernel
theorem dX8_extendToken_39 : decode cX8_extendToken 39 = .ok (.aload_n 0, 1) := by decide +kernel
theorem dX8_extendToken_40 : decode cX8_extendToken 40 = .ok (.getfield 25, 3) := by decide +kernel
theorem dX8_extendToken_43 : decode cX8_extendToken 43 = .ok (.iload_n 2, 1) := by decide +kernel
theorem dX8_extendToken_44 : decode cX8_extendToken 44 = .ok (.aload_n 0, 1) := by decide +kernel
theorem dX8_extendToken_45 : decode cX8_extendToken 45 = .ok (.getfield 25, 3) := by decide +kernel
theorem dX8_extendToken_48 : decode cX8_extendToken 48 = .ok (.iload_n 2, 1) := by decide +kernel
theorem dX8_extendToken_49 : decode cX8_extendToken 49 = .ok (.iaload, 1) := by decide +kernel
theorem dX8_extendToken_50 : decode cX8_extendToken 50 = .ok (.bipush 10, 2) := by decide +kernel
theorem dX8_extendToken_52 : decode cX8_extendToken 52 = .ok (.imul, 1) := by decide +kernel
theorem dX8_extendToken_53 : decode cX8_extendToken 53 = .ok (.iload_n 1, 1) := by decide +kernel
theorem dX8_extendToken_54 : decode cX8_extendToken 54 = .ok (.iadd, 1) := by decide +kernel
theorem dX8_extendToken_55 : decode cX8_extendToken 55 = .ok (.bipush 48, 2) := by decide +kernel
theorem dX8_extendToken_57 : decode cX8_extendToken 57 = .ok (.isub, 1) := by decide +kernel
theorem dX8_extendToken_58 : decode cX8_extendToken 58 = .ok (.ldc 62, 2) := by decide +kernel
theorem dX8_extendToken_60 : decode cX8_extendToken 60 = .ok (.invokestatic 63, 3) := by decide +kernel
theorem dX8_extendToken_63 : decode cX8_extendToken 63 = .ok (.iastore, 1) := by decide +kernel
theorem dX8_extendToken_64 : decode cX8_extendToken 64 = .ok (.goto 10, 3) := by decide +kernel
theorem dX8_extendToken_67 : decode cX8_extendToken 67 = .ok (.aload_n 0, 1) := by decide +kernel
theorem dX8_extendToken_68 : decode cX8_extendToken 68 = .ok (.getfield 25, 3) := by decide +kernel
theorem dX8_extendToken_71 : decode cX8_extendToken 71 = .ok (.iload_n 2, 1) := by decide +kernel
theorem dX8_extendToken_72 : decode cX8_extendToken 72 = .ok (.iload_n 1, 1) := by decide +kernel
theorem dX8_extendToken_73 : decode cX8_extendToken 73 = .ok (.iastore, 1) := by decide +kernel
theorem dX8_extendToken_74 : decode cX8_extendToken 74 = .ok (.return_, 1) := by decide +kernel
theorem dX8_nameWords_0 : decode cX8_nameWords 0 = .ok (.iconst 0, 1) := by decide +kernel
theorem dX8_nameWords_1 : decode cX8_nameWords 1 = .ok (.istore_n 1, 1) := by decide +kernel
theorem dX8_nameWords_2 : decode cX8_nameWords 2 = .ok (.iload_n 1, 1) := by decide +kernel
theorem dX8_nameWords_3 : decode cX8_nameWords 3 = .ok (.aload_n 0, 1) := by decide +kernel
theorem dX8_nameWords_4 : decode cX8_nameWords 4 = .ok (.getfield 35, 3) := by decide +kernel
theorem dX8_nameWords_7 : decode cX8_nameWords 7 = .ok (.if_icmp .ge 48, 3) := by decide +kernel
theorem dX8_nameWords_10 : decode cX8_nameWords 10 = .ok (.iload_n 1, 1) := by decide +kernel
theorem dX8_nameWords_11 : decode cX8_nameWords 11 = .ok (.sipush 800, 3) := by decide +kernel
theorem dX8_nameWords_14 : decode cX8_nameWords 14 = .ok (.if_icmp .gt 41, 3) := by decide +kernel
theorem dX8_nameWords_17 : decode cX8_nameWords 17 = .ok (.aload_n 0, 1) := by decide +kernel
theorem dX8_nameWords_18 : decode cX8_nameWords 18 = .ok (.getfield 15, 3) := by decide +kernel
theorem dX8_nameWords_21 : decode cX8_nameWords 21 = .ok (.iload_n 1, 1) := by decide +kernel
theorem dX8_nameWords_22 : decode cX8_nameWords 22 = .ok (.iaload, 1) := by decide +kernel
theorem dX8_nameWords_23 : decode cX8_nameWords 23 = .ok (.iconst 1, 1) := by decide +kernel
theorem dX8_nameWords_24 : decode cX8_nameWords 24 = .ok (.if_icmp .ne 25, 3) := by decide +kernel
theorem dX8_nameWords_27 : decode cX8_nameWords 27 = .ok (.aload_n 0, 1) := by decide +kernel
theorem dX8_nameWords_28 : decode cX8_nameWords 28 = .ok (.getfield 25, 3) := by decide +kernel
theorem dX8_nameWords_31 : decode cX8_nameWords 31 = .ok (.iload_n 1, 1) := by decide +kernel
theorem dX8_nameWords_32 : decode cX8_nameWords 32 = .ok (.aload_n 0, 1) := by decide +kernel
theorem dX8_nameWords_33 : decode cX8_nameWords 33 = .ok (.aload_n 0, 1) := by decide +kernel
theorem dX8_nameWords_34 : decode cX8_nameWords 34 = .ok (.getfield 19, 3) := by decide +kernel
theorem dX8_nameWords_37 : decode cX8_nameWords 37 = .ok (.iload_n 1, 1) := by decide +kernel
theorem dX8_nameWords_38 : decode cX8_nameWords 38 = .ok (.iaload, 1) := by decide +kernel
theorem dX8_nameWords_39 : decode cX8_nameWords 39 = .ok (.aload_n 0, 1) := by decide +kernel
theorem dX8_nameWords_40 : decode cX8_nameWords 40 = .ok (.getfield 22, 3) := by decide +kernel
theorem dX8_nameWords_43 : decode cX8_nameWords 43 = .ok (.iload_n 1, 1) := by decide +kernel
theorem dX8_nameWords_44 : decode cX8_nameWords 44 = .ok (.iaload, 1) := by decide +kernel
theorem dX8_nameWords_45 : decode cX8_nameWords 45 = .ok (.invokevirtual 69, 3) := by decide +kernel
theorem dX8_nameWords_48 : decode cX8_nameWords 48 = .ok (.iastore, 1) := by decide +kernel
theorem dX8_nameWords_49 : decode cX8_nameWords 49 = .ok (.iinc 1 1, 3) := by decide +kernel
theorem dX8_nameWords_52 : decode cX8_nameWords 52 = .ok (.goto (-50), 3) := by decide +kernel
theorem dX8_nameWords_55 : decode cX8_nameWords 55 = .ok (.return_, 1) := by decide +kernel
theorem dX8_placeOfWord_0 : decode cX8_placeOfWord 0 = .ok (.iconst 0, 1) := by decide +kernel
theorem dX8_placeOfWord_1 : decode cX8_placeOfWord 1 = .ok (.istore_n 3, 1) := by decide +kernel
theorem dX8_placeOfWord_2 : decode cX8_placeOfWord 2 = .ok (.iconst 0, 1) := by decide +kernel
theorem dX8_placeOfWord_3 : decode cX8_placeOfWord 3 = .ok (.istore 4, 2) := by decide +kernel
theorem dX8_placeOfWord_5 : decode cX8_placeOfWord 5 = .ok (.iconst 0, 1) := by decide +kernel
theorem dX8_placeOfWord_6 : decode cX8_placeOfWord 6 = .ok (.istore 5, 2) := by decide +kernel
theorem dX8_placeOfWord_8 : decode cX8_placeOfWord 8 = .ok (.iload 5, 2) := by decide +kernel
theorem dX8_placeOfWord_10 : decode cX8_placeOfWord 10 = .ok (.ldc 72, 2) := by decide +kernel
theorem dX8_placeOfWord_12 : decode cX8_placeOfWord 12 = .ok (.invokevirtual 74, 3) := by decide +kernel
theorem dX8_placeOfWord_15 : decode cX8_placeOfWord 15 = .ok (.if_icmp .gt 62, 3) := by decide +kernel
theorem dX8_placeOfWord_18 : decode cX8_placeOfWord 18 = .ok (.iload 5, 2) := by decide +kernel
theorem dX8_placeOfWord_20 : decode cX8_placeOfWord 20 = .ok (.ldc 72, 2) := by decide +kernel
theorem dX8_placeOfWord_22 : decode cX8_placeOfWord 22 = .ok (.invokevirtual 74, 3) := by decide +kernel
theorem dX8_placeOfWord_25 : decode cX8_placeOfWord 25 = .ok (.if_icmp .eq 15, 3) := by decide +kernel
theorem dX8_placeOfWord_28 : decode cX8_placeOfWord 28 = .ok (.ldc 72, 2) := by decide +kernel
theorem dX8_placeOfWord_30 : decode cX8_placeOfWord 30 = .ok (.iload 5, 2) := by decide +kernel
theorem dX8_placeOfWord_32 : decode cX8_placeOfWord 32 = .ok (.invokevirtual 80, 3) := by decide +kernel
theorem dX8_placeOfWord_35 : decode cX8_placeOfWord 35 = .ok (.bipush 32, 2) := by decide +kernel
theorem dX8_placeOfWord_37 : decode cX8_placeOfWord 37 = .ok (.if_icmp .ne 34, 3) := by decide +kernel
theorem dX8_placeOfWord_40 : decode cX8_placeOfWord 40 = .ok (.iload 5, 2) := by decide +kernel
theorem dX8_placeOfWord_42 : decode cX8_placeOfWord 42 = .ok (.iload 4, 2) := by decide +kernel
theorem dX8_placeOfWord_44 : decode cX8_placeOfWord 44 = .ok (.isub, 1) := by decide +kernel
theorem dX8_placeOfWord_45 : decode cX8_placeOfWord 45 = .ok (.iload_n 2, 1) := by decide +kernel
theorem dX8_placeOfWord_46 : decode cX8_placeOfWord 46 = .ok (.if_icmp .ne 16, 3) := by decide +kernel
theorem dX8_placeOfWord_49 : decode cX8_placeOfWord 49 = .ok (.aload_n 0, 1) := by decide +kernel
theorem dX8_placeOfWord_50 : decode cX8_placeOfWord 50 = .ok (.iload 4, 2) := by decide +kernel
theorem dX8_placeOfWord_52 : decode cX8_placeOfWord 52 = .ok (.iload_n 1, 1) := by decide +kernel
theorem dX8_placeOfWord_53 : decode cX8_placeOfWord 53 = .ok (.iload_n 2, 1) := by decide +kernel
theorem dX8_placeOfWord_54 : decode cX8_placeOfWord 54 = .ok (.invokevirtual 84, 3) := by decide +kernel
theorem dX8_placeOfWord_57 : decode cX8_placeOfWord 57 = .ok (.ifCond .eq 5, 3) := by decide +kernel
theorem dX8_placeOfWord_60 : decode cX8_placeOfWord 60 = .ok (.iload_n 3, 1) := by decide +kernel
theorem dX8_placeOfWord_61 : decode cX8_placeOfWord 61 = .ok (.ireturn, 1) := by decide +kernel
theorem dX8_placeOfWord_62 : decode cX8_placeOfWord 62 = .ok (.iinc 3 1, 3) := by decide +kernel
theorem dX8_placeOfWord_65 : decode cX8_placeOfWord 65 = .ok (.iload 5, 2) := by decide +kernel
theorem dX8_placeOfWord_67 : decode cX8_placeOfWord 67 = .ok (.iconst 1, 1) := by decide +kernel
theorem dX8_placeOfWord_68 : decode cX8_placeOfWord 68 = .ok (.iadd, 1) := by decide +kernel
theorem dX8_placeOfWord_69 : decode cX8_placeOfWord 69 = .ok (.istore 4, 2) := by decide +kernel
theorem dX8_placeOfWord_71 : decode cX8_placeOfWord 71 = .ok (.iinc 5 1, 3) := by decide +kernel
theorem dX8_placeOfWord_74 : decode cX8_placeOfWord 74 = .ok (.goto (-66), 3) := by decide +kernel
theorem dX8_placeOfWord_77 : decode cX8_placeOfWord 77 = .ok (.iconst (-1), 1) := by decide +kernel
theorem dX8_placeOfWord_78 : decode cX8_placeOfWord 78 = .ok (.ireturn, 1) := by decide +kernel
theorem dX8_isWordAt_0 : decode cX8_isWordAt 0 = .ok (.iconst 0, 1) := by decide +kernel
theorem dX8_isWordAt_1 : decode cX8_isWordAt 1 = .ok (.istore 4, 2) := by decide +kernel
theorem dX8_isWordAt_3 : decode cX8_isWordAt 3 = .ok (.iload 4, 2) := by decide +kernel
theorem dX8_isWordAt_5 : decode cX8_isWordAt 5 = .ok (.iload_n 3, 1) := by decide +kernel
theorem dX8_isWordAt_6 : decode cX8_isWordAt 6 = .ok (.if_icmp .ge 50, 3) := by decide +kernel
theorem dX8_isWordAt_9 : decode cX8_isWordAt 9 = .ok (.iload_n 1, 1) := by decide +kernel
theorem dX8_isWordAt_10 : decode cX8_isWordAt 10 = .ok (.iload 4, 2) := by decide +kernel
theorem dX8_isWordAt_12 : decode cX8_isWordAt 12 = .ok (.iadd, 1) := by decide +kernel
theorem dX8_isWordAt_13 : decode cX8_isWordAt 13 = .ok (.istore 5, 2) := by decide +kernel
theorem dX8_isWordAt_15 : decode cX8_isWordAt 15 = .ok (.iload 5, 2) := by decide +kernel
theorem dX8_isWordAt_17 : decode cX8_isWordAt 17 = .ok (.ifCond .lt 31, 3) := by decide +kernel
theorem dX8_isWordAt_20 : decode cX8_isWordAt 20 = .ok (.iload 5, 2) := by decide +kernel
theorem dX8_isWordAt_22 : decode cX8_isWordAt 22 = .ok (.ldc 72, 2) := by decide +kernel
theorem dX8_isWordAt_24 : decode cX8_isWordAt 24 = .ok (.invokevirtual 74, 3) := by decide +kernel
theorem dX8_isWordAt_27 : decode cX8_isWordAt 27 = .ok (.if_icmp .ge 21, 3) := by decide +kernel
theorem dX8_isWordAt_30 : decode cX8_isWordAt 30 = .ok (.ldc 72, 2) := by decide +kernel
theorem dX8_isWordAt_32 : decode cX8_isWordAt 32 = .ok (.iload 5, 2) := by decide +kernel
theorem dX8_isWordAt_34 : decode cX8_isWordAt 34 = .ok (.invokevirtual 80, 3) := by decide +kernel
theorem dX8_isWordAt_37 : decode cX8_isWordAt 37 = .ok (.aload_n 0, 1) := by decide +kernel
theorem dX8_isWordAt_38 : decode cX8_isWordAt 38 = .ok (.iload_n 2, 1) := by decide +kernel
theorem dX8_isWordAt_39 : decode cX8_isWordAt 39 = .ok (.iload 4, 2) := by decide +kernel
theorem dX8_isWordAt_41 : decode cX8_isWordAt 41 = .ok (.iadd, 1) := by decide +kernel
theorem dX8_isWordAt_42 : decode cX8_isWordAt 42 = .ok (.invokevirtual 38, 3) := by decide +kernel
theorem dX8_isWordAt_45 : decode cX8_isWordAt 45 = .ok (.if_icmp .eq 5, 3) := by decide +kernel
theorem dX8_isWordAt_48 : decode cX8_isWordAt 48 = .ok (.iconst 0, 1) := by decide +kernel
theorem dX8_isWordAt_49 : decode cX8_isWordAt 49 = .ok (.ireturn, 1) := by decide +kernel
theorem dX8_isWordAt_50 : decode cX8_isWordAt 50 = .ok (.iinc 4 1, 3) := by decide +kernel
theorem dX8_isWordAt_53 : decode cX8_isWordAt 53 = .ok (.goto (-50), 3) := by decide +kernel
theorem dX8_isWordAt_56 : decode cX8_isWordAt 56 = .ok (.iconst 1, 1) := by decide +kernel
theorem dX8_isWordAt_57 : decode cX8_isWordAt 57 = .ok (.ireturn, 1) := by decide +kernel
theorem dX8_next_0 : decode cX8_next 0 = .ok (.aload_n 0, 1) := by decide +kernel
theorem dX8_next_1 : decode cX8_next 1 = .ok (.getfield 56, 3) := by decide +kernel
theorem dX8_next_4 : decode cX8_next 4 = .ok (.aload_n 0, 1) := by decide +kernel
theorem dX8_next_5 : decode cX8_next 5 = .ok (.getfield 35, 3) := by decide +kernel
theorem dX8_next_8 : decode cX8_next 8 = .ok (.iconst 1, 1) := by decide +kernel
theorem dX8_next_9 : decode cX8_next 9 = .ok (.isub, 1) := by decide +kernel
theorem dX8_next_10 : decode cX8_next 10 = .ok (.if_icmp .ge 13, 3) := by decide +kernel
theorem dX8_next_13 : decode cX8_next 13 = .ok (.aload_n 0, 1) := by decide +kernel
theorem dX8_next_14 : decode cX8_next 14 = .ok (.dup, 1) := by decide +kernel
theorem dX8_next_15 : decode cX8_next 15 = .ok (.getfield 56, 3) := by decide +kernel
theorem dX8_next_18 : decode cX8_next 18 = .ok (.iconst 1, 1) := by decide +kernel
theorem dX8_next_19 : decode cX8_next 19 = .ok (.iadd, 1) := by decide +kernel
theorem dX8_next_20 : decode cX8_next 20 = .ok (.putfield 56, 3) := by decide +kernel
theorem dX8_next_23 : decode cX8_next 23 = .ok (.aload_n 0, 1) := by decide +kernel
theorem dX8_next_24 : decode cX8_next 24 = .ok (.getfield 56, 3) := by decide +kernel
theorem dX8_next_27 : decode cX8_next 27 = .ok (.ifCond .lt 17, 3) := by decide +kernel
theorem dX8_next_30 : decode cX8_next 30 = .ok (.aload_n 0, 1) := by decide +kernel
theorem dX8_next_31 : decode cX8_next 31 = .ok (.getfield 56, 3) := by decide +kernel
theorem dX8_next_34 : decode cX8_next 34 = .ok (.sipush 800, 3) := by decide +kernel
theorem dX8_next_37 : decode cX8_next 37 = .ok (.if_icmp .gt 7, 3) := by decide +kernel
theorem dX8_next_40 : decode cX8_next 40 = .ok (.iconst 1, 1) := by decide +kernel
theorem dX8_next_41 : decode cX8_next 41 = .ok (.goto 4, 3) := by decide +kernel
theorem dX8_next_44 : decode cX8_next 44 = .ok (.iconst 0, 1) := by decide +kernel
theorem dX8_next_45 : decode cX8_next 45 = .ok (.istore_n 1, 1) := by decide +kernel
theorem dX8_next_46 : decode cX8_next 46 = .ok (.aload_n 0, 1) := by decide +kernel
theorem dX8_next_47 : decode cX8_next 47 = .ok (.iload_n 1, 1) := by decide +kernel
theorem dX8_next_48 : decode cX8_next 48 = .ok (.ifCond .eq 15, 3) := by decide +kernel
theorem dX8_next_51 : decode cX8_next 51 = .ok (.aload_n 0, 1) := by decide +kernel
theorem dX8_next_52 : decode cX8_next 52 = .ok (.getfield 15, 3) := by decide +kernel
theorem dX8_next_55 : decode cX8_next 55 = .ok (.aload_n 0, 1) := by decide +kernel
theorem dX8_next_56 : decode cX8_next 56 = .ok (.getfield 56, 3) := by decide +kernel
theorem dX8_next_59 : decode cX8_next 59 = .ok (.iaload, 1) := by decide +kernel
theorem dX8_next_60 : decode cX8_next 60 = .ok (.goto 4, 3) := by decide +kernel
theorem dX8_next_63 : decode cX8_next 63 = .ok (.iconst 4, 1) := by decide +kernel
theorem dX8_next_64 : decode cX8_next 64 = .ok (.putfield 88, 3) := by decide +kernel
theorem dX8_next_67 : decode cX8_next 67 = .ok (.aload_n 0, 1) := by decide +kernel
theorem dX8_next_68 : decode cX8_next 68 = .ok (.iload_n 1, 1) := by decide +kernel
theorem dX8_next_69 : decode cX8_next 69 = .ok (.ifCond .eq 15, 3) := by decide +kernel
theorem dX8_next_72 : decode cX8_next 72 = .ok (.aload_n 0, 1) := by decide +kernel
theorem dX8_next_73 : decode cX8_next 73 = .ok (.getfield 25, 3) := by decide +kernel
theorem dX8_next_76 : decode cX8_next 76 = .ok (.aload_n 0, 1) := by decide +kernel
theorem dX8_next_77 : decode cX8_next 77 = .ok (.getfield 56, 3) := by decide +kernel
theorem dX8_next_80 : decode cX8_next 80 = .ok (.iaload, 1) := by decide +kernel
theorem dX8_next_81 : decode cX8_next 81 = .ok (.goto 4, 3) := by decide +kernel
theorem dX8_next_84 : decode cX8_next 84 = .ok (.iconst 0, 1) := by decide +kernel
theorem dX8_next_85 : decode cX8_next 85 = .ok (.putfield 91, 3) := by decide +kernel
theorem dX8_next_88 : decode cX8_next 88 = .ok (.return_, 1) := by decide +kernel
theorem dX8_fail_0 : decode cX8_fail 0 = .ok (.aload_n 0, 1) := by decide +kernel
theorem dX8_fail_1 : decode cX8_fail 1 = .ok (.getfield 32, 3) := by decide +kernel
theorem dX8_fail_4 : decode cX8_fail 4 = .ok (.ifCond .ne 38, 3) := by decide +kernel
theorem dX8_fail_7 : decode cX8_fail 7 = .ok (.aload_n 0, 1) := by decide +kernel
theorem dX8_fail_8 : decode cX8_fail 8 = .ok (.getfield 56, 3) := by decide +kernel
theorem dX8_fail_11 : decode cX8_fail 11 = .ok (.ifCond .lt 31, 3) := by decide +kernel
theorem dX8_fail_14 : decode cX8_fail 14 = .ok (.aload_n 0, 1) := by decide +kernel
theorem dX8_fail_15 : decode cX8_fail 15 = .ok (.getfield 56, 3) := by decide +kernel
theorem dX8_fail_18 : decode cX8_fail 18 = .ok (.sipush 800, 3) := by decide +kernel
theorem dX8_fail_21 : decode cX8_fail 21 = .ok (.if_icmp .gt 21, 3) := by decide +kernel
theorem dX8_fail_24 : decode cX8_fail 24 = .ok (.aload_n 0, 1) := by decide +kernel
theorem dX8_fail_25 : decode cX8_fail 25 = .ok (.iload_n 1, 1) := by decide +kernel
theorem dX8_fail_26 : decode cX8_fail 26 = .ok (.putfield 32, 3) := by decide +kernel
theorem dX8_fail_29 : decode cX8_fail 29 = .ok (.aload_n 0, 1) := by decide +kernel
theorem dX8_fail_30 : decode cX8_fail 30 = .ok (.aload_n 0, 1) := by decide +kernel
theorem dX8_fail_31 : decode cX8_fail 31 = .ok (.getfield 19, 3) := by decide +kernel
theorem dX8_fail_34 : decode cX8_fail 34 = .ok (.aload_n 0, 1) := by decide +kernel
theorem dX8_fail_35 : decode cX8_fail 35 = .ok (.getfield 56, 3) := by decide +kernel
theorem dX8_fail_38 : decode cX8_fail 38 = .ok (.iaload, 1) := by decide +kernel
theorem dX8_fail_39 : decode cX8_fail 39 = .ok (.putfield 9, 3) := by decide +kernel
theorem dX8_fail_42 : decode cX8_fail 42 = .ok (.return_, 1) := by decide +kernel
theorem dX8_hasMore_0 : decode cX8_hasMore 0 = .ok (.aload_n 0, 1) := by decide +kernel
theorem dX8_hasMore_1 : decode cX8_hasMore 1 = .ok (.getfield 32, 3) := by decide +kernel
theorem dX8_hasMore_4 : decode cX8_hasMore 4 = .ok (.ifCond .ne 15, 3) := by decide +kernel
theorem dX8_hasMore_7 : decode cX8_hasMore 7 = .ok (.aload_n 0, 1) := by decide +kernel
theorem dX8_hasMore_8 : decode cX8_hasMore 8 = .ok (.getfield 88, 3) := by decide +kernel
theorem dX8_hasMore_11 : decode cX8_hasMore 11 = .ok (.iconst 4, 1) := by decide +kernel
theorem dX8_hasMore_12 : decode cX8_hasMore 12 = .ok (.if_icmp .eq 7, 3) := by decide +kernel
theorem dX8_hasMore_15 : decode cX8_hasMore 15 = .ok (.iconst 1, 1) := by decide +kernel
theorem dX8_hasMore_16 : decode cX8_hasMore 16 = .ok (.goto 4, 3) := by decide +kernel
theorem dX8_hasMore_19 : decode cX8_hasMore 19 = .ok (.iconst 0, 1) := by decide +kernel
theorem dX8_hasMore_20 : decode cX8_hasMore 20 = .ok (.ireturn, 1) := by decide +kernel
theorem dX8_isWord_0 : decode cX8_isWord 0 = .ok (.aload_n 0, 1) := by decide +kernel
theorem dX8_isWord_1 : decode cX8_isWord 1 = .ok (.getfield 88, 3) := by decide +kernel
theorem dX8_isWord_4 : decode cX8_isWord 4 = .ok (.iconst 1, 1) := by decide +kernel
theorem dX8_isWord_5 : decode cX8_isWord 5 = .ok (.if_icmp .ne 15, 3) := by decide +kernel
theorem dX8_isWord_8 : decode cX8_isWord 8 = .ok (.aload_n 0, 1) := by decide +kernel
theorem dX8_isWord_9 : decode cX8_isWord 9 = .ok (.getfield 91, 3) := by decide +kernel
theorem dX8_isWord_12 : decode cX8_isWord 12 = .ok (.iload_n 1, 1) := by decide +kernel
theorem dX8_isWord_13 : decode cX8_isWord 13 = .ok (.if_icmp .ne 7, 3) := by decide +kernel
theorem dX8_isWord_16 : decode cX8_isWord 16 = .ok (.iconst 1, 1) := by decide +kernel
theorem dX8_isWord_17 : decode cX8_isWord 17 = .ok (.goto 4, 3) := by decide +kernel
theorem dX8_isWord_20 : decode cX8_isWord 20 = .ok (.iconst 0, 1) := by decide +kernel
theorem dX8_isWord_21 : decode cX8_isWord 21 = .ok (.ireturn, 1) := by decide +kernel
theorem dX8_takeSign_0 : decode cX8_takeSign 0 = .ok (.aload_n 0, 1) := by decide +kernel
theorem dX8_takeSign_1 : decode cX8_takeSign 1 = .ok (.getfield 88, 3) := by decide +kernel
theorem dX8_takeSign_4 : decode cX8_takeSign 4 = .ok (.iconst 3, 1) := by decide +kernel
theorem dX8_takeSign_5 : decode cX8_takeSign 5 = .ok (.if_icmp .ne 18, 3) := by decide +kernel
theorem dX8_takeSign_8 : decode cX8_takeSign 8 = .ok (.aload_n 0, 1) := by decide +kernel
theorem dX8_takeSign_9 : decode cX8_takeSign 9 = .ok (.getfield 91, 3) := by decide +kernel
theorem dX8_takeSign_12 : decode cX8_takeSign 12 = .ok (.iload_n 1, 1) := by decide +kernel
theorem dX8_takeSign_13 : decode cX8_takeSign 13 = .ok (.if_icmp .ne 10, 3) := by decide +kernel
theorem dX8_takeSign_16 : decode cX8_takeSign 16 = .ok (.aload_n 0, 1) := by decide +kernel
theorem dX8_takeSign_17 : decode cX8_takeSign 17 = .ok (.invokevirtual 59, 3) := by decide +kernel
theorem dX8_takeSign_20 : decode cX8_takeSign 20 = .ok (.goto 8, 3) := by decide +kernel
theorem dX8_takeSign_23 : decode cX8_takeSign 23 = .ok (.aload_n 0, 1) := by decide +kernel
theorem dX8_takeSign_24 : decode cX8_takeSign 24 = .ok (.iconst 1, 1) := by decide +kernel
theorem dX8_takeSign_25 : decode cX8_takeSign 25 = .ok (.invokevirtual 94, 3) := by decide +kernel
theorem dX8_takeSign_28 : decode cX8_takeSign 28 = .ok (.return_, 1) := by decide +kernel
theorem dX8_takeWord_0 : decode cX8_takeWord 0 = .ok (.aload_n 0, 1) := by decide +kernel
theorem dX8_takeWord_1 : decode cX8_takeWord 1 = .ok (.getfield 88, 3) := by decide +kernel
theorem dX8_takeWord_4 : decode cX8_takeWord 4 = .ok (.iconst 1, 1) := by decide +kernel
theorem dX8_takeWord_5 : decode cX8_takeWord 5 = .ok (.if_icmp .ne 19, 3) := by decide +kernel
theorem dX8_takeWord_8 : decode cX8_takeWord 8 = .ok (.aload_n 0, 1) := by decide +kernel
theorem dX8_takeWord_9 : decode cX8_takeWord 9 = .ok (.getfield 91, 3) := by decide +kernel
theorem dX8_takeWord_12 : decode cX8_takeWord 12 = .ok (.iload_n 1, 1) := by decide +kernel
theorem dX8_takeWord_13 : decode cX8_takeWord 13 = .ok (.if_icmp .lt 11, 3) := by decide +kernel
theorem dX8_takeWord_16 : decode cX8_takeWord 16 = .ok (.aload_n 0, 1) := by decide +kernel
theorem dX8_takeWord_17 : decode cX8_takeWord 17 = .ok (.getfield 91, 3) := by decide +kernel
theorem dX8_takeWord_20 : decode cX8_takeWord 20 = .ok (.iload_n 2, 1) := by decide +kernel
theorem dX8_takeWord_21 : decode cX8_takeWord 21 = .ok (.if_icmp .le 10, 3) := by decide +kernel
theorem dX8_takeWord_24 : decode cX8_takeWord 24 = .ok (.aload_n 0, 1) := by decide +kernel
theorem dX8_takeWord_25 : decode cX8_takeWord 25 = .ok (.iconst 1, 1) := by decide +kernel
theorem dX8_takeWord_26 : decode cX8_takeWord 26 = .ok (.invokevirtual 94, 3) := by decide +kernel
theorem dX8_takeWord_29 : decode cX8_takeWord 29 = .ok (.iconst (-1), 1) := by decide +kernel
theorem dX8_takeWord_30 : decode cX8_takeWord 30 = .ok (.ireturn, 1) := by decide +kernel
theorem dX8_takeWord_31 : decode cX8_takeWord 31 = .ok (.aload_n 0, 1) := by decide +kernel
theorem dX8_takeWord_32 : decode cX8_takeWord 32 = .ok (.getfield 91, 3) := by decide +kernel
theorem dX8_takeWord_35 : decode cX8_takeWord 35 = .ok (.istore_n 3, 1) := by decide +kernel
theorem dX8_takeWord_36 : decode cX8_takeWord 36 = .ok (.aload_n 0, 1) := by decide +kernel
theorem dX8_takeWord_37 : decode cX8_takeWord 37 = .ok (.invokevirtual 59, 3) := by decide +kernel
theorem dX8_takeWord_40 : decode cX8_takeWord 40 = .ok (.iload_n 3, 1) := by decide +kernel
theorem dX8_takeWord_41 : decode cX8_takeWord 41 = .ok (.ireturn, 1) := by decide +kernel
theorem dX8_takeNumber_0 : decode cX8_takeNumber 0 = .ok (.aload_n 0, 1) := by decide +kernel
theorem dX8_takeNumber_1 : decode cX8_takeNumber 1 = .ok (.iload_n 1, 1) := by decide +kernel
theorem dX8_takeNumber_2 : decode cX8_takeNumber 2 = .ok (.iload_n 2, 1) := by decide +kernel
theorem dX8_takeNumber_3 : decode cX8_takeNumber 3 = .ok (.invokevirtual 97, 3) := by decide +kernel
theorem dX8_takeNumber_6 : decode cX8_takeNumber 6 = .ok (.istore_n 3, 1) := by decide +kernel
theorem dX8_takeNumber_7 : decode cX8_takeNumber 7 = .ok (.aload_n 0, 1) := by decide +kernel
theorem dX8_takeNumber_8 : decode cX8_takeNumber 8 = .ok (.invokevirtual 59, 3) := by decide +kernel
theorem dX8_takeNumber_11 : decode cX8_takeNumber 11 = .ok (.iload_n 3, 1) := by decide +kernel
theorem dX8_takeNumber_12 : decode cX8_takeNumber 12 = .ok (.ireturn, 1) := by decide +kernel
theorem dX8_checkNumber_0 : decode cX8_checkNumber 0 = .ok (.aload_n 0, 1) := by decide +kernel
theorem dX8_checkNumber_1 : decode cX8_checkNumber 1 = .ok (.getfield 88, 3) := by decide +kernel
theorem dX8_checkNumber_4 : decode cX8_checkNumber 4 = .ok (.iconst 2, 1) := by decide +kernel
theorem dX8_checkNumber_5 : decode cX8_checkNumber 5 = .ok (.if_icmp .eq 10, 3) := by decide +kernel
theorem dX8_checkNumber_8 : decode cX8_checkNumber 8 = .ok (.aload_n 0, 1) := by decide +kernel
theorem dX8_checkNumber_9 : decode cX8_checkNumber 9 = .ok (.iconst 1, 1) := by decide +kernel
theorem dX8_checkNumber_10 : decode cX8_checkNumber 10 = .ok (.invokevirtual 94, 3) := by decide +kernel
theorem dX8_checkNumber_13 : decode cX8_checkNumber 13 = .ok (.iconst (-1), 1) := by decide +kernel
theorem dX8_checkNumber_14 : decode cX8_checkNumber 14 = .ok (.ireturn, 1) := by decide +kernel
theorem dX8_checkNumber_15 : decode cX8_checkNumber 15 = .ok (.aload_n 0, 1) := by decide +kernel
theorem dX8_checkNumber_16 : decode cX8_checkNumber 16 = .ok (.getfield 91, 3) := by decide +kernel
theorem dX8_checkNumber_19 : decode cX8_checkNumber 19 = .ok (.iload_n 1, 1) := by decide +kernel
theorem dX8_checkNumber_20 : decode cX8_checkNumber 20 = .ok (.if_icmp .lt 11, 3) := by decide +kernel
theorem dX8_checkNumber_23 : decode cX8_checkNumber 23 = .ok (.aload_n 0, 1) := by decide +kernel
theorem dX8_checkNumber_24 : decode cX8_checkNumber 24 = .ok (.getfield 91, 3) := by decide +kernel
theorem dX8_checkNumber_27 : decode cX8_checkNumber 27 = .ok (.iload_n 2, 1) := by decide +kernel
theorem dX8_checkNumber_28 : decode cX8_checkNumber 28 = .ok (.if_icmp .le 10, 3) := by decide +kernel
theorem dX8_checkNumber_31 : decode cX8_checkNumber 31 = .ok (.aload_n 0, 1) := by decide +kernel
theorem dX8_checkNumber_32 : decode cX8_checkNumber 32 = .ok (.iconst 2, 1) := by decide +kernel
theorem dX8_checkNumber_33 : decode cX8_checkNumber 33 = .ok (.invokevirtual 94, 3) := by decide +kernel
theorem dX8_checkNumber_36 : decode cX8_checkNumber 36 = .ok (.iconst (-1), 1) := by decide +kernel
theorem dX8_checkNumber_37 : decode cX8_checkNumber 37 = .ok (.ireturn, 1) := by decide +kernel
theorem dX8_checkNumber_38 : decode cX8_checkNumber 38 = .ok (.aload_n 0, 1) := by decide +kernel
theorem dX8_checkNumber_39 : decode cX8_checkNumber 39 = .ok (.getfield 91, 3) := by decide +kernel
theorem dX8_checkNumber_42 : decode cX8_checkNumber 42 = .ok (.ireturn, 1) := by decide +kernel
theorem dX9_init_0 : decode cX9_init 0 = .ok (.aload_n 0, 1) := by decide +kernel
theorem dX9_init_1 : decode cX9_init 1 = .ok (.invokespecial 3, 3) := by decide +kernel
theorem dX9_init_4 : decode cX9_init 4 = .ok (.aload_n 0, 1) := by decide +kernel
theorem dX9_init_5 : decode cX9_init 5 = .ok (.bipush 64, 2) := by decide +kernel
theorem dX9_init_7 : decode cX9_init 7 = .ok (.newarray .int, 2) := by decide +kernel
theorem dX9_init_9 : decode cX9_init 9 = .ok (.putfield 9, 3) := by decide +kernel
theorem dX9_init_12 : decode cX9_init 12 = .ok (.return_, 1) := by decide +kernel
theorem dX9_clear_0 : decode cX9_clear 0 = .ok (.aload_n 0, 1) := by decide +kernel
theorem dX9_clear_1 : decode cX9_clear 1 = .ok (.iload_n 1, 1) := by decide +kernel
theorem dX9_clear_2 : decode cX9_clear 2 = .ok (.putfield 15, 3) := by decide +kernel
theorem dX9_clear_5 : decode cX9_clear 5 = .ok (.aload_n 0, 1) := by decide +kernel
theorem dX9_clear_6 : decode cX9_clear 6 = .ok (.iconst 0, 1) := by decide +kernel
theorem dX9_clear_7 : decode cX9_clear 7 = .ok (.putfield 19, 3) := by decide +kernel
theorem dX9_clear_10 : decode cX9_clear 10 = .ok (.iconst 0, 1) := by decide +kernel
theorem dX9_clear_11 : decode cX9_clear 11 = .ok (.istore_n 2, 1) := by decide +kernel
theorem dX9_clear_12 : decode cX9_clear 12 = .ok (.iload_n 2, 1) := by decide +kernel
theorem dX9_clear_13 : decode cX9_clear 13 = .ok (.bipush 8, 2) := by decide +kernel
theorem dX9_clear_15 : decode cX9_clear 15 = .ok (.if_icmp .ge 44, 3) := by decide +kernel
theorem dX9_clear_18 : decode cX9_clear 18 = .ok (.iconst 0, 1) := by decide +kernel
theorem dX9_clear_19 : decode cX9_clear 19 = .ok (.istore_n 3, 1) := by decide +kernel
theorem dX9_clear_20 : decode cX9_clear 20 = .ok (.iload_n 3, 1) := by decide +kernel
theorem dX9_clear_21 : decode cX9_clear 21 = .ok (.bipush 8, 2) := by decide +kernel
theorem dX9_clear_23 : decode cX9_clear 23 = .ok (.if_icmp .ge 30, 3) := by decide +kernel
theorem dX9_clear_26 : decode cX9_clear 26 = .ok (.aload_n 0, 1) := by decide +kernel
theorem dX9_clear_27 : decode cX9_clear 27 = .ok (.getfield 9, 3) := by decide +kernel
theorem dX9_clear_30 : decode cX9_clear 30 = .ok (.iload_n 2, 1) := by decide +kernel
theorem dX9_clear_31 : decode cX9_clear 31 = .ok (.bipush 8, 2) := by decide +kernel
theorem dX9_clear_33 : decode cX9_clear 33 = .ok (.imul, 1) := by decide +kernel
theorem dX9_clear_34 : decode cX9_clear 34 = .ok (.iload_n 3, 1) := by decide +kernel
theorem dX9_clear_35 : decode cX9_clear 35 = .ok (.iadd, 1) := by decide +kernel
theorem dX9_clear_36 : decode cX9_clear 36 = .ok (.iload_n 2, 1) := by decide +kernel
theorem dX9_clear_37 : decode cX9_clear 37 = .ok (.iload_n 3, 1) := by decide +kernel
theorem dX9_clear_38 : decode cX9_clear 38 = .ok (.if_icmp .ne 7, 3) := by decide +kernel
theorem dX9_clear_41 : decode cX9_clear 41 = .ok (.iconst 0, 1) := by decide +kernel
theorem dX9_clear_42 : decode cX9_clear 42 = .ok (.goto 4, 3) := by decide +kernel
theorem dX9_clear_45 : decode cX9_clear 45 = .ok (.iconst (-1), 1) := by decide +kernel
theorem dX9_clear_46 : decode cX9_clear 46 = .ok (.iastore, 1) := by decide +kernel
theorem dX9_clear_47 : decode cX9_clear 47 = .ok (.iinc 3 1, 3) := by decide +kernel
theorem dX9_clear_50 : decode cX9_clear 50 = .ok (.goto (-30), 3) := by decide +kernel
theorem dX9_clear_53 : decode cX9_clear 53 = .ok (.iinc 2 1, 3) := by decide +kernel
theorem dX9_clear_56 : decode cX9_clear 56 = .ok (.goto (-44), 3) := by decide +kernel
theorem dX9_clear_59 : decode cX9_clear 59 = .ok (.return_, 1) := by decide +kernel
theorem dX9_copyFrom_0 : decode cX9_copyFrom 0 = .ok (.aload_n 0, 1) := by decide +kernel
theorem dX9_copyFrom_1 : decode cX9_copyFrom 1 = .ok (.aload_n 1, 1) := by decide +kernel
theorem dX9_copyFrom_2 : decode cX9_copyFrom 2 = .ok (.getfield 15, 3) := by decide +kernel
theorem dX9_copyFrom_5 : decode cX9_copyFrom 5 = .ok (.putfield 15, 3) := by decide +kernel
theorem dX9_copyFrom_8 : decode cX9_copyFrom 8 = .ok (.aload_n 0, 1) := by decide +kernel
theorem dX9_copyFrom_9 : decode cX9_copyFrom 9 = .ok (.aload_n 1, 1) := by decide +kernel
theorem dX9_copyFrom_10 : decode cX9_copyFrom 10 = .ok (.getfield 19, 3) := by decide +kernel
theorem dX9_copyFrom_13 : decode cX9_copyFrom 13 = .ok (.putfield 19, 3) := by decide +kernel
theorem dX9_copyFrom_16 : decode cX9_copyFrom 16 = .ok (.iconst 0, 1) := by decide +kernel
theorem dX9_copyFrom_17 : decode cX9_copyFrom 17 = .ok (.istore_n 2, 1) := by decide +kernel
theorem dX9_copyFrom_18 : decode cX9_copyFrom 18 = .ok (.iload_n 2, 1) := by decide +kernel
theorem dX9_copyFrom_19 : decode cX9_copyFrom 19 = .ok (.aload_n 0, 1) := by decide +kernel
theorem dX9_copyFrom_20 : decode cX9_copyFrom 20 = .ok (.getfield 9, 3) := by decide +kernel
theorem dX9_copyFrom_23 : decode cX9_copyFrom 23 = .ok (.arraylength, 1) := by decide +kernel
theorem dX9_copyFrom_24 : decode cX9_copyFrom 24 = .ok (.if_icmp .ge 21, 3) := by decide +kernel
theorem dX9_copyFrom_27 : decode cX9_copyFrom 27 = .ok (.aload_n 0, 1) := by decide +kernel
theorem dX9_copyFrom_28 : decode cX9_copyFrom 28 = .ok (.getfield 9, 3) := by decide +kernel
theorem dX9_copyFrom_31 : decode cX9_copyFrom 31 = .ok (.iload_n 2, 1) := by decide +kernel
theorem dX9_copyFrom_32 : decode cX9_copyFrom 32 = .ok (.aload_n 1, 1) := by decide +kernel
theorem dX9_copyFrom_33 : decode cX9_copyFrom 33 = .ok (.getfield 9, 3) := by decide +kernel
theorem dX9_copyFrom_36 : decode cX9_copyFrom 36 = .ok (.iload_n 2, 1) := by decide +kernel
theorem dX9_copyFrom_37 : decode cX9_copyFrom 37 = .ok (.iaload, 1) := by decide +kernel
theorem dX9_copyFrom_38 : decode cX9_copyFrom 38 = .ok (.iastore, 1) := by decide +kernel
theorem dX9_copyFrom_39 : decode cX9_copyFrom 39 = .ok (.iinc 2 1, 3) := by decide +kernel
theorem dX9_copyFrom_42 : decode cX9_copyFrom 42 = .ok (.goto (-24), 3) := by decide +kernel
theorem dX9_copyFrom_45 : decode cX9_copyFrom 45 = .ok (.return_, 1) := by decide +kernel
theorem dX9_wayMinutes_0 : decode cX9_wayMinutes 0 = .ok (.iload_n 1, 1) := by decide +kernel
theorem dX9_wayMinutes_1 : decode cX9_wayMinutes 1 = .ok (.iload_n 2, 1) := by decide +kernel
theorem dX9_wayMinutes_2 : decode cX9_wayMinutes 2 = .ok (.invokestatic 22, 3) := by decide +kernel
theorem dX9_wayMinutes_5 : decode cX9_wayMinutes 5 = .ok (.ifCond .eq 17, 3) := by decide +kernel
theorem dX9_wayMinutes_8 : decode cX9_wayMinutes 8 = .ok (.aload_n 0, 1) := by decide +kernel
theorem dX9_wayMinutes_9 : decode cX9_wayMinutes 9 = .ok (.getfield 9, 3) := by decide +kernel
theorem dX9_wayMinutes_12 : decode cX9_wayMinutes 12 = .ok (.iload_n 1, 1) := by decide +kernel
theorem dX9_wayMinutes_13 : decode cX9_wayMinutes 13 = .ok (.bipush 8, 2) := by decide +kernel
theorem dX9_wayMinutes_15 : decode cX9_wayMinutes 15 = .ok (.imul, 1) := by decide +kernel
theorem dX9_wayMinutes_16 : decode cX9_wayMinutes 16 = .ok (.iload_n 2, 1) := by decide +kernel
theorem dX9_wayMinutes_17 : decode cX9_wayMinutes 17 = .ok (.iadd, 1) := by decide +kernel
theorem dX9_wayMinutes_18 : decode cX9_wayMinutes 18 = .ok (.iaload, 1) := by decide +kernel
theorem dX9_wayMinutes_19 : decode cX9_wayMinutes 19 = .ok (.goto 4, 3) := by decide +kernel
theorem dX9_wayMinutes_22 : decode cX9_wayMinutes 22 = .ok (.iconst (-1), 1) := by decide +kernel
theorem dX9_wayMinutes_23 : decode cX9_wayMinutes 23 = .ok (.ireturn, 1) := by decide +kernel
theorem dX9_hasPlaces_0 : decode cX9_hasPlaces 0 = .ok (.iload_n 0, 1) := by decide +kernel
theorem dX9_hasPlaces_1 : decode cX9_hasPlaces 1 = .ok (.ifCond .lt 23, 3) := by decide +kernel
theorem dX9_hasPlaces_4 : decode cX9_hasPlaces 4 = .ok (.iload_n 0, 1) := by decide +kernel
theorem dX9_hasPlaces_5 : decode cX9_hasPlaces 5 = .ok (.bipush 8, 2) := by decide +kernel
theorem dX9_hasPlaces_7 : decode cX9_hasPlaces 7 = .ok (.if_icmp .ge 17, 3) := by decide +kernel
theorem dX9_hasPlaces_10 : decode cX9_hasPlaces 10 = .ok (.iload_n 1, 1) := by decide +kernel
theorem dX9_hasPlaces_11 : decode cX9_hasPlaces 11 = .ok (.ifCond .lt 13, 3) := by decide +kernel
theorem dX9_hasPlaces_14 : decode cX9_hasPlaces 14 = .ok (.iload_n 1, 1) := by decide +kernel
theorem dX9_hasPlaces_15 : decode cX9_hasPlaces 15 = .ok (.bipush 8, 2) := by decide +kernel
theorem dX9_hasPlaces_17 : decode cX9_hasPlaces 17 = .ok (.if_icmp .ge 7, 3) := by decide +kernel
theorem dX9_hasPlaces_20 : decode cX9_hasPlaces 20 = .ok (.iconst 1, 1) := by decide +kernel
theorem dX9_hasPlaces_21 : decode cX9_hasPlaces 21 = .ok (.goto 4, 3) := by decide +kernel
theorem dX9_hasPlaces_24 : decode cX9_hasPlaces 24 = .ok (.iconst 0, 1) := by decide +kernel
theorem dX9_hasPlaces_25 : decode cX9_hasPlaces 25 = .ok (.ireturn, 1) := by decide +kernel
theorem dX9_addRoad_0 : decode cX9_addRoad 0 = .ok (.iload_n 1, 1) := by decide +kernel
theorem dX9_addRoad_1 : decode cX9_addRoad 1 = .ok (.iload_n 2, 1) := by decide +kernel
theorem dX9_addRoad_2 : decode cX9_addRoad 2 = .ok (.invokestatic 22, 3) := by decide +kernel
theorem dX9_addRoad_5 : decode cX9_addRoad 5 = .ok (.ifCond .ne 4, 3) := by decide +kernel
theorem dX9_addRoad_8 : decode cX9_addRoad 8 = .ok (.return_, 1) := by decide +kernel
theorem dX9_addRoad_9 : decode cX9_addRoad 9 = .ok (.aload_n 0, 1) := by decide +kernel
theorem dX9_addRoad_10 : decode cX9_addRoad 10 = .ok (.dup, 1) := by decide +kernel
theorem dX9_addRoad_11 : decode cX9_addRoad 11 = .ok (.getfield 19, 3) := by decide +kernel
theorem dX9_addRoad_14 : decode cX9_addRoad 14 = .ok (.iconst 1, 1) := by decide +kernel
theorem dX9_addRoad_15 : decode cX9_addRoad 15 = .ok (.iadd, 1) := by decide +kernel
theorem dX9_addRoad_16 : decode cX9_addRoad 16 = .ok (.putfield 19, 3) := by decide +kernel
theorem dX9_addRoad_19 : decode cX9_addRoad 19 = .ok (.aload_n 0, 1) := by decide +kernel
theorem dX9_addRoad_20 : decode cX9_addRoad 20 = .ok (.getfield 9, 3) := by decide +kernel
theorem dX9_addRoad_23 : decode cX9_addRoad 23 = .ok (.iload_n 1, 1) := by decide +kernel
theorem dX9_addRoad_24 : decode cX9_addRoad 24 = .ok (.bipush 8, 2) := by decide +kernel
theorem dX9_addRoad_26 : decode cX9_addRoad 26 = .ok (.imul, 1) := by decide +kernel
theorem dX9_addRoad_27 : decode cX9_addRoad 27 = .ok (.iload_n 2, 1) := by decide +kernel
theorem dX9_addRoad_28 : decode cX9_addRoad 28 = .ok (.iadd, 1) := by decide +kernel
theorem dX9_addRoad_29 : decode cX9_addRoad 29 = .ok (.iload_n 3, 1) := by decide +kernel
theorem dX9_addRoad_30 : decode cX9_addRoad 30 = .ok (.iastore, 1) := by decide +kernel
theorem dX9_addRoad_31 : decode cX9_addRoad 31 = .ok (.aload_n 0, 1) := by decide +kernel
theorem dX9_addRoad_32 : decode cX9_addRoad 32 = .ok (.getfield 9, 3) := by decide +kernel
theorem dX9_addRoad_35 : decode cX9_addRoad 35 = .ok (.iload_n 2, 1) := by decide +kernel
theorem dX9_addRoad_36 : decode cX9_addRoad 36 = .ok (.bipush 8, 2) := by decide +kernel
theorem dX9_addRoad_38 : decode cX9_addRoad 38 = .ok (.imul, 1) := by decide +kernel
theorem dX9_addRoad_39 : decode cX9_addRoad 39 = .ok (.iload_n 1, 1) := by decide +kernel
theorem dX9_addRoad_40 : decode cX9_addRoad 40 = .ok (.iadd, 1) := by decide +kernel
theorem dX9_addRoad_41 : decode cX9_addRoad 41 = .ok (.iload_n 3, 1) := by decide +kernel
theorem dX9_addRoad_42 : decode cX9_addRoad 42 = .ok (.iastore, 1) := by decide +kernel
theorem dX9_addRoad_43 : decode cX9_addRoad 43 = .ok (.return_, 1) := by decide +kernel
theorem dX9_findWays_0 : decode cX9_findWays 0 = .ok (.iconst 0, 1) := by decide +kernel
theorem dX9_findWays_1 : decode cX9_findWays 1 = .ok (.istore_n 1, 1) := by decide +kernel
theorem dX9_findWays_2 : decode cX9_findWays 2 = .ok (.iload_n 1, 1) := by decide +kernel
theorem dX9_findWays_3 : decode cX9_findWays 3 = .ok (.bipush 8, 2) := by decide +kernel
theorem dX9_findWays_5 : decode cX9_findWays 5 = .ok (.if_icmp .ge 44, 3) := by decide +kernel
theorem dX9_findWays_8 : decode cX9_findWays 8 = .ok (.iconst 0, 1) := by decide +kernel
theorem dX9_findWays_9 : decode cX9_findWays 9 = .ok (.istore_n 2, 1) := by decide +kernel
theorem dX9_findWays_10 : decode cX9_findWays 10 = .ok (.iload_n 2, 1) := by decide +kernel
theorem dX9_findWays_11 : decode cX9_findWays 11 = .ok (.bipush 8, 2) := by decide +kernel
theorem dX9_findWays_13 : decode cX9_findWays 13 = .ok (.if_icmp .ge 30, 3) := by decide +kernel
theorem dX9_findWays_16 : decode cX9_findWays 16 = .ok (.iconst 0, 1) := by decide +kernel
theorem dX9_findWays_17 : decode cX9_findWays 17 = .ok (.istore_n 3, 1) := by decide +kernel
theorem dX9_findWays_18 : decode cX9_findWays 18 = .ok (.iload_n 3, 1) := by decide +kernel
theorem dX9_findWays_19 : decode cX9_findWays 19 = .ok (.bipush 8, 2) := by decide +kernel
theorem dX9_findWays_21 : decode cX9_findWays 21 = .ok (.if_icmp .ge 16, 3) := by decide +kernel
theorem dX9_findWays_24 : decode cX9_findWays 24 = .ok (.aload_n 0, 1) := by decide +kernel
theorem dX9_findWays_25 : decode cX9_findWays 25 = .ok (.iload_n 2, 1) := by decide +kernel
theorem dX9_findWays_26 : decode cX9_findWays 26 = .ok (.iload_n 3, 1) := by decide +kernel
theorem dX9_findWays_27 : decode cX9_findWays 27 = .ok (.iload_n 1, 1) := by decide +kernel
theorem dX9_findWays_28 : decode cX9_findWays 28 = .ok (.invokevirtual 26, 3) := by decide +kernel
theorem dX9_findWays_31 : decode cX9_findWays 31 = .ok (.iinc 3 1, 3) := by decide +kernel
theorem dX9_findWays_34 : decode cX9_findWays 34 = .ok (.goto (-16), 3) := by decide +kernel
theorem dX9_findWays_37 : decode cX9_findWays 37 = .ok (.iinc 2 1, 3) := by decide +kernel
theorem dX9_findWays_40 : decode cX9_findWays 40 = .ok (.goto (-30), 3) := by decide +kernel
theorem dX9_findWays_43 : decode cX9_findWays 43 = .ok (.iinc 1 1, 3) := by decide +kernel
theorem dX9_findWays_46 : decode cX9_findWays 46 = .ok (.goto (-44), 3) := by decide +kernel
theorem dX9_findWays_49 : decode cX9_findWays 49 = .ok (.return_, 1) := by decide +kernel
theorem dX9_shorten_0 : decode cX9_shorten 0 = .ok (.aload_n 0, 1) := by decide +kernel
theorem dX9_shorten_1 : decode cX9_shorten 1 = .ok (.iload_n 1, 1) := by decide +kernel
theorem dX9_shorten_2 : decode cX9_shorten 2 = .ok (.iload_n 3, 1) := by decide +kernel
theorem dX9_shorten_3 : decode cX9_shorten 3 = .ok (.invokevirtual 30, 3) := by decide +kernel
theorem dX9_shorten_6 : decode cX9_shorten 6 = .ok (.istore 4, 2) := by decide +kernel
theorem dX9_shorten_8 : decode cX9_shorten 8 = .ok (.aload_n 0, 1) := by decide +kernel
theorem dX9_shorten_9 : decode cX9_shorten 9 = .ok (.iload_n 3, 1) := by decide +kernel
theorem dX9_shorten_10 : decode cX9_shorten 10 = .ok (.iload_n 2, 1) := by decide +kernel
theorem dX9_shorten_11 : decode cX9_shorten 11 = .ok (.invokevirtual 30, 3) := by decide +kernel
theorem dX9_shorten_14 : decode cX9_shorten 14 = .ok (.istore 5, 2) := by decide +kernel
theorem dX9_shorten_16 : decode cX9_shorten 16 = .ok (.iload 4, 2) := by decide +kernel
theorem dX9_shorten_18 : decode cX9_shorten 18 = .ok (.iconst (-1), 1) := by decide +kernel
theorem dX9_shorten_19 : decode cX9_shorten 19 = .ok (.if_icmp .eq 17, 3) := by decide +kernel
theorem dX9_shorten_22 : decode cX9_shorten 22 = .ok (.iload 5, 2) := by decide +kernel
theorem dX9_shorten_24 : decode cX9_shorten 24 = .ok (.iconst (-1), 1) := by decide +kernel
theorem dX9_shorten_25 : decode cX9_shorten 25 = .ok (.if_icmp .eq 11, 3) := by decide +kernel
theorem dX9_shorten_28 : decode cX9_shorten 28 = .ok (.iload_n 1, 1) := by decide +kernel
theorem dX9_shorten_29 : decode cX9_shorten 29 = .ok (.iload_n 2, 1) := by decide +kernel
theorem dX9_shorten_30 : decode cX9_shorten 30 = .ok (.invokestatic 22, 3) := by decide +kernel
theorem dX9_shorten_33 : decode cX9_shorten 33 = .ok (.ifCond .ne 4, 3) := by decide +kernel
theorem dX9_shorten_36 : decode cX9_shorten 36 = .ok (.return_, 1) := by decide +kernel
theorem dX9_shorten_37 : decode cX9_shorten 37 = .ok (.aload_n 0, 1) := by decide +kernel
theorem dX9_shorten_38 : decode cX9_shorten 38 = .ok (.iload_n 1, 1) := by decide +kernel
theorem dX9_shorten_39 : decode cX9_shorten 39 = .ok (.iload_n 2, 1) := by decide +kernel
theorem dX9_shorten_40 : decode cX9_shorten 40 = .ok (.invokevirtual 30, 3) := by decide +kernel
theorem dX9_shorten_43 : decode cX9_shorten 43 = .ok (.istore 6, 2) := by decide +kernel
theorem dX9_shorten_45 : decode cX9_shorten 45 = .ok (.iload 6, 2) := by decide +kernel
theorem dX9_shorten_47 : decode cX9_shorten 47 = .ok (.iconst (-1), 1) := by decide +kernel
theorem dX9_shorten_48 : decode cX9_shorten 48 = .ok (.if_icmp .eq 13, 3) := by decide +kernel
theorem dX9_shorten_51 : decode cX9_shorten 51 = .ok (.iload 4, 2) := by decide +kernel
theorem dX9_shorten_53 : decode cX9_shorten 53 = .ok (.iload 5, 2) := by decide +kernel
theorem dX9_shorten_55 : decode cX9_shorten 55 = .ok (.iadd, 1) := by decide +kernel
theorem dX9_shorten_56 : decode cX9_shorten 56 = .ok (.iload 6, 2) := by decide +kernel
theorem dX9_shorten_58 : decode cX9_shorten 58 = .ok (.if_icmp .ge 19, 3) := by decide +kernel
theorem dX9_shorten_61 : decode cX9_shorten 61 = .ok (.aload_n 0, 1) := by decide +kernel
theorem dX9_shorten_62 : decode cX9_shorten 62 = .ok (.getfield 9, 3) := by decide +kernel
theorem dX9_shorten_65 : decode cX9_shorten 65 = .ok (.iload_n 1, 1) := by decide +kernel
theorem dX9_shorten_66 : decode cX9_shorten 66 = .ok (.bipush 8, 2) := by decide +kernel
theorem dX9_shorten_68 : decode cX9_shorten 68 = .ok (.imul, 1) := by decide +kernel
theorem dX9_shorten_69 : decode cX9_shorten 69 = .ok (.iload_n 2, 1) := by decide +kernel
theorem dX9_shorten_70 : decode cX9_shorten 70 = .ok (.iadd, 1) := by decide +kernel
theorem dX9_shorten_71 : decode cX9_shorten 71 = .ok (.iload 4, 2) := by decide +kernel
theorem dX9_shorten_73 : decode cX9_shorten 73 = .ok (.iload 5, 2) := by decide +kernel
theorem dX9_shorten_75 : decode cX9_shorten 75 = .ok (.iadd, 1) := by decide +kernel
theorem dX9_shorten_76 : decode cX9_shorten 76 = .ok (.iastore, 1) := by decide +kernel
theorem dX9_shorten_77 : decode cX9_shorten 77 = .ok (.return_, 1) := by decide +kernel
theorem dX10_init_0 : decode cX10_init 0 = .ok (.aload_n 0, 1) := by decide +kernel
theorem dX10_init_1 : decode cX10_init 1 = .ok (.invokespecial 3, 3) := by decide +kernel
theorem dX10_init_4 : decode cX10_init 4 = .ok (.aload_n 0, 1) := by decide +kernel
theorem dX10_init_5 : decode cX10_init 5 = .ok (.new 9, 3) := by decide +kernel
theorem dX10_init_8 : decode cX10_init 8 = .ok (.dup, 1) := by decide +kernel
theorem dX10_init_9 : decode cX10_init 9 = .ok (.invokespecial 11, 3) := by decide +kernel
theorem dX10_init_12 : decode cX10_init 12 = .ok (.putfield 12, 3) := by decide +kernel
theorem dX10_init_15 : decode cX10_init 15 = .ok (.aload_n 0, 1) := by decide +kernel
theorem dX10_init_16 : decode cX10_init 16 = .ok (.aload_n 1, 1) := by decide +kernel
theorem dX10_init_17 : decode cX10_init 17 = .ok (.putfield 18, 3) := by decide +kernel
theorem dX10_init_20 : decode cX10_init 20 = .ok (.aload_n 0, 1) := by decide +kernel
theorem dX10_init_21 : decode cX10_init 21 = .ok (.aload_n 2, 1) := by decide +kernel
theorem dX10_init_22 : decode cX10_init 22 = .ok (.putfield 22, 3) := by decide +kernel
theorem dX10_init_25 : decode cX10_init 25 = .ok (.aload_n 0, 1) := by decide +kernel
theorem dX10_init_26 : decode cX10_init 26 = .ok (.aload_n 3, 1) := by decide +kernel
theorem dX10_init_27 : decode cX10_init 27 = .ok (.putfield 26, 3) := by decide +kernel
theorem dX10_init_30 : decode cX10_init 30 = .ok (.return_, 1) := by decide +kernel
theorem dX10_passMinutes_0 : decode cX10_passMinutes 0 = .ok (.aload_n 0, 1) := by decide +kernel
theorem dX10_passMinutes_1 : decode cX10_passMinutes 1 = .ok (.getfield 22, 3) := by decide +kernel
theorem dX10_passMinutes_4 : decode cX10_passMinutes 4 = .ok (.getfield 30, 3) := by decide +kernel
theorem dX10_passMinutes_7 : decode cX10_passMinutes 7 = .ok (.iload_n 1, 1) := by decide +kernel
theorem dX10_passMinutes_8 : decode cX10_passMinutes 8 = .ok (.iadd, 1) := by decide +kernel
theorem dX10_passMinutes_9 : decode cX10_passMinutes 9 = .ok (.istore_n 2, 1) := by decide +kernel
theorem dX10_passMinutes_10 : decode cX10_passMinutes 10 = .ok (.iconst 0, 1) := by decide +kernel
theorem dX10_passMinutes_11 : decode cX10_passMinutes 11 = .ok (.istore_n 3, 1) := by decide +kernel
theorem dX10_passMinutes_12 : decode cX10_passMinutes 12 = .ok (.iconst 0, 1) := by decide +kernel
theorem dX10_passMinutes_13 : decode cX10_passMinutes 13 = .ok (.istore 4, 2) := by decide +kernel
theorem dX10_passMinutes_15 : decode cX10_passMinutes 15 = .ok (.iload 4, 2) := by decide +kernel
theorem dX10_passMinutes_17 : decode cX10_passMinutes 17 = .ok (.aload_n 0, 1) := by decide +kernel
theorem dX10_passMinutes_18 : decode cX10_passMinutes 18 = .ok (.getfield 22, 3) := by decide +kernel
theorem dX10_passMinutes_21 : decode cX10_passMinutes 21 = .ok (.getfield 36, 3) := by decide +kernel
theorem dX10_passMinutes_24 : decode cX10_passMinutes 24 = .ok (.if_icmp .ge 33, 3) := by decide +kernel
theorem dX10_passMinutes_27 : decode cX10_passMinutes 27 = .ok (.iload 4, 2) := by decide +kernel
theorem dX10_passMinutes_29 : decode cX10_passMinutes 29 = .ok (.iconst 4, 1) := by decide +kernel
theorem dX10_passMinutes_30 : decode cX10_passMinutes 30 = .ok (.if_icmp .ge 27, 3) := by decide +kernel
theorem dX10_passMinutes_33 : decode cX10_passMinutes 33 = .ok (.iload_n 3, 1) := by decide +kernel
theorem dX10_passMinutes_34 : decode cX10_passMinutes 34 = .ok (.aload_n 0, 1) := by decide +kernel
theorem dX10_passMinutes_35 : decode cX10_passMinutes 35 = .ok (.aload_n 0, 1) := by decide +kernel
theorem dX10_passMinutes_36 : decode cX10_passMinutes 36 = .ok (.getfield 22, 3) := by decide +kernel
theorem dX10_passMinutes_39 : decode cX10_passMinutes 39 = .ok (.getfield 39, 3) := by decide +kernel
theorem dX10_passMinutes_42 : decode cX10_passMinutes 42 = .ok (.iload 4, 2) := by decide +kernel
theorem dX10_passMinutes_44 : decode cX10_passMinutes 44 = .ok (.aaload, 1) := by decide +kernel
theorem dX10_passMinutes_45 : decode cX10_passMinutes 45 = .ok (.iload_n 2, 1) := by decide +kernel
theorem dX10_passMinutes_46 : decode cX10_passMinutes 46 = .ok (.invokevirtual 43, 3) := by decide +kernel
theorem dX10_passMinutes_49 : decode cX10_passMinutes 49 = .ok (.iadd, 1) := by decide +kernel
theorem dX10_passMinutes_50 : decode cX10_passMinutes 50 = .ok (.istore_n 3, 1) := by decide +kernel
theorem dX10_passMinutes_51 : decode cX10_passMinutes 51 = .ok (.iinc 4 1, 3) := by decide +kernel
theorem dX10_passMinutes_54 : decode cX10_passMinutes 54 = .ok (.goto (-39), 3) := by decide +kernel
theorem dX10_passMinutes_57 : decode cX10_passMinutes 57 = .ok (.aload_n 0, 1) := by decide +kernel
theorem dX10_passMinutes_58 : decode cX10_passMinutes 58 = .ok (.getfield 22, 3) := by decide +kernel
theorem dX10_passMinutes_61 : decode cX10_passMinutes 61 = .ok (.iload_n 2, 1) := by decide +kernel
theorem dX10_passMinutes_62 : decode cX10_passMinutes 62 = .ok (.putfield 30, 3) := by decide +kernel
theorem dX10_passMinutes_65 : decode cX10_passMinutes 65 = .ok (.aload_n 0, 1) := by decide +kernel
theorem dX10_passMinutes_66 : decode cX10_passMinutes 66 = .ok (.invokevirtual 47, 3) := by decide +kernel
theorem dX10_passMinutes_69 : decode cX10_passMinutes 69 = .ok (.iload_n 3, 1) := by decide +kernel
theorem dX10_passMinutes_70 : decode cX10_passMinutes 70 = .ok (.ireturn, 1) := by decide +kernel
theorem dX10_driveTill_0 : decode cX10_driveTill 0 = .ok (.iconst 0, 1) := by decide +kernel
theorem dX10_driveTill_1 : decode cX10_driveTill 1 = .ok (.istore_n 3, 1) := by decide +kernel
theorem dX10_driveTill_2 : decode cX10_driveTill 2 = .ok (.iconst 0, 1) := by decide +kernel
theorem dX10_driveTill_3 : decode cX10_driveTill 3 = .ok (.istore 4, 2) := by decide +kernel
theorem dX10_driveTill_5 : decode cX10_driveTill 5 = .ok (.iload 4, 2) := by decide +kernel
theorem dX10_driveTill_7 : decode cX10_driveTill 7 = .ok (.bipush 12, 2) := by decide +kernel
theorem dX10_driveTill_9 : decode cX10_driveTill 9 = .ok (.if_icmp .ge 74, 3) := by decide +kernel
theorem dX10_driveTill_12 : decode cX10_driveTill 12 = .ok (.aload_n 1, 1) := by decide +kernel
theorem dX10_driveTill_13 : decode cX10_driveTill 13 = .ok (.getfield 50, 3) := by decide +kernel
theorem dX10_driveTill_16 : decode cX10_driveTill 16 = .ok (.ifCond .le 67, 3) := by decide +kernel
theorem dX10_driveTill_19 : decode cX10_driveTill 19 = .ok (.aload_n 0, 1) := by decide +kernel
theorem dX10_driveTill_20 : decode cX10_driveTill 20 = .ok (.getfield 26, 3) := by decide +kernel
theorem dX10_driveTill_23 : decode cX10_driveTill 23 = .ok (.aload_n 1, 1) := by decide +kernel
theorem dX10_driveTill_24 : decode cX10_driveTill 24 = .ok (.invokevirtual 53, 3) := by decide +kernel
theorem dX10_driveTill_27 : decode cX10_driveTill 27 = .ok (.aload_n 0, 1) := by decide +kernel
theorem dX10_driveTill_28 : decode cX10_driveTill 28 = .ok (.getfield 26, 3) := by decide +kernel
theorem dX10_driveTill_31 : decode cX10_driveTill 31 = .ok (.iconst 0, 1) := by decide +kernel
theorem dX10_driveTill_32 : decode cX10_driveTill 32 = .ok (.invokevirtual 59, 3) := by decide +kernel
theorem dX10_driveTill_35 : decode cX10_driveTill 35 = .ok (.iload_n 2, 1) := by decide +kernel
theorem dX10_driveTill_36 : decode cX10_driveTill 36 = .ok (.if_icmp .le 33, 3) := by decide +kernel
theorem dX10_driveTill_39 : decode cX10_driveTill 39 = .ok (.aload_n 1, 1) := by decide +kernel
theorem dX10_driveTill_40 : decode cX10_driveTill 40 = .ok (.aload_n 0, 1) := by decide +kernel
theorem dX10_driveTill_41 : decode cX10_driveTill 41 = .ok (.getfield 26, 3) := by decide +kernel
theorem dX10_driveTill_44 : decode cX10_driveTill 44 = .ok (.iconst 0, 1) := by decide +kernel
theorem dX10_driveTill_45 : decode cX10_driveTill 45 = .ok (.invokevirtual 63, 3) := by decide +kernel
theorem dX10_driveTill_48 : decode cX10_driveTill 48 = .ok (.iload_n 2, 1) := by decide +kernel
theorem dX10_driveTill_49 : decode cX10_driveTill 49 = .ok (.if_icmp .ge 14, 3) := by decide +kernel
theorem dX10_driveTill_52 : decode cX10_driveTill 52 = .ok (.aload_n 0, 1) := by decide +kernel
theorem dX10_driveTill_53 : decode cX10_driveTill 53 = .ok (.getfield 26, 3) := by decide +kernel
theorem dX10_driveTill_56 : decode cX10_driveTill 56 = .ok (.iconst 0, 1) := by decide +kernel
theorem dX10_driveTill_57 : decode cX10_driveTill 57 = .ok (.invokevirtual 63, 3) := by decide +kernel
theorem dX10_driveTill_60 : decode cX10_driveTill 60 = .ok (.goto 4, 3) := by decide +kernel
theorem dX10_driveTill_63 : decode cX10_driveTill 63 = .ok (.iconst (-1), 1) := by decide +kernel
theorem dX10_driveTill_64 : decode cX10_driveTill 64 = .ok (.putfield 66, 3) := by decide +kernel
theorem dX10_driveTill_67 : decode cX10_driveTill 67 = .ok (.iload_n 3, 1) := by decide +kernel
theorem dX10_driveTill_68 : decode cX10_driveTill 68 = .ok (.ireturn, 1) := by decide +kernel
theorem dX10_driveTill_69 : decode cX10_driveTill 69 = .ok (.aload_n 0, 1) := by decide +kernel
theorem dX10_driveTill_70 : decode cX10_driveTill 70 = .ok (.aload_n 1, 1) := by decide +kernel
theorem dX10_driveTill_71 : decode cX10_driveTill 71 = .ok (.invokevirtual 69, 3) := by decide +kernel
theorem dX10_driveTill_74 : decode cX10_driveTill 74 = .ok (.iinc 3 1, 3) := by decide +kernel
theorem dX10_driveTill_77 : decode cX10_driveTill 77 = .ok (.iinc 4 1, 3) := by decide +kernel
theorem dX10_driveTill_80 : decode cX10_driveTill 80 = .ok (.goto (-75), 3) := by decide +kernel
theorem dX10_driveTill_83 : decode cX10_driveTill 83 = .ok (.iload_n 3, 1) := by decide +kernel
theorem dX10_driveTill_84 : decode cX10_driveTill 84 = .ok (.ireturn, 1) := by decide +kernel
theorem dX10_doFirstStop_0 : decode cX10_doFirstStop 0 = .ok (.aload_n 1, 1) := by decide +kernel
theorem dX10_doFirstStop_1 : decode cX10_doFirstStop 1 = .ok (.iconst 0, 1) := by decide +kernel
theorem dX10_doFirstStop_2 : decode cX10_doFirstStop 2 = .ok (.invokevirtual 72, 3) := by decide +kernel
theorem dX10_doFirstStop_5 : decode cX10_doFirstStop 5 = .ok (.istore_n 2, 1) := by decide +kernel
theorem dX10_doFirstStop_6 : decode cX10_doFirstStop 6 = .ok (.iload_n 2, 1) := by decide +kernel
theorem dX10_doFirstStop_7 : decode cX10_doFirstStop 7 = .ok (.invokestatic 75, 3) := by decide +kernel
theorem dX10_doFirstStop_10 : decode cX10_doFirstStop 10 = .ok (.istore_n 3, 1) := by decide +kernel
theorem dX10_doFirstStop_11 : decode cX10_doFirstStop 11 = .ok (.aload_n 0, 1) := by decide +kernel
theorem dX10_doFirstStop_12 : decode cX10_doFirstStop 12 = .ok (.aload_n 1, 1) := by decide +kernel
theorem dX10_doFirstStop_13 : decode cX10_doFirstStop 13 = .ok (.aload_n 0, 1) := by decide +kernel
theorem dX10_doFirstStop_14 : decode cX10_doFirstStop 14 = .ok (.getfield 26, 3) := by decide +kernel
theorem dX10_doFirstStop_17 : decode cX10_doFirstStop 17 = .ok (.iconst 0, 1) := by decide +kernel
theorem dX10_doFirstStop_18 : decode cX10_doFirstStop 18 = .ok (.invokevirtual 78, 3) := by decide +kernel
theorem dX10_doFirstStop_21 : decode cX10_doFirstStop 21 = .ok (.invokevirtual 81, 3) := by decide +kernel
theorem dX10_doFirstStop_24 : decode cX10_doFirstStop 24 = .ok (.aload_n 1, 1) := by decide +kernel
theorem dX10_doFirstStop_25 : decode cX10_doFirstStop 25 = .ok (.aload_n 0, 1) := by decide +kernel
theorem dX10_doFirstStop_26 : decode cX10_doFirstStop 26 = .ok (.getfield 26, 3) := by decide +kernel
theorem dX10_doFirstStop_29 : decode cX10_doFirstStop 29 = .ok (.aload_n 1, 1) := by decide +kernel
theorem dX10_doFirstStop_30 : decode cX10_doFirstStop 30 = .ok (.getfield 85, 3) := by decide +kernel
theorem dX10_doFirstStop_33 : decode cX10_doFirstStop 33 = .ok (.aload_n 1, 1) := by decide +kernel
theorem dX10_doFirstStop_34 : decode cX10_doFirstStop 34 = .ok (.getfield 88, 3) := by decide +kernel
theorem dX10_doFirstStop_37 : decode cX10_doFirstStop 37 = .ok (.aload_n 0, 1) := by decide +kernel
theorem dX10_doFirstStop_38 : decode cX10_doFirstStop 38 = .ok (.getfield 26, 3) := by decide +kernel
theorem dX10_doFirstStop_41 : decode cX10_doFirstStop 41 = .ok (.iconst 0, 1) := by decide +kernel
theorem dX10_doFirstStop_42 : decode cX10_doFirstStop 42 = .ok (.invokevirtual 63, 3) := by decide +kernel
theorem dX10_doFirstStop_45 : decode cX10_doFirstStop 45 = .ok (.aload_n 0, 1) := by decide +kernel
theorem dX10_doFirstStop_46 : decode cX10_doFirstStop 46 = .ok (.getfield 26, 3) := by decide +kernel
theorem dX10_doFirstStop_49 : decode cX10_doFirstStop 49 = .ok (.iconst 0, 1) := by decide +kernel
theorem dX10_doFirstStop_50 : decode cX10_doFirstStop 50 = .ok (.invokevirtual 78, 3) := by decide +kernel
theorem dX10_doFirstStop_53 : decode cX10_doFirstStop 53 = .ok (.invokevirtual 91, 3) := by decide +kernel
theorem dX10_doFirstStop_56 : decode cX10_doFirstStop 56 = .ok (.putfield 85, 3) := by decide +kernel
theorem dX10_doFirstStop_59 : decode cX10_doFirstStop 59 = .ok (.aload_n 1, 1) := by decide +kernel
theorem dX10_doFirstStop_60 : decode cX10_doFirstStop 60 = .ok (.aload_n 0, 1) := by decide +kernel
theorem dX10_doFirstStop_61 : decode cX10_doFirstStop 61 = .ok (.getfield 22, 3) := by decide +kernel
theorem dX10_doFirstStop_64 : decode cX10_doFirstStop 64 = .ok (.iload_n 2, 1) := by decide +kernel
theorem dX10_doFirstStop_65 : decode cX10_doFirstStop 65 = .ok (.invokevirtual 95, 3) := by decide +kernel
theorem dX10_doFirstStop_68 : decode cX10_doFirstStop 68 = .ok (.putfield 98, 3) := by decide +kernel
theorem dX10_doFirstStop_71 : decode cX10_doFirstStop 71 = .ok (.aload_n 1, 1) := by decide +kernel
theorem dX10_doFirstStop_72 : decode cX10_doFirstStop 72 = .ok (.aload_n 0, 1) := by decide +kernel
theorem dX10_doFirstStop_73 : decode cX10_doFirstStop 73 = .ok (.getfield 26, 3) := by decide +kernel
theorem dX10_doFirstStop_76 : decode cX10_doFirstStop 76 = .ok (.iconst 0, 1) := by decide +kernel
theorem dX10_doFirstStop_77 : decode cX10_doFirstStop 77 = .ok (.invokevirtual 59, 3) := by decide +kernel
theorem dX10_doFirstStop_80 : decode cX10_doFirstStop 80 = .ok (.putfield 88, 3) := by decide +kernel
theorem dX10_doFirstStop_83 : decode cX10_doFirstStop 83 = .ok (.aload_n 1, 1) := by decide +kernel
theorem dX10_doFirstStop_84 : decode cX10_doFirstStop 84 = .ok (.iconst (-1), 1) := by decide +kernel
theorem dX10_doFirstStop_85 : decode cX10_doFirstStop 85 = .ok (.putfield 66, 3) := by decide +kernel
theorem dX10_doFirstStop_88 : decode cX10_doFirstStop 88 = .ok (.aload_n 1, 1) := by decide +kernel
theorem dX10_doFirstStop_89 : decode cX10_doFirstStop 89 = .ok (.iload_n 2, 1) := by decide +kernel
theorem dX10_doFirstStop_90 : decode cX10_doFirstStop 90 = .ok (.invokevirtual 101, 3) := by decide +kernel
theorem dX10_doFirstStop_93 : decode cX10_doFirstStop 93 = .ok (.iload_n 2, 1) := by decide +kernel
theorem dX10_doFirstStop_94 : decode cX10_doFirstStop 94 = .ok (.invokestatic 105, 3) := by decide +kernel
theorem dX10_doFirstStop_97 : decode cX10_doFirstStop 97 = .ok (.ifCond .eq 12, 3) := by decide +kernel
theorem dX10_doFirstStop_100 : decode cX10_doFirstStop 100 = .ok (.aload_n 0, 1) := by decide +kernel
theorem dX10_doFirstStop_101 : decode cX10_doFirstStop 101 = .ok (.aload_n 1, 1) := by decide +kernel
theorem dX10_doFirstStop_102 : decode cX10_doFirstStop 102 = .ok (.iload_n 3, 1) := by decide +kernel
theorem dX10_doFirstStop_103 : decode cX10_doFirstStop 103 = .ok (.invokevirtual 109, 3) := by decide +kernel
theorem dX10_doFirstStop_106 : decode cX10_doFirstStop 106 = .ok (.goto 9, 3) := by decide +kernel
theorem dX10_doFirstStop_109 : decode cX10_doFirstStop 109 = .ok (.aload_n 0, 1) := by decide +kernel
theorem dX10_doFirstStop_110 : decode cX10_doFirstStop 110 = .ok (.aload_n 1, 1) := by decide +kernel
theorem dX10_doFirstStop_111 : decode cX10_doFirstStop 111 = .ok (.iload_n 3, 1) := by decide +kernel
theorem dX10_doFirstStop_112 : decode cX10_doFirstStop 112 = .ok (.invokevirtual 112, 3) := by decide +kernel
theorem dX10_doFirstStop_115 : decode cX10_doFirstStop 115 = .ok (.return_, 1) := by decide +kernel
theorem dX10_payWay_0 : decode cX10_payWay 0 = .ok (.aload_n 0, 1) := by decide +kernel
theorem dX10_payWay_1 : decode cX10_payWay 1 = .ok (.iload_n 2, 1) := by decide +kernel
theorem dX10_payWay_2 : decode cX10_payWay 2 = .ok (.aload_n 1, 1) := by decide +kernel
theorem dX10_payWay_3 : decode cX10_payWay 3 = .ok (.getfield 115, 3) := by decide +kernel
theorem dX10_payWay_6 : decode cX10_payWay 6 = .ok (.invokevirtual 118, 3) := by decide +kernel
theorem dX10_payWay_9 : decode cX10_payWay 9 = .ok (.istore_n 3, 1) := by decide +kernel
theorem dX10_payWay_10 : decode cX10_payWay 10 = .ok (.iconst 0, 1) := by decide +kernel
theorem dX10_payWay_11 : decode cX10_payWay 11 = .ok (.istore 4, 2) := by decide +kernel
theorem dX10_payWay_13 : decode cX10_payWay 13 = .ok (.iload 4, 2) := by decide +kernel
theorem dX10_payWay_15 : decode cX10_payWay 15 = .ok (.aload_n 1, 1) := by decide +kernel
theorem dX10_payWay_16 : decode cX10_payWay 16 = .ok (.getfield 115, 3) := by decide +kernel
theorem dX10_payWay_19 : decode cX10_payWay 19 = .ok (.if_icmp .ge 36, 3) := by decide +kernel
theorem dX10_payWay_22 : decode cX10_payWay 22 = .ok (.aload_n 1, 1) := by decide +kernel
theorem dX10_payWay_23 : decode cX10_payWay 23 = .ok (.aload_n 0, 1) := by decide +kernel
theorem dX10_payWay_24 : decode cX10_payWay 24 = .ok (.getfield 22, 3) := by decide +kernel
theorem dX10_payWay_27 : decode cX10_payWay 27 = .ok (.aload_n 1, 1) := by decide +kernel
theorem dX10_payWay_28 : decode cX10_payWay 28 = .ok (.iload 4, 2) := by decide +kernel
theorem dX10_payWay_30 : decode cX10_payWay 30 = .ok (.invokevirtual 122, 3) := by decide +kernel
theorem dX10_payWay_33 : decode cX10_payWay 33 = .ok (.invokevirtual 125, 3) := by decide +kernel
theorem dX10_payWay_36 : decode cX10_payWay 36 = .ok (.iload_n 3, 1) := by decide +kernel
theorem dX10_payWay_37 : decode cX10_payWay 37 = .ok (.aload_n 1, 1) := by decide +kernel
theorem dX10_payWay_38 : decode cX10_payWay 38 = .ok (.getfield 115, 3) := by decide +kernel
theorem dX10_payWay_41 : decode cX10_payWay 41 = .ok (.iload 4, 2) := by decide +kernel
theorem dX10_payWay_43 : decode cX10_payWay 43 = .ok (.invokestatic 129, 3) := by decide +kernel
theorem dX10_payWay_46 : decode cX10_payWay 46 = .ok (.invokestatic 133, 3) := by decide +kernel
theorem dX10_payWay_49 : decode cX10_payWay 49 = .ok (.iinc 4 1, 3) := by decide +kernel
theorem dX10_payWay_52 : decode cX10_payWay 52 = .ok (.goto (-39), 3) := by decide +kernel
theorem dX10_payWay_55 : decode cX10_payWay 55 = .ok (.aload_n 1, 1) := by decide +kernel
theorem dX10_payWay_56 : decode cX10_payWay 56 = .ok (.dup, 1) := by decide +kernel
theorem dX10_payWay_57 : decode cX10_payWay 57 = .ok (.getfield 137, 3) := by decide +kernel
theorem dX10_payWay_60 : decode cX10_payWay 60 = .ok (.iload_n 3, 1) := by decide +kernel
theorem dX10_payWay_61 : decode cX10_payWay 61 = .ok (.iadd, 1) := by decide +kernel
theorem dX10_payWay_62 : decode cX10_payWay 62 = .ok (.putfield 137, 3) := by decide +kernel
theorem dX10_payWay_65 : decode cX10_payWay 65 = .ok (.aload_n 1, 1) := by decide +kernel
theorem dX10_payWay_66 : decode cX10_payWay 66 = .ok (.dup, 1) := by decide +kernel
theorem dX10_payWay_67 : decode cX10_payWay 67 = .ok (.getfield 140, 3) := by decide +kernel
theorem dX10_payWay_70 : decode cX10_payWay 70 = .ok (.iload_n 2, 1) := by decide +kernel
theorem dX10_payWay_71 : decode cX10_payWay 71 = .ok (.iadd, 1) := by decide +kernel
theorem dX10_payWay_72 : decode cX10_payWay 72 = .ok (.putfield 140, 3) := by decide +kernel
theorem dX10_payWay_75 : decode cX10_payWay 75 = .ok (.aload_n 1, 1) := by decide +kernel
theorem dX10_payWay_76 : decode cX10_payWay 76 = .ok (.dup, 1) := by decide +kernel
theorem dX10_payWay_77 : decode cX10_payWay 77 = .ok (.getfield 143, 3) := by decide +kernel
theorem dX10_payWay_80 : decode cX10_payWay 80 = .ok (.aload_n 1, 1) := by decide +kernel
theorem dX10_payWay_81 : decode cX10_payWay 81 = .ok (.getfield 115, 3) := by decide +kernel
theorem dX10_payWay_84 : decode cX10_payWay 84 = .ok (.ifCond .le 7, 3) := by decide +kernel
theorem dX10_payWay_87 : decode cX10_payWay 87 = .ok (.iload_n 2, 1) := by decide +kernel
theorem dX10_payWay_88 : decode cX10_payWay 88 = .ok (.goto 4, 3) := by decide +kernel
theorem dX10_payWay_91 : decode cX10_payWay 91 = .ok (.iconst 0, 1) := by decide +kernel
theorem dX10_payWay_92 : decode cX10_payWay 92 = .ok (.iadd, 1) := by decide +kernel
theorem dX10_payWay_93 : decode cX10_payWay 93 = .ok (.putfield 143, 3) := by decide +kernel
theorem dX10_payWay_96 : decode cX10_payWay 96 = .ok (.aload_n 1, 1) := by decide +kernel
theorem dX10_payWay_97 : decode cX10_payWay 97 = .ok (.dup, 1) := by decide +kernel
theorem dX10_payWay_98 : decode cX10_payWay 98 = .ok (.getfield 146, 3) := by decide +kernel
theorem dX10_payWay_101 : decode cX10_payWay 101 = .ok (.aload_n 1, 1) := by decide +kernel
theorem dX10_payWay_102 : decode cX10_payWay 102 = .ok (.getfield 115, 3) := by decide +kernel
theorem dX10_payWay_105 : decode cX10_payWay 105 = .ok (.iconst 1, 1) := by decide +kernel
theorem dX10_payWay_106 : decode cX10_payWay 106 = .ok (.if_icmp .le 7, 3) := by decide +kernel
theorem dX10_payWay_109 : decode cX10_payWay 109 = .ok (.iload_n 2, 1) := by decide +kernel
theorem dX10_payWay_110 : decode cX10_payWay 110 = .ok (.goto 4, 3) := by decide +kernel
theorem dX10_payWay_113 : decode cX10_payWay 113 = .ok (.iconst 0, 1) := by decide +kernel
theorem dX10_payWay_114 : decode cX10_payWay 114 = .ok (.iadd, 1) := by decide +kernel
theorem dX10_payWay_115 : decode cX10_payWay 115 = .ok (.putfield 146, 3) := by decide +kernel
theorem dX10_payWay_118 : decode cX10_payWay 118 = .ok (.return_, 1) := by decide +kernel
theorem dX10_pay_0 : decode cX10_pay 0 = .ok (.aload_n 1, 1) := by decide +kernel
theorem dX10_pay_1 : decode cX10_pay 1 = .ok (.dup, 1) := by decide +kernel
theorem dX10_pay_2 : decode cX10_pay 2 = .ok (.getfield 149, 3) := by decide +kernel
theorem dX10_pay_5 : decode cX10_pay 5 = .ok (.iload_n 2, 1) := by decide +kernel
theorem dX10_pay_6 : decode cX10_pay 6 = .ok (.iadd, 1) := by decide +kernel
theorem dX10_pay_7 : decode cX10_pay 7 = .ok (.putfield 149, 3) := by decide +kernel
theorem dX10_pay_10 : decode cX10_pay 10 = .ok (.aload_n 0, 1) := by decide +kernel
theorem dX10_pay_11 : decode cX10_pay 11 = .ok (.dup, 1) := by decide +kernel
theorem dX10_pay_12 : decode cX10_pay 12 = .ok (.getfield 154, 3) := by decide +kernel
theorem dX10_pay_15 : decode cX10_pay 15 = .ok (.iload_n 2, 1) := by decide +kernel
theorem dX10_pay_16 : decode cX10_pay 16 = .ok (.iadd, 1) := by decide +kernel
theorem dX10_pay_17 : decode cX10_pay 17 = .ok (.putfield 154, 3) := by decide +kernel
theorem dX10_pay_20 : decode cX10_pay 20 = .ok (.return_, 1) := by decide +kernel
theorem dX10_endPickup_0 : decode cX10_endPickup 0 = .ok (.aload_n 0, 1) := by decide +kernel
theorem dX10_endPickup_1 : decode cX10_endPickup 1 = .ok (.getfield 22, 3) := by decide +kernel
theorem dX10_endPickup_4 : decode cX10_endPickup 4 = .ok (.iload_n 2, 1) := by decide +kernel
theorem dX10_endPickup_5 : decode cX10_endPickup 5 = .ok (.invokevirtual 125, 3) := by decide +kernel
theorem dX10_endPickup_8 : decode cX10_endPickup 8 = .ok (.astore_n 3, 1) := by decide +kernel
theorem dX10_endPickup_9 : decode cX10_endPickup 9 = .ok (.aload_n 3, 1) := by decide +kernel
theorem dX10_endPickup_10 : decode cX10_endPickup 10 = .ok (.aload_n 0, 1) := by decide +kernel
theorem dX10_endPickup_11 : decode cX10_endPickup 11 = .ok (.getfield 26, 3) := by decide +kernel
theorem dX10_endPickup_14 : decode cX10_endPickup 14 = .ok (.iconst 0, 1) := by decide +kernel
theorem dX10_endPickup_15 : decode cX10_endPickup 15 = .ok (.invokevirtual 59, 3) := by decide +kernel
theorem dX10_endPickup_18 : decode cX10_endPickup 18 = .ok (.putfield 157, 3) := by decide +kernel
theorem dX10_endPickup_21 : decode cX10_endPickup 21 = .ok (.aload_n 3, 1) := by decide +kernel
theorem dX10_endPickup_22 : decode cX10_endPickup 22 = .ok (.getfield 160, 3) := by decide +kernel
theorem dX10_endPickup_25 : decode cX10_endPickup 25 = .ok (.ifCond .eq 24, 3) := by decide +kernel
theorem dX10_endPickup_28 : decode cX10_endPickup 28 = .ok (.aload_n 3, 1) := by decide +kernel
theorem dX10_endPickup_29 : decode cX10_endPickup 29 = .ok (.iconst 5, 1) := by decide +kernel
theorem dX10_endPickup_30 : decode cX10_endPickup 30 = .ok (.putfield 164, 3) := by decide +kernel
theorem dX10_endPickup_33 : decode cX10_endPickup 33 = .ok (.aload_n 1, 1) := by decide +kernel
theorem dX10_endPickup_34 : decode cX10_endPickup 34 = .ok (.aload_n 3, 1) := by decide +kernel
theorem dX10_endPickup_35 : decode cX10_endPickup 35 = .ok (.aload_n 0, 1) := by decide +kernel
theorem dX10_endPickup_36 : decode cX10_endPickup 36 = .ok (.getfield 22, 3) := by decide +kernel
theorem dX10_endPickup_39 : decode cX10_endPickup 39 = .ok (.iconst 4, 1) := by decide +kernel
theorem dX10_endPickup_40 : decode cX10_endPickup 40 = .ok (.invokevirtual 167, 3) := by decide +kernel
theorem dX10_endPickup_43 : decode cX10_endPickup 43 = .ok (.invokestatic 133, 3) := by decide +kernel
theorem dX10_endPickup_46 : decode cX10_endPickup 46 = .ok (.goto 25, 3) := by decide +kernel
theorem dX10_endPickup_49 : decode cX10_endPickup 49 = .ok (.aload_n 3, 1) := by decide +kernel
theorem dX10_endPickup_50 : decode cX10_endPickup 50 = .ok (.iconst 2, 1) := by decide +kernel
theorem dX10_endPickup_51 : decode cX10_endPickup 51 = .ok (.putfield 164, 3) := by decide +kernel
theorem dX10_endPickup_54 : decode cX10_endPickup 54 = .ok (.aload_n 1, 1) := by decide +kernel
theorem dX10_endPickup_55 : decode cX10_endPickup 55 = .ok (.aload_n 3, 1) := by decide +kernel
theorem dX10_endPickup_56 : decode cX10_endPickup 56 = .ok (.aload_n 0, 1) := by decide +kernel
theorem dX10_endPickup_57 : decode cX10_endPickup 57 = .ok (.getfield 22, 3) := by decide +kernel
theorem dX10_endPickup_60 : decode cX10_endPickup 60 = .ok (.getfield 170, 3) := by decide +kernel
theorem dX10_endPickup_63 : decode cX10_endPickup 63 = .ok (.invokestatic 133, 3) := by decide +kernel
theorem dX10_endPickup_66 : decode cX10_endPickup 66 = .ok (.aload_n 1, 1) := by decide +kernel
theorem dX10_endPickup_67 : decode cX10_endPickup 67 = .ok (.iload_n 2, 1) := by decide +kernel
theorem dX10_endPickup_68 : decode cX10_endPickup 68 = .ok (.invokevirtual 173, 3) := by decide +kernel
theorem dX10_endPickup_71 : decode cX10_endPickup 71 = .ok (.return_, 1) := by decide +kernel
theorem dX10_endDrop_0 : decode cX10_endDrop 0 = .ok (.aload_n 0, 1) := by decide +kernel
theorem dX10_endDrop_1 : decode cX10_endDrop 1 = .ok (.getfield 22, 3) := by decide +kernel
theorem dX10_endDrop_4 : decode cX10_endDrop 4 = .ok (.iload_n 2, 1) := by decide +kernel
theorem dX10_endDrop_5 : decode cX10_endDrop 5 = .ok (.invokevirtual 125, 3) := by decide +kernel
theorem dX10_endDrop_8 : decode cX10_endDrop 8 = .ok (.astore_n 3, 1) := by decide +kernel
theorem dX10_endDrop_9 : decode cX10_endDrop 9 = .ok (.aload_n 3, 1) := by decide +kernel
theorem dX10_endDrop_10 : decode cX10_endDrop 10 = .ok (.iconst 3, 1) := by decide +kernel
theorem dX10_endDrop_11 : decode cX10_endDrop 11 = .ok (.putfield 164, 3) := by decide +kernel
theorem dX10_endDrop_14 : decode cX10_endDrop 14 = .ok (.aload_n 3, 1) := by decide +kernel
theorem dX10_endDrop_15 : decode cX10_endDrop 15 = .ok (.aload_n 0, 1) := by decide +kernel
theorem dX10_endDrop_16 : decode cX10_endDrop 16 = .ok (.getfield 26, 3) := by decide +kernel
theorem dX10_endDrop_19 : decode cX10_endDrop 19 = .ok (.iconst 0, 1) := by decide +kernel
theorem dX10_endDrop_20 : decode cX10_endDrop 20 = .ok (.invokevirtual 176, 3) := by decide +kernel
theorem dX10_endDrop_23 : decode cX10_endDrop 23 = .ok (.putfield 179, 3) := by decide +kernel
theorem dX10_endDrop_26 : decode cX10_endDrop 26 = .ok (.aload_n 1, 1) := by decide +kernel
theorem dX10_endDrop_27 : decode cX10_endDrop 27 = .ok (.iload_n 2, 1) := by decide +kernel
theorem dX10_endDrop_28 : decode cX10_endDrop 28 = .ok (.invokevirtual 182, 3) := by decide +kernel
theorem dX10_endDrop_31 : decode cX10_endDrop 31 = .ok (.return_, 1) := by decide +kernel
theorem dX10_closeOffers_0 : decode cX10_closeOffers 0 = .ok (.iconst 0, 1) := by decide +kernel
theorem dX10_closeOffers_1 : decode cX10_closeOffers 1 = .ok (.istore_n 1, 1) := by decide +kernel
theorem dX10_closeOffers_2 : decode cX10_closeOffers 2 = .ok (.iload_n 1, 1) := by decide +kernel
theorem dX10_closeOffers_3 : decode cX10_closeOffers 3 = .ok (.aload_n 0, 1) := by decide +kernel
theorem dX10_closeOffers_4 : decode cX10_closeOffers 4 = .ok (.getfield 22, 3) := by decide +kernel
theorem dX10_closeOffers_7 : decode cX10_closeOffers 7 = .ok (.getfield 185, 3) := by decide +kernel
theorem dX10_closeOffers_10 : decode cX10_closeOffers 10 = .ok (.if_icmp .ge 51, 3) := by decide +kernel
theorem dX10_closeOffers_13 : decode cX10_closeOffers 13 = .ok (.iload_n 1, 1) := by decide +kernel
theorem dX10_closeOffers_14 : decode cX10_closeOffers 14 = .ok (.bipush 24, 2) := by decide +kernel
theorem dX10_closeOffers_16 : decode cX10_closeOffers 16 = .ok (.if_icmp .ge 45, 3) := by decide +kernel
theorem dX10_closeOffers_19 : decode cX10_closeOffers 19 = .ok (.aload_n 0, 1) := by decide +kernel
theorem dX10_closeOffers_20 : decode cX10_closeOffers 20 = .ok (.getfield 22, 3) := by decide +kernel
theorem dX10_closeOffers_23 : decode cX10_closeOffers 23 = .ok (.getfield 188, 3) := by decide +kernel
theorem dX10_closeOffers_26 : decode cX10_closeOffers 26 = .ok (.iload_n 1, 1) := by decide +kernel
theorem dX10_closeOffers_27 : decode cX10_closeOffers 27 = .ok (.aaload, 1) := by decide +kernel
theorem dX10_closeOffers_28 : decode cX10_closeOffers 28 = .ok (.astore_n 2, 1) := by decide +kernel
theorem dX10_closeOffers_29 : decode cX10_closeOffers 29 = .ok (.aload_n 2, 1) := by decide +kernel
theorem dX10_closeOffers_30 : decode cX10_closeOffers 30 = .ok (.getfield 164, 3) := by decide +kernel
theorem dX10_closeOffers_33 : decode cX10_closeOffers 33 = .ok (.ifCond .ne 22, 3) := by decide +kernel
theorem dX10_closeOffers_36 : decode cX10_closeOffers 36 = .ok (.aload_n 0, 1) := by decide +kernel
theorem dX10_closeOffers_37 : decode cX10_closeOffers 37 = .ok (.getfield 22, 3) := by decide +kernel
theorem dX10_closeOffers_40 : decode cX10_closeOffers 40 = .ok (.getfield 30, 3) := by decide +kernel
theorem dX10_closeOffers_43 : decode cX10_closeOffers 43 = .ok (.aload_n 2, 1) := by decide +kernel
theorem dX10_closeOffers_44 : decode cX10_closeOffers 44 = .ok (.getfield 192, 3) := by decide +kernel
theorem dX10_closeOffers_47 : decode cX10_closeOffers 47 = .ok (.if_icmp .le 8, 3) := by decide +kernel
theorem dX10_closeOffers_50 : decode cX10_closeOffers 50 = .ok (.aload_n 2, 1) := by decide +kernel
theorem dX10_closeOffers_51 : decode cX10_closeOffers 51 = .ok (.iconst 4, 1) := by decide +kernel
theorem dX10_closeOffers_52 : decode cX10_closeOffers 52 = .ok (.putfield 164, 3) := by decide +kernel
theorem dX10_closeOffers_55 : decode cX10_closeOffers 55 = .ok (.iinc 1 1, 3) := by decide +kernel
theorem dX10_closeOffers_58 : decode cX10_closeOffers 58 = .ok (.goto (-56), 3) := by decide +kernel
theorem dX10_closeOffers_61 : decode cX10_closeOffers 61 = .ok (.return_, 1) := by decide +kernel
theorem dX10_amountOfWay_0 : decode cX10_amountOfWay 0 = .ok (.iload_n 2, 1) := by decide +kernel
theorem dX10_amountOfWay_1 : decode cX10_amountOfWay 1 = .ok (.iconst 1, 1) := by decide +kernel
theorem dX10_amountOfWay_2 : decode cX10_amountOfWay 2 = .ok (.if_icmp .ge 5, 3) := by decide +kernel
theorem dX10_amountOfWay_5 : decode cX10_amountOfWay 5 = .ok (.iconst 0, 1) := by decide +kernel
theorem dX10_amountOfWay_6 : decode cX10_amountOfWay 6 = .ok (.ireturn, 1) := by decide +kernel
theorem dX10_amountOfWay_7 : decode cX10_amountOfWay 7 = .ok (.iload_n 1, 1) := by decide +kernel
theorem dX10_amountOfWay_8 : decode cX10_amountOfWay 8 = .ok (.aload_n 0, 1) := by decide +kernel
theorem dX10_amountOfWay_9 : decode cX10_amountOfWay 9 = .ok (.getfield 22, 3) := by decide +kernel
theorem dX10_amountOfWay_12 : decode cX10_amountOfWay 12 = .ok (.getfield 195, 3) := by decide +kernel
theorem dX10_amountOfWay_15 : decode cX10_amountOfWay 15 = .ok (.imul, 1) := by decide +kernel
theorem dX10_amountOfWay_16 : decode cX10_amountOfWay 16 = .ok (.istore_n 3, 1) := by decide +kernel
theorem dX10_amountOfWay_17 : decode cX10_amountOfWay 17 = .ok (.iload_n 2, 1) := by decide +kernel
theorem dX10_amountOfWay_18 : decode cX10_amountOfWay 18 = .ok (.iconst 1, 1) := by decide +kernel
theorem dX10_amountOfWay_19 : decode cX10_amountOfWay 19 = .ok (.if_icmp .ne 7, 3) := by decide +kernel
theorem dX10_amountOfWay_22 : decode cX10_amountOfWay 22 = .ok (.iconst 0, 1) := by decide +kernel
theorem dX10_amountOfWay_23 : decode cX10_amountOfWay 23 = .ok (.goto 20, 3) := by decide +kernel
theorem dX10_amountOfWay_26 : decode cX10_amountOfWay 26 = .ok (.aload_n 0, 1) := by decide +kernel
theorem dX10_amountOfWay_27 : decode cX10_amountOfWay 27 = .ok (.getfield 22, 3) := by decide +kernel
theorem dX10_amountOfWay_30 : decode cX10_amountOfWay 30 = .ok (.bipush 7, 2) := by decide +kernel
theorem dX10_amountOfWay_32 : decode cX10_amountOfWay 32 = .ok (.iload_n 2, 1) := by decide +kernel
theorem dX10_amountOfWay_33 : decode cX10_amountOfWay 33 = .ok (.iconst 4, 1) := by decide +kernel
theorem dX10_amountOfWay_34 : decode cX10_amountOfWay 34 = .ok (.invokestatic 198, 3) := by decide +kernel
theorem dX10_amountOfWay_37 : decode cX10_amountOfWay 37 = .ok (.iadd, 1) := by decide +kernel
theorem dX10_amountOfWay_38 : decode cX10_amountOfWay 38 = .ok (.iconst 2, 1) := by decide +kernel
theorem dX10_amountOfWay_39 : decode cX10_amountOfWay 39 = .ok (.isub, 1) := by decide +kernel
theorem dX10_amountOfWay_40 : decode cX10_amountOfWay 40 = .ok (.invokevirtual 167, 3) := by decide +kernel
theorem dX10_amountOfWay_43 : decode cX10_amountOfWay 43 = .ok (.istore 4, 2) := by decide +kernel
theorem dX10_amountOfWay_45 : decode cX10_amountOfWay 45 = .ok (.iload_n 3, 1) := by decide +kernel
theorem dX10_amountOfWay_46 : decode cX10_amountOfWay 46 = .ok (.iload_n 3, 1) := by decide +kernel
theorem dX10_amountOfWay_47 : decode cX10_amountOfWay 47 = .ok (.iload 4, 2) := by decide +kernel
theorem dX10_amountOfWay_49 : decode cX10_amountOfWay 49 = .ok (.imul, 1) := by decide +kernel
theorem dX10_amountOfWay_50 : decode cX10_amountOfWay 50 = .ok (.bipush 100, 2) := by decide +kernel
theorem dX10_amountOfWay_52 : decode cX10_amountOfWay 52 = .ok (.idiv, 1) := by decide +kernel
theorem dX10_amountOfWay_53 : decode cX10_amountOfWay 53 = .ok (.isub, 1) := by decide +kernel
theorem dX10_amountOfWay_54 : decode cX10_amountOfWay 54 = .ok (.ireturn, 1) := by decide +kernel
theorem dX10_shareOf_0 : decode cX10_shareOf 0 = .ok (.iload_n 1, 1) := by decide +kernel
theorem dX10_shareOf_1 : decode cX10_shareOf 1 = .ok (.iconst 1, 1) := by decide +kernel
theorem dX10_shareOf_2 : decode cX10_shareOf 2 = .ok (.if_icmp .ge 5, 3) := by decide +kernel
theorem dX10_shareOf_5 : decode cX10_shareOf 5 = .ok (.iconst 0, 1) := by decide +kernel
theorem dX10_shareOf_6 : decode cX10_shareOf 6 = .ok (.ireturn, 1) := by decide +kernel
theorem dX10_shareOf_7 : decode cX10_shareOf 7 = .ok (.iload_n 0, 1) := by decide +kernel
theorem dX10_shareOf_8 : decode cX10_shareOf 8 = .ok (.iload_n 1, 1) := by decide +kernel
theorem dX10_shareOf_9 : decode cX10_shareOf 9 = .ok (.idiv, 1) := by decide +kernel
theorem dX10_shareOf_10 : decode cX10_shareOf 10 = .ok (.iload_n 2, 1) := by decide +kernel
theorem dX10_shareOf_11 : decode cX10_shareOf 11 = .ok (.iload_n 0, 1) := by decide +kernel
theorem dX10_shareOf_12 : decode cX10_shareOf 12 = .ok (.iload_n 1, 1) := by decide +kernel
theorem dX10_shareOf_13 : decode cX10_shareOf 13 = .ok (.irem, 1) := by decide +kernel
theorem dX10_shareOf_14 : decode cX10_shareOf 14 = .ok (.if_icmp .ge 7, 3) := by decide +kernel
theorem dX10_shareOf_17 : decode cX10_shareOf 17 = .ok (.iconst 1, 1) := by decide +kernel
theorem dX10_shareOf_18 : decode cX10_shareOf 18 = .ok (.goto 4, 3) := by decide +kernel
theorem dX10_shareOf_21 : decode cX10_shareOf 21 = .ok (.iconst 0, 1) := by decide +kernel
theorem dX10_shareOf_22 : decode cX10_shareOf 22 = .ok (.iadd, 1) := by decide +kernel
theorem dX10_shareOf_23 : decode cX10_shareOf 23 = .ok (.ireturn, 1) := by decide +kernel
theorem dX11_init_0 : decode cX11_init 0 = .ok (.aload_n 0, 1) := by decide +kernel
theorem dX11_init_1 : decode cX11_init 1 = .ok (.invokespecial 1, 3) := by decide +kernel
theorem dX11_init_4 : decode cX11_init 4 = .ok (.aload_n 0, 1) := by decide +kernel
theorem dX11_init_5 : decode cX11_init 5 = .ok (.sipush 800, 3) := by decide +kernel
theorem dX11_init_8 : decode cX11_init 8 = .ok (.newarray .byte, 2) := by decide +kernel
theorem dX11_init_10 : decode cX11_init 10 = .ok (.putfield 9, 3) := by decide +kernel
theorem dX11_init_13 : decode cX11_init 13 = .ok (.aload_n 0, 1) := by decide +kernel
theorem dX11_init_14 : decode cX11_init 14 = .ok (.iconst 0, 1) := by decide +kernel
theorem dX11_init_15 : decode cX11_init 15 = .ok (.putfield 13, 3) := by decide +kernel
theorem dX11_init_18 : decode cX11_init 18 = .ok (.aload_n 0, 1) := by decide +kernel
theorem dX11_init_19 : decode cX11_init 19 = .ok (.iconst (-1), 1) := by decide +kernel
theorem dX11_init_20 : decode cX11_init 20 = .ok (.putfield 17, 3) := by decide +kernel
theorem dX11_init_23 : decode cX11_init 23 = .ok (.aload_n 0, 1) := by decide +kernel
theorem dX11_init_24 : decode cX11_init 24 = .ok (.bipush 80, 2) := by decide +kernel
theorem dX11_init_26 : decode cX11_init 26 = .ok (.newarray .byte, 2) := by decide +kernel
theorem dX11_init_28 : decode cX11_init 28 = .ok (.putfield 20, 3) := by decide +kernel
theorem dX11_init_31 : decode cX11_init 31 = .ok (.aload_n 0, 1) := by decide +kernel
theorem dX11_init_32 : decode cX11_init 32 = .ok (.iconst 0, 1) := by decide +kernel
theorem dX11_init_33 : decode cX11_init 33 = .ok (.putfield 23, 3) := by decide +kernel
theorem dX11_init_36 : decode cX11_init 36 = .ok (.aload_n 0, 1) := by decide +kernel
theorem dX11_init_37 : decode cX11_init 37 = .ok (.new 26, 3) := by decide +kernel
theorem dX11_init_40 : decode cX11_init 40 = .ok (.dup, 1) := by decide +kernel
theorem dX11_init_41 : decode cX11_init 41 = .ok (.invokespecial 28, 3) := by decide +kernel
theorem dX11_init_44 : decode cX11_init 44 = .ok (.putfield 29, 3) := by decide +kernel
theorem dX11_init_47 : decode cX11_init 47 = .ok (.aload_n 0, 1) := by decide +kernel
theorem dX11_init_48 : decode cX11_init 48 = .ok (.new 33, 3) := by decide +kernel
theorem dX11_init_51 : decode cX11_init 51 = .ok (.dup, 1) := by decide +kernel
theorem dX11_init_52 : decode cX11_init 52 = .ok (.invokespecial 35, 3) := by decide +kernel
theorem dX11_init_55 : decode cX11_init 55 = .ok (.putfield 36, 3) := by decide +kernel
theorem dX11_init_58 : decode cX11_init 58 = .ok (.aload_n 0, 1) := by decide +kernel
theorem dX11_init_59 : decode cX11_init 59 = .ok (.new 40, 3) := by decide +kernel
theorem dX11_init_62 : decode cX11_init 62 = .ok (.dup, 1) := by decide +kernel
theorem dX11_init_63 : decode cX11_init 63 = .ok (.invokespecial 42, 3) := by decide +kernel
theorem dX11_init_66 : decode cX11_init 66 = .ok (.putfield 43, 3) := by decide +kernel
theorem dX11_init_69 : decode cX11_init 69 = .ok (.aload_n 0, 1) := by decide +kernel
theorem dX11_init_70 : decode cX11_init 70 = .ok (.new 33, 3) := by decide +kernel
theorem dX11_init_73 : decode cX11_init 73 = .ok (.dup, 1) := by decide +kernel
theorem dX11_init_74 : decode cX11_init 74 = .ok (.invokespecial 35, 3) := by decide +kernel
theorem dX11_init_77 : decode cX11_init 77 = .ok (.putfield 47, 3) := by decide +kernel
theorem dX11_init_80 : decode cX11_init 80 = .ok (.aload_n 0, 1) := by decide +kernel
theorem dX11_init_81 : decode cX11_init 81 = .ok (.iconst 0, 1) := by decide +kernel
theorem dX11_init_82 : decode cX11_init 82 = .ok (.putfield 50, 3) := by decide +kernel
theorem dX11_init_85 : decode cX11_init 85 = .ok (.aload_n 0, 1) := by decide +kernel
theorem dX11_init_86 : decode cX11_init 86 = .ok (.new 54, 3) := by decide +kernel
theorem dX11_init_89 : decode cX11_init 89 = .ok (.dup, 1) := by decide +kernel
theorem dX11_init_90 : decode cX11_init 90 = .ok (.aload_n 0, 1) := by decide +kernel
theorem dX11_init_91 : decode cX11_init 91 = .ok (.getfield 29, 3) := by decide +kernel
theorem dX11_init_94 : decode cX11_init 94 = .ok (.aload_n 0, 1) := by decide +kernel
theorem dX11_init_95 : decode cX11_init 95 = .ok (.getfield 36, 3) := by decide +kernel
theorem dX11_init_98 : decode cX11_init 98 = .ok (.invokespecial 56, 3) := by decide +kernel
theorem dX11_init_101 : decode cX11_init 101 = .ok (.putfield 59, 3) := by decide +kernel
theorem dX11_init_104 : decode cX11_init 104 = .ok (.aload_n 0, 1) := by decide +kernel
theorem dX11_init_105 : decode cX11_init 105 = .ok (.new 63, 3) := by decide +kernel
theorem dX11_init_108 : decode cX11_init 108 = .ok (.dup, 1) := by decide +kernel
theorem dX11_init_109 : decode cX11_init 109 = .ok (.aload_n 0, 1) := by decide +kernel
theorem dX11_init_110 : decode cX11_init 110 = .ok (.getfield 59, 3) := by decide +kernel
theorem dX11_init_113 : decode cX11_init 113 = .ok (.invokespecial 65, 3) := by decide +kernel
theorem dX11_init_116 : decode cX11_init 116 = .ok (.putfield 68, 3) := by decide +kernel
theorem dX11_init_119 : decode cX11_init 119 = .ok (.aload_n 0, 1) := by decide +kernel
theorem dX11_init_120 : decode cX11_init 120 = .ok (.new 72, 3) := by decide +kernel
theorem dX11_init_123 : decode cX11_init 123 = .ok (.dup, 1) := by decide +kernel
theorem dX11_init_124 : decode cX11_init 124 = .ok (.aload_n 0, 1) := by decide +kernel
theorem dX11_init_125 : decode cX11_init 125 = .ok (.getfield 29, 3) := by decide +kernel
theorem dX11_init_128 : decode cX11_init 128 = .ok (.aload_n 0, 1) := by decide +kernel
theorem dX11_init_129 : decode cX11_init 129 = .ok (.getfield 36, 3) := by decide +kernel
theorem dX11_init_132 : decode cX11_init 132 = .ok (.aload_n 0, 1) := by decide +kernel
theorem dX11_init_133 : decode cX11_init 133 = .ok (.getfield 59, 3) := by decide +kernel
theorem dX11_init_136 : decode cX11_init 136 = .ok (.invokespecial 74, 3) := by decide +kernel
theorem dX11_init_139 : decode cX11_init 139 = .ok (.putfield 77, 3) := by decide +kernel
theorem dX11_init_142 : decode cX11_init 142 = .ok (.aload_n 0, 1) := by decide +kernel
theorem dX11_init_143 : decode cX11_init 143 = .ok (.new 81, 3) := by decide +kernel
theorem dX11_init_146 : decode cX11_init 146 = .ok (.dup, 1) := by decide +kernel
theorem dX11_init_147 : decode cX11_init 147 = .ok (.aload_n 0, 1) := by decide +kernel
theorem dX11_init_148 : decode cX11_init 148 = .ok (.getfield 9, 3) := by decide +kernel
theorem dX11_init_151 : decode cX11_init 151 = .ok (.invokespecial 83, 3) := by decide +kernel
theorem dX11_init_154 : decode cX11_init 154 = .ok (.putfield 86, 3) := by decide +kernel
theorem dX11_init_157 : decode cX11_init 157 = .ok (.aload_n 0, 1) := by decide +kernel
theorem dX11_init_158 : decode cX11_init 158 = .ok (.new 90, 3) := by decide +kernel
theorem dX11_init_161 : decode cX11_init 161 = .ok (.dup, 1) := by decide +kernel
theorem dX11_init_162 : decode cX11_init 162 = .ok (.aload_n 0, 1) := by decide +kernel
theorem dX11_init_163 : decode cX11_init 163 = .ok (.getfield 86, 3) := by decide +kernel
theorem dX11_init_166 : decode cX11_init 166 = .ok (.invokespecial 92, 3) := by decide +kernel
theorem dX11_init_169 : decode cX11_init 169 = .ok (.putfield 95, 3) := by decide +kernel
theorem dX11_init_172 : decode cX11_init 172 = .ok (.aload_n 0, 1) := by decide +kernel
theorem dX11_init_173 : decode cX11_init 173 = .ok (.new 99, 3) := by decide +kernel
theorem dX11_init_176 : decode cX11_init 176 = .ok (.dup, 1) := by decide +kernel
theorem dX11_init_177 : decode cX11_init 177 = .ok (.aload_n 0, 1) := by decide +kernel
theorem dX11_init_178 : decode cX11_init 178 = .ok (.getfield 86, 3) := by decide +kernel
theorem dX11_init_181 : decode cX11_init 181 = .ok (.aload_n 0, 1) := by decide +kernel
theorem dX11_init_182 : decode cX11_init 182 = .ok (.getfield 36, 3) := by decide +kernel
theorem dX11_init_185 : decode cX11_init 185 = .ok (.invokespecial 101, 3) := by decide +kernel
theorem dX11_init_188 : decode cX11_init 188 = .ok (.putfield 104, 3) := by decide +kernel
theorem dX11_init_191 : decode cX11_init 191 = .ok (.aload_n 0, 1) := by decide +kernel
theorem dX11_init_192 : decode cX11_init 192 = .ok (.getfield 29, 3) := by decide +kernel
theorem dX11_init_195 : decode cX11_init 195 = .ok (.iconst 2, 1) := by decide +kernel
theorem dX11_init_196 : decode cX11_init 196 = .ok (.invokevirtual 108, 3) := by decide +kernel
theorem dX11_init_199 : decode cX11_init 199 = .ok (.aload_n 0, 1) := by decide +kernel
theorem dX11_init_200 : decode cX11_init 200 = .ok (.getfield 36, 3) := by decide +kernel
theorem dX11_init_203 : decode cX11_init 203 = .ok (.invokevirtual 112, 3) := by decide +kernel
theorem dX11_init_206 : decode cX11_init 206 = .ok (.return_, 1) := by decide +kernel
theorem dX11_feed_0 : decode cX11_feed 0 = .ok (.aload_n 0, 1) := by decide +kernel
theorem dX11_feed_1 : decode cX11_feed 1 = .ok (.getfield 13, 3) := by decide +kernel
theorem dX11_feed_4 : decode cX11_feed 4 = .ok (.bipush 20, 2) := by decide +kernel
theorem dX11_feed_6 : decode cX11_feed 6 = .ok (.iadd, 1) := by decide +kernel
theorem dX11_feed_7 : decode cX11_feed 7 = .ok (.sipush 800, 3) := by decide +kernel
theorem dX11_feed_10 : decode cX11_feed 10 = .ok (.if_icmp .le 5, 3) := by decide +kernel
theorem dX11_feed_13 : decode cX11_feed 13 = .ok (.iconst (-1), 1) := by decide +kernel
theorem dX11_feed_14 : decode cX11_feed 14 = .ok (.ireturn, 1) := by decide +kernel
theorem dX11_feed_15 : decode cX11_feed 15 = .ok (.aload_n 0, 1) := by decide +kernel
theorem dX11_feed_16 : decode cX11_feed 16 = .ok (.iload_n 1, 1) := by decide +kernel
theorem dX11_feed_17 : decode cX11_feed 17 = .ok (.invokevirtual 114, 3) := by decide +kernel
theorem dX11_feed_20 : decode cX11_feed 20 = .ok (.aload_n 0, 1) := by decide +kernel
theorem dX11_feed_21 : decode cX11_feed 21 = .ok (.iload_n 2, 1) := by decide +kernel
theorem dX11_feed_22 : decode cX11_feed 22 = .ok (.invokevirtual 114, 3) := by decide +kernel
theorem dX11_feed_25 : decode cX11_feed 25 = .ok (.aload_n 0, 1) := by decide +kernel
theorem dX11_feed_26 : decode cX11_feed 26 = .ok (.iload_n 3, 1) := by decide +kernel
theorem dX11_feed_27 : decode cX11_feed 27 = .ok (.invokevirtual 114, 3) := by decide +kernel
theorem dX11_feed_30 : decode cX11_feed 30 = .ok (.aload_n 0, 1) := by decide +kernel
theorem dX11_feed_31 : decode cX11_feed 31 = .ok (.iload 4, 2) := by decide +kernel
theorem dX11_feed_33 : decode cX11_feed 33 = .ok (.invokevirtual 114, 3) := by decide +kernel
theorem dX11_feed_36 : decode cX11_feed 36 = .ok (.aload_n 0, 1) := by decide +kernel
theorem dX11_feed_37 : decode cX11_feed 37 = .ok (.iload 5, 2) := by decide +kernel
theorem dX11_feed_39 : decode cX11_feed 39 = .ok (.invokevirtual 114, 3) := by decide +kernel
theorem dX11_feed_42 : decode cX11_feed 42 = .ok (.aload_n 0, 1) := by decide +kernel
theorem dX11_feed_43 : decode cX11_feed 43 = .ok (.getfield 13, 3) := by decide +kernel
theorem dX11_feed_46 : decode cX11_feed 46 = .ok (.ireturn, 1) := by decide +kernel
theorem dX11_appendFourBytes_0 : decode cX11_appendFourBytes 0 = .ok (.bipush 24, 2) := by decide +kernel
theorem dX11_appendFourBytes_2 : decode cX11_appendFourBytes 2 = .ok (.istore_n 2, 1) := by decide +kernel
theorem dX11_appendFourBytes_3 : decode cX11_appendFourBytes 3 = .ok (.iload_n 2, 1) := by decide +kernel
theorem dX11_appendFourBytes_4 : decode cX11_appendFourBytes 4 = .ok (.ifCond .lt 51, 3) := by decide +kernel
theorem dX11_appendFourBytes_7 : decode cX11_appendFourBytes 7 = .ok (.aload_n 0, 1) := by decide +kernel
theorem dX11_appendFourBytes_8 : decode cX11_appendFourBytes 8 = .ok (.getfield 13, 3) := by decide +kernel
theorem dX11_appendFourBytes_11 : decode cX11_appendFourBytes 11 = .ok (.ifCond .lt 38, 3) := by decide +kernel
theorem dX11_appendFourBytes_14 : decode cX11_appendFourBytes 14 = .ok (.aload_n 0, 1) := by decide +kernel
theorem dX11_appendFourBytes_15 : decode cX11_appendFourBytes 15 = .ok (.getfield 13, 3) := by decide +kernel
theorem dX11_appendFourBytes_18 : decode cX11_appendFourBytes 18 = .ok (.aload_n 0, 1) := by decide +kernel
theorem dX11_appendFourBytes_19 : decode cX11_appendFourBytes 19 = .ok (.getfield 9, 3) := by decide +kernel
theorem dX11_appendFourBytes_22 : decode cX11_appendFourBytes 22 = .ok (.arraylength, 1) := by decide +kernel
theorem dX11_appendFourBytes_23 : decode cX11_appendFourBytes 23 = .ok (.if_icmp .ge 26, 3) := by decide +kernel
theorem dX11_appendFourBytes_26 : decode cX11_appendFourBytes 26 = .ok (.aload_n 0, 1) := by decide +kernel
theorem dX11_appendFourBytes_27 : decode cX11_appendFourBytes 27 = .ok (.getfield 9, 3) := by decide +kernel
theorem dX11_appendFourBytes_30 : decode cX11_appendFourBytes 30 = .ok (.aload_n 0, 1) := by decide +kernel
theorem dX11_appendFourBytes_31 : decode cX11_appendFourBytes 31 = .ok (.getfield 13, 3) := by decide +kernel
theorem dX11_appendFourBytes_34 : decode cX11_appendFourBytes 34 = .ok (.iload_n 1, 1) := by decide +kernel
theorem dX11_appendFourBytes_35 : decode cX11_appendFourBytes 35 = .ok (.iload_n 2, 1) := by decide +kernel
theorem dX11_appendFourBytes_36 : decode cX11_appendFourBytes 36 = .ok (.ishr, 1) := by decide +kernel
theorem dX11_appendFourBytes_37 : decode cX11_appendFourBytes 37 = .ok (.i2b, 1) := by decide +kernel
theorem dX11_appendFourBytes_38 : decode cX11_appendFourBytes 38 = .ok (.bastore, 1) := by decide +kernel
theorem dX11_appendFourBytes_39 : decode cX11_appendFourBytes 39 = .ok (.aload_n 0, 1) := by decide +kernel
theorem dX11_appendFourBytes_40 : decode cX11_appendFourBytes 40 = .ok (.dup, 1) := by decide +kernel
theorem dX11_appendFourBytes_41 : decode cX11_appendFourBytes 41 = .ok (.getfield 13, 3) := by decide +kernel
theorem dX11_appendFourBytes_44 : decode cX11_appendFourBytes 44 = .ok (.iconst 1, 1) := by decide +kernel
theorem dX11_appendFourBytes_45 : decode cX11_appendFourBytes 45 = .ok (.iadd, 1) := by decide +kernel
theorem dX11_appendFourBytes_46 : decode cX11_appendFourBytes 46 = .ok (.putfield 13, 3) := by decide +kernel
theorem dX11_appendFourBytes_49 : decode cX11_appendFourBytes 49 = .ok (.iinc 2 (-8), 3) := by decide +kernel
theorem dX11_appendFourBytes_52 : decode cX11_appendFourBytes 52 = .ok (.goto (-49), 3) := by decide +kernel
theorem dX11_appendFourBytes_55 : decode cX11_appendFourBytes 55 = .ok (.return_, 1) := by decide +kernel
theorem dX11_load_0 : decode cX11_load 0 = .ok (.iload_n 1, 1) := by decide +kernel
theorem dX11_load_1 : decode cX11_load 1 = .ok (.ifCond .lt 11, 3) := by decide +kernel
theorem dX11_load_4 : decode cX11_load 4 = .ok (.iload_n 1, 1) := by decide +kernel
theorem dX11_load_5 : decode cX11_load 5 = .ok (.aload_n 0, 1) := by decide +kernel
theorem dX11_load_6 : decode cX11_load 6 = .ok (.getfield 13, 3) := by decide +kernel
theorem dX11_load_9 : decode cX11_load 9 = .ok (.if_icmp .le 13, 3) := by decide +kernel
theorem dX11_load_12 : decode cX11_load 12 = .ok (.new 117, 3) := by decide +kernel
theorem dX11_load_15 : decode cX11_load 15 = .ok (.dup, 1) := by decide +kernel
theorem dX11_load_16 : decode cX11_load 16 = .ok (.ldc 119, 2) := by decide +kernel
theorem dX11_load_18 : decode cX11_load 18 = .ok (.invokespecial 121, 3) := by decide +kernel
theorem dX11_load_21 : decode cX11_load 21 = .ok (.athrow, 1) := by decide +kernel
theorem dX11_load_22 : decode cX11_load 22 = .ok (.aload_n 0, 1) := by decide +kernel
theorem dX11_load_23 : decode cX11_load 23 = .ok (.iconst 0, 1) := by decide +kernel
theorem dX11_load_24 : decode cX11_load 24 = .ok (.putfield 13, 3) := by decide +kernel
theorem dX11_load_27 : decode cX11_load 27 = .ok (.aload_n 0, 1) := by decide +kernel
theorem dX11_load_28 : decode cX11_load 28 = .ok (.getfield 86, 3) := by decide +kernel
theorem dX11_load_31 : decode cX11_load 31 = .ok (.iload_n 1, 1) := by decide +kernel
theorem dX11_load_32 : decode cX11_load 32 = .ok (.invokevirtual 124, 3) := by decide +kernel
theorem dX11_load_35 : decode cX11_load 35 = .ok (.aload_n 0, 1) := by decide +kernel
theorem dX11_load_36 : decode cX11_load 36 = .ok (.getfield 95, 3) := by decide +kernel
theorem dX11_load_39 : decode cX11_load 39 = .ok (.invokevirtual 127, 3) := by decide +kernel
theorem dX11_load_42 : decode cX11_load 42 = .ok (.aload_n 0, 1) := by decide +kernel
theorem dX11_load_43 : decode cX11_load 43 = .ok (.aload_n 0, 1) := by decide +kernel
theorem dX11_load_44 : decode cX11_load 44 = .ok (.getfield 86, 3) := by decide +kernel
theorem dX11_load_47 : decode cX11_load 47 = .ok (.getfield 130, 3) := by decide +kernel
theorem dX11_load_50 : decode cX11_load 50 = .ok (.putfield 17, 3) := by decide +kernel
theorem dX11_load_53 : decode cX11_load 53 = .ok (.aload_n 0, 1) := by decide +kernel
theorem dX11_load_54 : decode cX11_load 54 = .ok (.getfield 86, 3) := by decide +kernel
theorem dX11_load_57 : decode cX11_load 57 = .ok (.getfield 131, 3) := by decide +kernel
theorem dX11_load_60 : decode cX11_load 60 = .ok (.ifCond .eq 14, 3) := by decide +kernel
theorem dX11_load_63 : decode cX11_load 63 = .ok (.bipush (-10), 2) := by decide +kernel
theorem dX11_load_65 : decode cX11_load 65 = .ok (.aload_n 0, 1) := by decide +kernel
theorem dX11_load_66 : decode cX11_load 66 = .ok (.getfield 86, 3) := by decide +kernel
theorem dX11_load_69 : decode cX11_load 69 = .ok (.getfield 131, 3) := by decide +kernel
theorem dX11_load_72 : decode cX11_load 72 = .ok (.isub, 1) := by decide +kernel
theorem dX11_load_73 : decode cX11_load 73 = .ok (.ireturn, 1) := by decide +kernel
theorem dX11_load_74 : decode cX11_load 74 = .ok (.aload_n 0, 1) := by decide +kernel
theorem dX11_load_75 : decode cX11_load 75 = .ok (.getfield 29, 3) := by decide +kernel
theorem dX11_load_78 : decode cX11_load 78 = .ok (.aload_n 0, 1) := by decide +kernel
theorem dX11_load_79 : decode cX11_load 79 = .ok (.getfield 95, 3) := by decide +kernel
theorem dX11_load_82 : decode cX11_load 82 = .ok (.getfield 134, 3) := by decide +kernel
theorem dX11_load_85 : decode cX11_load 85 = .ok (.invokevirtual 135, 3) := by decide +kernel
theorem dX11_load_88 : decode cX11_load 88 = .ok (.aload_n 0, 1) := by decide +kernel
theorem dX11_load_89 : decode cX11_load 89 = .ok (.getfield 36, 3) := by decide +kernel
theorem dX11_load_92 : decode cX11_load 92 = .ok (.aload_n 0, 1) := by decide +kernel
theorem dX11_load_93 : decode cX11_load 93 = .ok (.getfield 95, 3) := by decide +kernel
theorem dX11_load_96 : decode cX11_load 96 = .ok (.getfield 139, 3) := by decide +kernel
theorem dX11_load_99 : decode cX11_load 99 = .ok (.invokevirtual 140, 3) := by decide +kernel
theorem dX11_load_102 : decode cX11_load 102 = .ok (.aload_n 0, 1) := by decide +kernel
theorem dX11_load_103 : decode cX11_load 103 = .ok (.getfield 43, 3) := by decide +kernel
theorem dX11_load_106 : decode cX11_load 106 = .ok (.invokevirtual 143, 3) := by decide +kernel
theorem dX11_load_109 : decode cX11_load 109 = .ok (.aload_n 0, 1) := by decide +kernel
theorem dX11_load_110 : decode cX11_load 110 = .ok (.iconst 0, 1) := by decide +kernel
theorem dX11_load_111 : decode cX11_load 111 = .ok (.putfield 50, 3) := by decide +kernel
theorem dX11_load_114 : decode cX11_load 114 = .ok (.aload_n 0, 1) := by decide +kernel
theorem dX11_load_115 : decode cX11_load 115 = .ok (.getfield 36, 3) := by decide +kernel
theorem dX11_load_118 : decode cX11_load 118 = .ok (.getfield 144, 3) := by decide +kernel
theorem dX11_load_121 : decode cX11_load 121 = .ok (.ireturn, 1) := by decide +kernel
theorem dX11_errorPosition_0 : decode cX11_errorPosition 0 = .ok (.aload_n 0, 1) := by decide +kernel
theorem dX11_errorPosition_1 : decode cX11_errorPosition 1 = .ok (.getfield 17, 3) := by decide +kernel
theorem dX11_errorPosition_4 : decode cX11_errorPosition 4 = .ok (.ireturn, 1) := by decide +kernel
theorem dX11_size_0 : decode cX11_size 0 = .ok (.iload_n 1, 1) := by decide +kernel
theorem dX11_size_1 : decode cX11_size 1 = .ok (.tableswitch 124 0 8 #[51, 59, 67, 75, 83, 91, 100, 108, 116], 51) := by decide +kernel
theorem dX11_size_52 : decode cX11_size 52 = .ok (.aload_n 0, 1) := by decide +kernel
theorem dX11_size_53 : decode cX11_size 53 = .ok (.getfield 29, 3) := by decide +kernel
theorem dX11_size_56 : decode cX11_size 56 = .ok (.getfield 181, 3) := by decide +kernel
theorem dX11_size_59 : decode cX11_size 59 = .ok (.ireturn, 1) := by decide +kernel
theorem dX11_size_60 : decode cX11_size 60 = .ok (.aload_n 0, 1) := by decide +kernel
theorem dX11_size_61 : decode cX11_size 61 = .ok (.getfield 29, 3) := by decide +kernel
theorem dX11_size_64 : decode cX11_size 64 = .ok (.getfield 184, 3) := by decide +kernel
theorem dX11_size_67 : decode cX11_size 67 = .ok (.ireturn, 1) := by decide +kernel
theorem dX11_size_68 : decode cX11_size 68 = .ok (.aload_n 0, 1) := by decide +kernel
theorem dX11_size_69 : decode cX11_size 69 = .ok (.getfield 36, 3) := by decide +kernel
theorem dX11_size_72 : decode cX11_size 72 = .ok (.getfield 144, 3) := by decide +kernel
theorem dX11_size_75 : decode cX11_size 75 = .ok (.ireturn, 1) := by decide +kernel
theorem dX11_size_76 : decode cX11_size 76 = .ok (.aload_n 0, 1) := by decide +kernel
theorem dX11_size_77 : decode cX11_size 77 = .ok (.getfield 36, 3) := by decide +kernel
theorem dX11_size_80 : decode cX11_size 80 = .ok (.getfield 187, 3) := by decide +kernel
theorem dX11_size_83 : decode cX11_size 83 = .ok (.ireturn, 1) := by decide +kernel
theorem dX11_size_84 : decode cX11_size 84 = .ok (.aload_n 0, 1) := by decide +kernel
theorem dX11_size_85 : decode cX11_size 85 = .ok (.getfield 36, 3) := by decide +kernel
theorem dX11_size_88 : decode cX11_size 88 = .ok (.getfield 190, 3) := by decide +kernel
theorem dX11_size_91 : decode cX11_size 91 = .ok (.ireturn, 1) := by decide +kernel
theorem dX11_size_92 : decode cX11_size 92 = .ok (.aload_n 0, 1) := by decide +kernel
theorem dX11_size_93 : decode cX11_size 93 = .ok (.getfield 36, 3) := by decide +kernel
theorem dX11_size_96 : decode cX11_size 96 = .ok (.iconst 0, 1) := by decide +kernel
theorem dX11_size_97 : decode cX11_size 97 = .ok (.invokevirtual 193, 3) := by decide +kernel
theorem dX11_size_100 : decode cX11_size 100 = .ok (.ireturn, 1) := by decide +kernel
theorem dX11_size_101 : decode cX11_size 101 = .ok (.aload_n 0, 1) := by decide +kernel
theorem dX11_size_102 : decode cX11_size 102 = .ok (.getfield 36, 3) := by decide +kernel
theorem dX11_size_105 : decode cX11_size 105 = .ok (.invokevirtual 196, 3) := by decide +kernel
theorem dX11_size_108 : decode cX11_size 108 = .ok (.ireturn, 1) := by decide +kernel
theorem dX11_size_109 : decode cX11_size 109 = .ok (.aload_n 0, 1) := by decide +kernel
theorem dX11_size_110 : decode cX11_size 110 = .ok (.getfield 36, 3) := by decide +kernel
theorem dX11_size_113 : decode cX11_size 113 = .ok (.getfield 199, 3) := by decide +kernel
theorem dX11_size_116 : decode cX11_size 116 = .ok (.ireturn, 1) := by decide +kernel
theorem dX11_size_117 : decode cX11_size 117 = .ok (.aload_n 0, 1) := by decide +kernel
theorem dX11_size_118 : decode cX11_size 118 = .ok (.getfield 36, 3) := by decide +kernel
theorem dX11_size_121 : decode cX11_size 121 = .ok (.getfield 202, 3) := by decide +kernel
theorem dX11_size_124 : decode cX11_size 124 = .ok (.ireturn, 1) := by decide +kernel
theorem dX11_size_125 : decode cX11_size 125 = .ok (.new 205, 3) := by decide +kernel
theorem dX11_size_128 : decode cX11_size 128 = .ok (.dup, 1) := by decide +kernel
theorem dX11_size_129 : decode cX11_size 129 = .ok (.ldc 207, 2) := by decide +kernel
theorem dX11_size_131 : decode cX11_size 131 = .ok (.invokespecial 209, 3) := by decide +kernel
theorem dX11_size_134 : decode cX11_size 134 = .ok (.athrow, 1) := by decide +kernel
theorem dX11_rule_0 : decode cX11_rule 0 = .ok (.iload_n 1, 1) := by decide +kernel
theorem dX11_rule_1 : decode cX11_rule 1 = .ok (.invokestatic 210, 3) := by decide +kernel
theorem dX11_rule_4 : decode cX11_rule 4 = .ok (.aload_n 0, 1) := by decide +kernel
theorem dX11_rule_5 : decode cX11_rule 5 = .ok (.getfield 36, 3) := by decide +kernel
theorem dX11_rule_8 : decode cX11_rule 8 = .ok (.iload_n 1, 1) := by decide +kernel
theorem dX11_rule_9 : decode cX11_rule 9 = .ok (.invokevirtual 213, 3) := by decide +kernel
theorem dX11_rule_12 : decode cX11_rule 12 = .ok (.ireturn, 1) := by decide +kernel
theorem dX11_account_0 : decode cX11_account 0 = .ok (.aload_n 0, 1) := by decide +kernel
theorem dX11_account_1 : decode cX11_account 1 = .ok (.iload_n 1, 1) := by decide +kernel
theorem dX11_account_2 : decode cX11_account 2 = .ok (.invokevirtual 152, 3) := by decide +kernel
theorem dX11_account_5 : decode cX11_account 5 = .ok (.astore_n 3, 1) := by decide +kernel
theorem dX11_account_6 : decode cX11_account 6 = .ok (.iload_n 2, 1) := by decide +kernel
theorem dX11_account_7 : decode cX11_account 7 = .ok (.tableswitch 67 0 5 #[37, 42, 47, 52, 57, 62], 37) := by decide +kernel
theorem dX11_account_44 : decode cX11_account 44 = .ok (.aload_n 3, 1) := by decide +kernel
theorem dX11_account_45 : decode cX11_account 45 = .ok (.getfield 252, 3) := by decide +kernel
theorem dX11_account_48 : decode cX11_account 48 = .ok (.ireturn, 1) := by decide +kernel
theorem dX11_account_49 : decode cX11_account 49 = .ok (.aload_n 3, 1) := by decide +kernel
theorem dX11_account_50 : decode cX11_account 50 = .ok (.getfield 255, 3) := by decide +kernel
theorem dX11_account_53 : decode cX11_account 53 = .ok (.ireturn, 1) := by decide +kernel
theorem dX11_account_54 : decode cX11_account 54 = .ok (.aload_n 3, 1) := by decide +kernel
theorem dX11_account_55 : decode cX11_account 55 = .ok (.getfield 258, 3) := by decide +kernel
theorem dX11_account_58 : decode cX11_account 58 = .ok (.ireturn, 1) := by decide +kernel
theorem dX11_account_59 : decode cX11_account 59 = .ok (.aload_n 3, 1) := by decide +kernel
theorem dX11_account_60 : decode cX11_account 60 = .ok (.getfield 261, 3) := by decide +kernel
theorem dX11_account_63 : decode cX11_account 63 = .ok (.ireturn, 1) := by decide +kernel
theorem dX11_account_64 : decode cX11_account 64 = .ok (.aload_n 3, 1) := by decide +kernel
theorem dX11_account_65 : decode cX11_account 65 = .ok (.getfield 264, 3) := by decide +kernel
theorem dX11_account_68 : decode cX11_account 68 = .ok (.ireturn, 1) := by decide +kernel
theorem dX11_account_69 : decode cX11_account 69 = .ok (.aload_n 3, 1) := by decide +kernel
theorem dX11_account_70 : decode cX11_account 70 = .ok (.getfield 267, 3) := by decide +kernel
theorem dX11_account_73 : decode cX11_account 73 = .ok (.ireturn, 1) := by decide +kernel
theorem dX11_account_74 : decode cX11_account 74 = .ok (.new 205, 3) := by decide +kernel
theorem dX11_account_77 : decode cX11_account 77 = .ok (.dup, 1) := by decide +kernel
theorem dX11_account_78 : decode cX11_account 78 = .ok (.ldc_w 270, 3) := by decide +kernel
theorem dX11_account_81 : decode cX11_account 81 = .ok (.invokespecial 209, 3) := by decide +kernel
theorem dX11_account_84 : decode cX11_account 84 = .ok (.athrow, 1) := by decide +kernel
theorem dX11_ride_0 : decode cX11_ride 0 = .ok (.aload_n 0, 1) := by decide +kernel
theorem dX11_ride_1 : decode cX11_ride 1 = .ok (.iload_n 1, 1) := by decide +kernel
theorem dX11_ride_2 : decode cX11_ride 2 = .ok (.invokevirtual 289, 3) := by decide +kernel
theorem dX11_ride_5 : decode cX11_ride 5 = .ok (.astore_n 3, 1) := by decide +kernel
theorem dX11_ride_6 : decode cX11_ride 6 = .ok (.iload_n 2, 1) := by decide +kernel
theorem dX11_ride_7 : decode cX11_ride 7 = .ok (.tableswitch 147 0 13 #[69, 74, 79, 84, 89, 94, 99, 104, 109, 114, 119, 124, 129, 134], 69) := by decide +kernel
theorem dX11_ride_76 : decode cX11_ride 76 = .ok (.aload_n 3, 1) := by decide +kernel
theorem dX11_ride_77 : decode cX11_ride 77 = .ok (.getfield 293, 3) := by decide +kernel
theorem dX11_ride_80 : decode cX11_ride 80 = .ok (.ireturn, 1) := by decide +kernel
theorem dX11_ride_81 : decode cX11_ride 81 = .ok (.aload_n 3, 1) := by decide +kernel
theorem dX11_ride_82 : decode cX11_ride 82 = .ok (.getfield 298, 3) := by decide +kernel
theorem dX11_ride_85 : decode cX11_ride 85 = .ok (.ireturn, 1) := by decide +kernel
theorem dX11_ride_86 : decode cX11_ride 86 = .ok (.aload_n 3, 1) := by decide +kernel
theorem dX11_ride_87 : decode cX11_ride 87 = .ok (.getfield 301, 3) := by decide +kernel
theorem dX11_ride_90 : decode cX11_ride 90 = .ok (.ireturn, 1) := by decide +kernel
theorem dX11_ride_91 : decode cX11_ride 91 = .ok (.aload_n 3, 1) := by decide +kernel
theorem dX11_ride_92 : decode cX11_ride 92 = .ok (.getfield 304, 3) := by decide +kernel
theorem dX11_ride_95 : decode cX11_ride 95 = .ok (.ireturn, 1) := by decide +kernel
theorem dX11_ride_96 : decode cX11_ride 96 = .ok (.aload_n 3, 1) := by decide +kernel
theorem dX11_ride_97 : decode cX11_ride 97 = .ok (.getfield 307, 3) := by decide +kernel
theorem dX11_ride_100 : decode cX11_ride 100 = .ok (.ireturn, 1) := by decide +kernel
theorem dX11_ride_101 : decode cX11_ride 101 = .ok (.aload_n 3, 1) := by decide +kernel
theorem dX11_ride_102 : decode cX11_ride 102 = .ok (.getfield 310, 3) := by decide +kernel
theorem dX11_ride_105 : decode cX11_ride 105 = .ok (.ireturn, 1) := by decide +kernel
theorem dX11_ride_106 : decode cX11_ride 106 = .ok (.aload_n 3, 1) := by decide +kernel
theorem dX11_ride_107 : decode cX11_ride 107 = .ok (.getfield 313, 3) := by decide +kernel
theorem dX11_ride_110 : decode cX11_ride 110 = .ok (.ireturn, 1) := by decide +kernel
theorem dX11_ride_111 : decode cX11_ride 111 = .ok (.aload_n 3, 1) := by decide +kernel
theorem dX11_ride_112 : decode cX11_ride 112 = .ok (.getfield 316, 3) := by decide +kernel
theorem dX11_ride_115 : decode cX11_ride 115 = .ok (.ireturn, 1) := by decide +kernel
theorem dX11_ride_116 : decode cX11_ride 116 = .ok (.aload_n 3, 1) := by decide +kernel
theorem dX11_ride_117 : decode cX11_ride 117 = .ok (.getfield 319, 3) := by decide +kernel
theorem dX11_ride_120 : decode cX11_ride 120 = .ok (.ireturn, 1) := by decide +kernel
theorem dX11_ride_121 : decode cX11_ride 121 = .ok (.aload_n 3, 1) := by decide +kernel
theorem dX11_ride_122 : decode cX11_ride 122 = .ok (.getfield 322, 3) := by decide +kernel
theorem dX11_ride_125 : decode cX11_ride 125 = .ok (.ireturn, 1) := by decide +kernel
theorem dX11_ride_126 : decode cX11_ride 126 = .ok (.aload_n 3, 1) := by decide +kernel
theorem dX11_ride_127 : decode cX11_ride 127 = .ok (.getfield 325, 3) := by decide +kernel
theorem dX11_ride_130 : decode cX11_ride 130 = .ok (.ireturn, 1) := by decide +kernel
theorem dX11_ride_131 : decode cX11_ride 131 = .ok (.aload_n 3, 1) := by decide +kernel
theorem dX11_ride_132 : decode cX11_ride 132 = .ok (.getfield 328, 3) := by decide +kernel
theorem dX11_ride_135 : decode cX11_ride 135 = .ok (.ireturn, 1) := by decide +kernel
theorem dX11_ride_136 : decode cX11_ride 136 = .ok (.aload_n 3, 1) := by decide +kernel
theorem dX11_ride_137 : decode cX11_ride 137 = .ok (.getfield 331, 3) := by decide +kernel
theorem dX11_ride_140 : decode cX11_ride 140 = .ok (.ireturn, 1) := by decide +kernel
theorem dX11_ride_141 : decode cX11_ride 141 = .ok (.aload_n 3, 1) := by decide +kernel
theorem dX11_ride_142 : decode cX11_ride 142 = .ok (.getfield 334, 3) := by decide +kernel
theorem dX11_ride_145 : decode cX11_ride 145 = .ok (.ifCond .eq 7, 3) := by decide +kernel
theorem dX11_ride_148 : decode cX11_ride 148 = .ok (.iconst 1, 1) := by decide +kernel
theorem dX11_ride_149 : decode cX11_ride 149 = .ok (.goto 4, 3) := by decide +kernel
theorem dX11_ride_152 : decode cX11_ride 152 = .ok (.iconst 0, 1) := by decide +kernel
theorem dX11_ride_153 : decode cX11_ride 153 = .ok (.ireturn, 1) := by decide +kernel
theorem dX11_ride_154 : decode cX11_ride 154 = .ok (.new 205, 3) := by decide +kernel
theorem dX11_ride_157 : decode cX11_ride 157 = .ok (.dup, 1) := by decide +kernel
theorem dX11_ride_158 : decode cX11_ride 158 = .ok (.ldc_w 337, 3) := by decide +kernel
theorem dX11_ride_161 : decode cX11_ride 161 = .ok (.invokespecial 209, 3) := by decide +kernel
theorem dX11_ride_164 : decode cX11_ride 164 = .ok (.athrow, 1) := by decide +kernel
theorem dX11_ask_0 : decode cX11_ask 0 = .ok (.aload_n 0, 1) := by decide +kernel
theorem dX11_ask_1 : decode cX11_ask 1 = .ok (.iload_n 1, 1) := by decide +kernel
theorem dX11_ask_2 : decode cX11_ask 2 = .ok (.invokevirtual 216, 3) := by decide +kernel
theorem dX11_ask_5 : decode cX11_ask 5 = .ok (.aload_n 0, 1) := by decide +kernel
theorem dX11_ask_6 : decode cX11_ask 6 = .ok (.iload_n 2, 1) := by decide +kernel
theorem dX11_ask_7 : decode cX11_ask 7 = .ok (.invokevirtual 216, 3) := by decide +kernel
theorem dX11_ask_10 : decode cX11_ask 10 = .ok (.iload_n 3, 1) := by decide +kernel
theorem dX11_ask_11 : decode cX11_ask 11 = .ok (.iconst 1, 1) := by decide +kernel
theorem dX11_ask_12 : decode cX11_ask 12 = .ok (.bipush 6, 2) := by decide +kernel
theorem dX11_ask_14 : decode cX11_ask 14 = .ok (.invokestatic 386, 3) := by decide +kernel
theorem dX11_ask_17 : decode cX11_ask 17 = .ok (.iload 4, 2) := by decide +kernel
theorem dX11_ask_19 : decode cX11_ask 19 = .ok (.iconst 0, 1) := by decide +kernel
theorem dX11_ask_20 : decode cX11_ask 20 = .ok (.sipush 600, 3) := by decide +kernel
theorem dX11_ask_23 : decode cX11_ask 23 = .ok (.invokestatic 386, 3) := by decide +kernel
theorem dX11_ask_26 : decode cX11_ask 26 = .ok (.iload 5, 2) := by decide +kernel
theorem dX11_ask_28 : decode cX11_ask 28 = .ok (.iconst 0, 1) := by decide +kernel
theorem dX11_ask_29 : decode cX11_ask 29 = .ok (.sipush 200, 3) := by decide +kernel
theorem dX11_ask_32 : decode cX11_ask 32 = .ok (.invokestatic 386, 3) := by decide +kernel
theorem dX11_ask_35 : decode cX11_ask 35 = .ok (.iload_n 1, 1) := by decide +kernel
theorem dX11_ask_36 : decode cX11_ask 36 = .ok (.iload_n 2, 1) := by decide +kernel
theorem dX11_ask_37 : decode cX11_ask 37 = .ok (.if_icmp .ne 14, 3) := by decide +kernel
theorem dX11_ask_40 : decode cX11_ask 40 = .ok (.new 117, 3) := by decide +kernel
theorem dX11_ask_43 : decode cX11_ask 43 = .ok (.dup, 1) := by decide +kernel
theorem dX11_ask_44 : decode cX11_ask 44 = .ok (.ldc_w 390, 3) := by decide +kernel
theorem dX11_ask_47 : decode cX11_ask 47 = .ok (.invokespecial 121, 3) := by decide +kernel
theorem dX11_ask_50 : decode cX11_ask 50 = .ok (.athrow, 1) := by decide +kernel
theorem dX11_ask_51 : decode cX11_ask 51 = .ok (.aload_n 0, 1) := by decide +kernel
theorem dX11_ask_52 : decode cX11_ask 52 = .ok (.getfield 36, 3) := by decide +kernel
theorem dX11_ask_55 : decode cX11_ask 55 = .ok (.getfield 187, 3) := by decide +kernel
theorem dX11_ask_58 : decode cX11_ask 58 = .ok (.istore 6, 2) := by decide +kernel
theorem dX11_ask_60 : decode cX11_ask 60 = .ok (.iload 6, 2) := by decide +kernel
theorem dX11_ask_62 : decode cX11_ask 62 = .ok (.ifCond .lt 10, 3) := by decide +kernel
theorem dX11_ask_65 : decode cX11_ask 65 = .ok (.iload 6, 2) := by decide +kernel
theorem dX11_ask_67 : decode cX11_ask 67 = .ok (.bipush 24, 2) := by decide +kernel
theorem dX11_ask_69 : decode cX11_ask 69 = .ok (.if_icmp .lt 6, 3) := by decide +kernel
theorem dX11_ask_72 : decode cX11_ask 72 = .ok (.bipush (-2), 2) := by decide +kernel
theorem dX11_ask_74 : decode cX11_ask 74 = .ok (.ireturn, 1) := by decide +kernel
theorem dX11_ask_75 : decode cX11_ask 75 = .ok (.aload_n 0, 1) := by decide +kernel
theorem dX11_ask_76 : decode cX11_ask 76 = .ok (.getfield 43, 3) := by decide +kernel
theorem dX11_ask_79 : decode cX11_ask 79 = .ok (.aload_n 0, 1) := by decide +kernel
theorem dX11_ask_80 : decode cX11_ask 80 = .ok (.getfield 36, 3) := by decide +kernel
theorem dX11_ask_83 : decode cX11_ask 83 = .ok (.invokevirtual 392, 3) := by decide +kernel
theorem dX11_ask_86 : decode cX11_ask 86 = .ok (.aload_n 0, 1) := by decide +kernel
theorem dX11_ask_87 : decode cX11_ask 87 = .ok (.getfield 36, 3) := by decide +kernel
theorem dX11_ask_90 : decode cX11_ask 90 = .ok (.getfield 395, 3) := by decide +kernel
theorem dX11_ask_93 : decode cX11_ask 93 = .ok (.iload 6, 2) := by decide +kernel
theorem dX11_ask_95 : decode cX11_ask 95 = .ok (.aaload, 1) := by decide +kernel
theorem dX11_ask_96 : decode cX11_ask 96 = .ok (.astore 7, 2) := by decide +kernel
theorem dX11_ask_98 : decode cX11_ask 98 = .ok (.aload 7, 2) := by decide +kernel
theorem dX11_ask_100 : decode cX11_ask 100 = .ok (.iload_n 1, 1) := by decide +kernel
theorem dX11_ask_101 : decode cX11_ask 101 = .ok (.iload_n 2, 1) := by decide +kernel
theorem dX11_ask_102 : decode cX11_ask 102 = .ok (.iload_n 3, 1) := by decide +kernel
theorem dX11_ask_103 : decode cX11_ask 103 = .ok (.iload 5, 2) := by decide +kernel
theorem dX11_ask_105 : decode cX11_ask 105 = .ok (.invokevirtual 399, 3) := by decide +kernel
theorem dX11_ask_108 : decode cX11_ask 108 = .ok (.aload 7, 2) := by decide +kernel
theorem dX11_ask_110 : decode cX11_ask 110 = .ok (.aload_n 0, 1) := by decide +kernel
theorem dX11_ask_111 : decode cX11_ask 111 = .ok (.getfield 36, 3) := by decide +kernel
theorem dX11_ask_114 : decode cX11_ask 114 = .ok (.getfield 190, 3) := by decide +kernel
theorem dX11_ask_117 : decode cX11_ask 117 = .ok (.iload 4, 2) := by decide +kernel
theorem dX11_ask_119 : decode cX11_ask 119 = .ok (.iadd, 1) := by decide +kernel
theorem dX11_ask_120 : decode cX11_ask 120 = .ok (.putfield 307, 3) := by decide +kernel
theorem dX11_ask_123 : decode cX11_ask 123 = .ok (.aload 7, 2) := by decide +kernel
theorem dX11_ask_125 : decode cX11_ask 125 = .ok (.aload 7, 2) := by decide +kernel
theorem dX11_ask_127 : decode cX11_ask 127 = .ok (.getfield 307, 3) := by decide +kernel
theorem dX11_ask_130 : decode cX11_ask 130 = .ok (.aload_n 0, 1) := by decide +kernel
theorem dX11_ask_131 : decode cX11_ask 131 = .ok (.getfield 36, 3) := by decide +kernel
theorem dX11_ask_134 : decode cX11_ask 134 = .ok (.iconst 0, 1) := by decide +kernel
theorem dX11_ask_135 : decode cX11_ask 135 = .ok (.invokevirtual 213, 3) := by decide +kernel
theorem dX11_ask_138 : decode cX11_ask 138 = .ok (.iadd, 1) := by decide +kernel
theorem dX11_ask_139 : decode cX11_ask 139 = .ok (.putfield 310, 3) := by decide +kernel
theorem dX11_ask_142 : decode cX11_ask 142 = .ok (.aload 7, 2) := by decide +kernel
theorem dX11_ask_144 : decode cX11_ask 144 = .ok (.aload_n 0, 1) := by decide +kernel
theorem dX11_ask_145 : decode cX11_ask 145 = .ok (.getfield 29, 3) := by decide +kernel
theorem dX11_ask_148 : decode cX11_ask 148 = .ok (.iload_n 1, 1) := by decide +kernel
theorem dX11_ask_149 : decode cX11_ask 149 = .ok (.iload_n 2, 1) := by decide +kernel
theorem dX11_ask_150 : decode cX11_ask 150 = .ok (.invokevirtual 219, 3) := by decide +kernel
theorem dX11_ask_153 : decode cX11_ask 153 = .ok (.invokevirtual 402, 3) := by decide +kernel
theorem dX11_ask_156 : decode cX11_ask 156 = .ok (.aload_n 0, 1) := by decide +kernel
theorem dX11_ask_157 : decode cX11_ask 157 = .ok (.getfield 36, 3) := by decide +kernel
theorem dX11_ask_160 : decode cX11_ask 160 = .ok (.dup, 1) := by decide +kernel
theorem dX11_ask_161 : decode cX11_ask 161 = .ok (.getfield 187, 3) := by decide +kernel
theorem dX11_ask_164 : decode cX11_ask 164 = .ok (.iconst 1, 1) := by decide +kernel
theorem dX11_ask_165 : decode cX11_ask 165 = .ok (.iadd, 1) := by decide +kernel
theorem dX11_ask_166 : decode cX11_ask 166 = .ok (.putfield 187, 3) := by decide +kernel
theorem dX11_ask_169 : decode cX11_ask 169 = .ok (.aload_n 0, 1) := by decide +kernel
theorem dX11_ask_170 : decode cX11_ask 170 = .ok (.aload 7, 2) := by decide +kernel
theorem dX11_ask_172 : decode cX11_ask 172 = .ok (.iload 6, 2) := by decide +kernel
theorem dX11_ask_174 : decode cX11_ask 174 = .ok (.invokevirtual 405, 3) := by decide +kernel
theorem dX11_ask_177 : decode cX11_ask 177 = .ok (.iload 6, 2) := by decide +kernel
theorem dX11_ask_179 : decode cX11_ask 179 = .ok (.ireturn, 1) := by decide +kernel
theorem dX11_findOffer_0 : decode cX11_findOffer 0 = .ok (.iconst 0, 1) := by decide +kernel
theorem dX11_findOffer_1 : decode cX11_findOffer 1 = .ok (.istore_n 3, 1) := by decide +kernel
theorem dX11_findOffer_2 : decode cX11_findOffer 2 = .ok (.iload_n 3, 1) := by decide +kernel
theorem dX11_findOffer_3 : decode cX11_findOffer 3 = .ok (.aload_n 0, 1) := by decide +kernel
theorem dX11_findOffer_4 : decode cX11_findOffer 4 = .ok (.getfield 36, 3) := by decide +kernel
theorem dX11_findOffer_7 : decode cX11_findOffer 7 = .ok (.getfield 144, 3) := by decide +kernel
theorem dX11_findOffer_10 : decode cX11_findOffer 10 = .ok (.if_icmp .ge 98, 3) := by decide +kernel
theorem dX11_findOffer_13 : decode cX11_findOffer 13 = .ok (.iload_n 3, 1) := by decide +kernel
theorem dX11_findOffer_14 : decode cX11_findOffer 14 = .ok (.iconst 4, 1) := by decide +kernel
theorem dX11_findOffer_15 : decode cX11_findOffer 15 = .ok (.if_icmp .ge 93, 3) := by decide +kernel
theorem dX11_findOffer_18 : decode cX11_findOffer 18 = .ok (.aload_n 0, 1) := by decide +kernel
theorem dX11_findOffer_19 : decode cX11_findOffer 19 = .ok (.getfield 68, 3) := by decide +kernel
theorem dX11_findOffer_22 : decode cX11_findOffer 22 = .ok (.aload_n 0, 1) := by decide +kernel
theorem dX11_findOffer_23 : decode cX11_findOffer 23 = .ok (.getfield 36, 3) := by decide +kernel
theorem dX11_findOffer_26 : decode cX11_findOffer 26 = .ok (.getfield 366, 3) := by decide +kernel
theorem dX11_findOffer_29 : decode cX11_findOffer 29 = .ok (.iload_n 3, 1) := by decide +kernel
theorem dX11_findOffer_30 : decode cX11_findOffer 30 = .ok (.aaload, 1) := by decide +kernel
theorem dX11_findOffer_31 : decode cX11_findOffer 31 = .ok (.iload_n 2, 1) := by decide +kernel
theorem dX11_findOffer_32 : decode cX11_findOffer 32 = .ok (.invokevirtual 356, 3) := by decide +kernel
theorem dX11_findOffer_35 : decode cX11_findOffer 35 = .ok (.ifCond .eq 67, 3) := by decide +kernel
theorem dX11_findOffer_38 : decode cX11_findOffer 38 = .ok (.aload_n 1, 1) := by decide +kernel
theorem dX11_findOffer_39 : decode cX11_findOffer 39 = .ok (.getfield 341, 3) := by decide +kernel
theorem dX11_findOffer_42 : decode cX11_findOffer 42 = .ok (.iconst (-1), 1) := by decide +kernel
theorem dX11_findOffer_43 : decode cX11_findOffer 43 = .ok (.if_icmp .eq 21, 3) := by decide +kernel
theorem dX11_findOffer_46 : decode cX11_findOffer 46 = .ok (.aload_n 0, 1) := by decide +kernel
theorem dX11_findOffer_47 : decode cX11_findOffer 47 = .ok (.getfield 68, 3) := by decide +kernel
theorem dX11_findOffer_50 : decode cX11_findOffer 50 = .ok (.aload_n 1, 1) := by decide +kernel
theorem dX11_findOffer_51 : decode cX11_findOffer 51 = .ok (.getfield 344, 3) := by decide +kernel
theorem dX11_findOffer_54 : decode cX11_findOffer 54 = .ok (.aload_n 1, 1) := by decide +kernel
theorem dX11_findOffer_55 : decode cX11_findOffer 55 = .ok (.getfield 347, 3) := by decide +kernel
theorem dX11_findOffer_58 : decode cX11_findOffer 58 = .ok (.invokevirtual 409, 3) := by decide +kernel
theorem dX11_findOffer_61 : decode cX11_findOffer 61 = .ok (.ifCond .eq 41, 3) := by decide +kernel
theorem dX11_findOffer_64 : decode cX11_findOffer 64 = .ok (.aload_n 1, 1) := by decide +kernel
theorem dX11_findOffer_65 : decode cX11_findOffer 65 = .ok (.iload_n 3, 1) := by decide +kernel
theorem dX11_findOffer_66 : decode cX11_findOffer 66 = .ok (.putfield 341, 3) := by decide +kernel
theorem dX11_findOffer_69 : decode cX11_findOffer 69 = .ok (.aload_n 1, 1) := by decide +kernel
theorem dX11_findOffer_70 : decode cX11_findOffer 70 = .ok (.aload_n 0, 1) := by decide +kernel
theorem dX11_findOffer_71 : decode cX11_findOffer 71 = .ok (.getfield 68, 3) := by decide +kernel
theorem dX11_findOffer_74 : decode cX11_findOffer 74 = .ok (.getfield 360, 3) := by decide +kernel
theorem dX11_findOffer_77 : decode cX11_findOffer 77 = .ok (.putfield 344, 3) := by decide +kernel
theorem dX11_findOffer_80 : decode cX11_findOffer 80 = .ok (.aload_n 1, 1) := by decide +kernel
theorem dX11_findOffer_81 : decode cX11_findOffer 81 = .ok (.aload_n 0, 1) := by decide +kernel
theorem dX11_findOffer_82 : decode cX11_findOffer 82 = .ok (.getfield 68, 3) := by decide +kernel
theorem dX11_findOffer_85 : decode cX11_findOffer 85 = .ok (.getfield 413, 3) := by decide +kernel
theorem dX11_findOffer_88 : decode cX11_findOffer 88 = .ok (.putfield 347, 3) := by decide +kernel
theorem dX11_findOffer_91 : decode cX11_findOffer 91 = .ok (.aload_n 1, 1) := by decide +kernel
theorem dX11_findOffer_92 : decode cX11_findOffer 92 = .ok (.aload_n 0, 1) := by decide +kernel
theorem dX11_findOffer_93 : decode cX11_findOffer 93 = .ok (.getfield 68, 3) := by decide +kernel
theorem dX11_findOffer_96 : decode cX11_findOffer 96 = .ok (.getfield 416, 3) := by decide +kernel
theorem dX11_findOffer_99 : decode cX11_findOffer 99 = .ok (.putfield 350, 3) := by decide +kernel
theorem dX11_findOffer_102 : decode cX11_findOffer 102 = .ok (.iinc 3 1, 3) := by decide +kernel
theorem dX11_findOffer_105 : decode cX11_findOffer 105 = .ok (.goto (-103), 3) := by decide +kernel
theorem dX11_findOffer_108 : decode cX11_findOffer 108 = .ok (.aload_n 1, 1) := by decide +kernel
theorem dX11_findOffer_109 : decode cX11_findOffer 109 = .ok (.aload_n 0, 1) := by decide +kernel
theorem dX11_findOffer_110 : decode cX11_findOffer 110 = .ok (.getfield 36, 3) := by decide +kernel
theorem dX11_findOffer_113 : decode cX11_findOffer 113 = .ok (.getfield 190, 3) := by decide +kernel
theorem dX11_findOffer_116 : decode cX11_findOffer 116 = .ok (.aload_n 0, 1) := by decide +kernel
theorem dX11_findOffer_117 : decode cX11_findOffer 117 = .ok (.getfield 36, 3) := by decide +kernel
theorem dX11_findOffer_120 : decode cX11_findOffer 120 = .ok (.iconst 2, 1) := by decide +kernel
theorem dX11_findOffer_121 : decode cX11_findOffer 121 = .ok (.invokevirtual 213, 3) := by decide +kernel
theorem dX11_findOffer_124 : decode cX11_findOffer 124 = .ok (.iadd, 1) := by decide +kernel
theorem dX11_findOffer_125 : decode cX11_findOffer 125 = .ok (.putfield 353, 3) := by decide +kernel
theorem dX11_findOffer_128 : decode cX11_findOffer 128 = .ok (.aload_n 1, 1) := by decide +kernel
theorem dX11_findOffer_129 : decode cX11_findOffer 129 = .ok (.aload_n 1, 1) := by decide +kernel
theorem dX11_findOffer_130 : decode cX11_findOffer 130 = .ok (.getfield 341, 3) := by decide +kernel
theorem dX11_findOffer_133 : decode cX11_findOffer 133 = .ok (.iconst (-1), 1) := by decide +kernel
theorem dX11_findOffer_134 : decode cX11_findOffer 134 = .ok (.if_icmp .ne 7, 3) := by decide +kernel
theorem dX11_findOffer_137 : decode cX11_findOffer 137 = .ok (.iconst 4, 1) := by decide +kernel
theorem dX11_findOffer_138 : decode cX11_findOffer 138 = .ok (.goto 4, 3) := by decide +kernel
theorem dX11_findOffer_141 : decode cX11_findOffer 141 = .ok (.iconst 0, 1) := by decide +kernel
theorem dX11_findOffer_142 : decode cX11_findOffer 142 = .ok (.putfield 293, 3) := by decide +kernel
theorem dX11_findOffer_145 : decode cX11_findOffer 145 = .ok (.return_, 1) := by decide +kernel
theorem dX11_accept_0 : decode cX11_accept 0 = .ok (.aload_n 0, 1) := by decide +kernel
theorem dX11_accept_1 : decode cX11_accept 1 = .ok (.iload_n 1, 1) := by decide +kernel
theorem dX11_accept_2 : decode cX11_accept 2 = .ok (.invokevirtual 289, 3) := by decide +kernel
theorem dX11_accept_5 : decode cX11_accept 5 = .ok (.astore_n 2, 1) := by decide +kernel
theorem dX11_accept_6 : decode cX11_accept 6 = .ok (.aload_n 2, 1) := by decide +kernel
theorem dX11_accept_7 : decode cX11_accept 7 = .ok (.getfield 293, 3) := by decide +kernel
theorem dX11_accept_10 : decode cX11_accept 10 = .ok (.ifCond .ne 17, 3) := by decide +kernel
theorem dX11_accept_13 : decode cX11_accept 13 = .ok (.aload_n 0, 1) := by decide +kernel
theorem dX11_accept_14 : decode cX11_accept 14 = .ok (.getfield 36, 3) := by decide +kernel
theorem dX11_accept_17 : decode cX11_accept 17 = .ok (.aload_n 2, 1) := by decide +kernel
theorem dX11_accept_18 : decode cX11_accept 18 = .ok (.getfield 341, 3) := by decide +kernel
theorem dX11_accept_21 : decode cX11_accept 21 = .ok (.invokevirtual 363, 3) := by decide +kernel
theorem dX11_accept_24 : decode cX11_accept 24 = .ok (.ifCond .ne 6, 3) := by decide +kernel
theorem dX11_accept_27 : decode cX11_accept 27 = .ok (.bipush (-2), 2) := by decide +kernel
theorem dX11_accept_29 : decode cX11_accept 29 = .ok (.ireturn, 1) := by decide +kernel
theorem dX11_accept_30 : decode cX11_accept 30 = .ok (.aload_n 0, 1) := by decide +kernel
theorem dX11_accept_31 : decode cX11_accept 31 = .ok (.getfield 36, 3) := by decide +kernel
theorem dX11_accept_34 : decode cX11_accept 34 = .ok (.getfield 366, 3) := by decide +kernel
theorem dX11_accept_37 : decode cX11_accept 37 = .ok (.aload_n 2, 1) := by decide +kernel
theorem dX11_accept_38 : decode cX11_accept 38 = .ok (.getfield 341, 3) := by decide +kernel
theorem dX11_accept_41 : decode cX11_accept 41 = .ok (.aaload, 1) := by decide +kernel
theorem dX11_accept_42 : decode cX11_accept 42 = .ok (.astore_n 3, 1) := by decide +kernel
theorem dX11_accept_43 : decode cX11_accept 43 = .ok (.aload_n 0, 1) := by decide +kernel
theorem dX11_accept_44 : decode cX11_accept 44 = .ok (.getfield 68, 3) := by decide +kernel
theorem dX11_accept_47 : decode cX11_accept 47 = .ok (.aload_n 3, 1) := by decide +kernel
theorem dX11_accept_48 : decode cX11_accept 48 = .ok (.iload_n 1, 1) := by decide +kernel
theorem dX11_accept_49 : decode cX11_accept 49 = .ok (.invokevirtual 356, 3) := by decide +kernel
theorem dX11_accept_52 : decode cX11_accept 52 = .ok (.ifCond .ne 6, 3) := by decide +kernel
theorem dX11_accept_55 : decode cX11_accept 55 = .ok (.bipush (-3), 2) := by decide +kernel
theorem dX11_accept_57 : decode cX11_accept 57 = .ok (.ireturn, 1) := by decide +kernel
theorem dX11_accept_58 : decode cX11_accept 58 = .ok (.aload_n 0, 1) := by decide +kernel
theorem dX11_accept_59 : decode cX11_accept 59 = .ok (.getfield 43, 3) := by decide +kernel
theorem dX11_accept_62 : decode cX11_accept 62 = .ok (.aload_n 0, 1) := by decide +kernel
theorem dX11_accept_63 : decode cX11_accept 63 = .ok (.getfield 36, 3) := by decide +kernel
theorem dX11_accept_66 : decode cX11_accept 66 = .ok (.invokevirtual 392, 3) := by decide +kernel
theorem dX11_accept_69 : decode cX11_accept 69 = .ok (.aload_n 3, 1) := by decide +kernel
theorem dX11_accept_70 : decode cX11_accept 70 = .ok (.aload_n 0, 1) := by decide +kernel
theorem dX11_accept_71 : decode cX11_accept 71 = .ok (.getfield 68, 3) := by decide +kernel
theorem dX11_accept_74 : decode cX11_accept 74 = .ok (.getfield 419, 3) := by decide +kernel
theorem dX11_accept_77 : decode cX11_accept 77 = .ok (.iload_n 1, 1) := by decide +kernel
theorem dX11_accept_78 : decode cX11_accept 78 = .ok (.invokestatic 422, 3) := by decide +kernel
theorem dX11_accept_81 : decode cX11_accept 81 = .ok (.invokevirtual 425, 3) := by decide +kernel
theorem dX11_accept_84 : decode cX11_accept 84 = .ok (.aload_n 3, 1) := by decide +kernel
theorem dX11_accept_85 : decode cX11_accept 85 = .ok (.aload_n 0, 1) := by decide +kernel
theorem dX11_accept_86 : decode cX11_accept 86 = .ok (.getfield 68, 3) := by decide +kernel
theorem dX11_accept_89 : decode cX11_accept 89 = .ok (.getfield 429, 3) := by decide +kernel
theorem dX11_accept_92 : decode cX11_accept 92 = .ok (.iload_n 1, 1) := by decide +kernel
theorem dX11_accept_93 : decode cX11_accept 93 = .ok (.invokestatic 432, 3) := by decide +kernel
theorem dX11_accept_96 : decode cX11_accept 96 = .ok (.invokevirtual 425, 3) := by decide +kernel
theorem dX11_accept_99 : decode cX11_accept 99 = .ok (.aload_n 2, 1) := by decide +kernel
theorem dX11_accept_100 : decode cX11_accept 100 = .ok (.iconst 1, 1) := by decide +kernel
theorem dX11_accept_101 : decode cX11_accept 101 = .ok (.putfield 293, 3) := by decide +kernel
theorem dX11_accept_104 : decode cX11_accept 104 = .ok (.aload_n 2, 1) := by decide +kernel
theorem dX11_accept_105 : decode cX11_accept 105 = .ok (.aload_n 2, 1) := by decide +kernel
theorem dX11_accept_106 : decode cX11_accept 106 = .ok (.getfield 341, 3) := by decide +kernel
theorem dX11_accept_109 : decode cX11_accept 109 = .ok (.putfield 322, 3) := by decide +kernel
theorem dX11_accept_112 : decode cX11_accept 112 = .ok (.aload_n 0, 1) := by decide +kernel
theorem dX11_accept_113 : decode cX11_accept 113 = .ok (.getfield 68, 3) := by decide +kernel
theorem dX11_accept_116 : decode cX11_accept 116 = .ok (.getfield 413, 3) := by decide +kernel
theorem dX11_accept_119 : decode cX11_accept 119 = .ok (.ireturn, 1) := by decide +kernel
theorem dX11_absent_0 : decode cX11_absent 0 = .ok (.aload_n 0, 1) := by decide +kernel
theorem dX11_absent_1 : decode cX11_absent 1 = .ok (.iload_n 1, 1) := by decide +kernel
theorem dX11_absent_2 : decode cX11_absent 2 = .ok (.invokevirtual 289, 3) := by decide +kernel
theorem dX11_absent_5 : decode cX11_absent 5 = .ok (.astore_n 2, 1) := by decide +kernel
theorem dX11_absent_6 : decode cX11_absent 6 = .ok (.aload_n 2, 1) := by decide +kernel
theorem dX11_absent_7 : decode cX11_absent 7 = .ok (.getfield 293, 3) := by decide +kernel
theorem dX11_absent_10 : decode cX11_absent 10 = .ok (.iconst 1, 1) := by decide +kernel
theorem dX11_absent_11 : decode cX11_absent 11 = .ok (.if_icmp .ne 24, 3) := by decide +kernel
theorem dX11_absent_14 : decode cX11_absent 14 = .ok (.aload_n 2, 1) := by decide +kernel
theorem dX11_absent_15 : decode cX11_absent 15 = .ok (.getfield 334, 3) := by decide +kernel
theorem dX11_absent_18 : decode cX11_absent 18 = .ok (.ifCond .ne 17, 3) := by decide +kernel
theorem dX11_absent_21 : decode cX11_absent 21 = .ok (.aload_n 0, 1) := by decide +kernel
theorem dX11_absent_22 : decode cX11_absent 22 = .ok (.getfield 36, 3) := by decide +kernel
theorem dX11_absent_25 : decode cX11_absent 25 = .ok (.aload_n 2, 1) := by decide +kernel
theorem dX11_absent_26 : decode cX11_absent 26 = .ok (.getfield 322, 3) := by decide +kernel
theorem dX11_absent_29 : decode cX11_absent 29 = .ok (.invokevirtual 363, 3) := by decide +kernel
theorem dX11_absent_32 : decode cX11_absent 32 = .ok (.ifCond .ne 6, 3) := by decide +kernel
theorem dX11_absent_35 : decode cX11_absent 35 = .ok (.bipush (-2), 2) := by decide +kernel
theorem dX11_absent_37 : decode cX11_absent 37 = .ok (.ireturn, 1) := by decide +kernel
theorem dX11_absent_38 : decode cX11_absent 38 = .ok (.aload_n 0, 1) := by decide +kernel
theorem dX11_absent_39 : decode cX11_absent 39 = .ok (.getfield 43, 3) := by decide +kernel
theorem dX11_absent_42 : decode cX11_absent 42 = .ok (.aload_n 0, 1) := by decide +kernel
theorem dX11_absent_43 : decode cX11_absent 43 = .ok (.getfield 36, 3) := by decide +kernel
theorem dX11_absent_46 : decode cX11_absent 46 = .ok (.invokevirtual 392, 3) := by decide +kernel
theorem dX11_absent_49 : decode cX11_absent 49 = .ok (.aload_n 0, 1) := by decide +kernel
theorem dX11_absent_50 : decode cX11_absent 50 = .ok (.getfield 36, 3) := by decide +kernel
theorem dX11_absent_53 : decode cX11_absent 53 = .ok (.getfield 366, 3) := by decide +kernel
theorem dX11_absent_56 : decode cX11_absent 56 = .ok (.aload_n 2, 1) := by decide +kernel
theorem dX11_absent_57 : decode cX11_absent 57 = .ok (.getfield 322, 3) := by decide +kernel
theorem dX11_absent_60 : decode cX11_absent 60 = .ok (.aaload, 1) := by decide +kernel
theorem dX11_absent_61 : decode cX11_absent 61 = .ok (.astore_n 3, 1) := by decide +kernel
theorem dX11_absent_62 : decode cX11_absent 62 = .ok (.aload_n 3, 1) := by decide +kernel
theorem dX11_absent_63 : decode cX11_absent 63 = .ok (.iload_n 1, 1) := by decide +kernel
theorem dX11_absent_64 : decode cX11_absent 64 = .ok (.invokestatic 432, 3) := by decide +kernel
theorem dX11_absent_67 : decode cX11_absent 67 = .ok (.invokevirtual 435, 3) := by decide +kernel
theorem dX11_absent_70 : decode cX11_absent 70 = .ok (.aload_n 2, 1) := by decide +kernel
theorem dX11_absent_71 : decode cX11_absent 71 = .ok (.iconst 1, 1) := by decide +kernel
theorem dX11_absent_72 : decode cX11_absent 72 = .ok (.putfield 334, 3) := by decide +kernel
theorem dX11_absent_75 : decode cX11_absent 75 = .ok (.aload_n 3, 1) := by decide +kernel
theorem dX11_absent_76 : decode cX11_absent 76 = .ok (.getfield 156, 3) := by decide +kernel
theorem dX11_absent_79 : decode cX11_absent 79 = .ok (.ireturn, 1) := by decide +kernel
theorem dX11_advance_0 : decode cX11_advance 0 = .ok (.iload_n 1, 1) := by decide +kernel
theorem dX11_advance_1 : decode cX11_advance 1 = .ok (.iconst 1, 1) := by decide +kernel
theorem dX11_advance_2 : decode cX11_advance 2 = .ok (.sipush 1440, 3) := by decide +kernel
theorem dX11_advance_5 : decode cX11_advance 5 = .ok (.invokestatic 386, 3) := by decide +kernel
theorem dX11_advance_8 : decode cX11_advance 8 = .ok (.aload_n 0, 1) := by decide +kernel
theorem dX11_advance_9 : decode cX11_advance 9 = .ok (.getfield 36, 3) := by decide +kernel
theorem dX11_advance_12 : decode cX11_advance 12 = .ok (.getfield 190, 3) := by decide +kernel
theorem dX11_advance_15 : decode cX11_advance 15 = .ok (.iload_n 1, 1) := by decide +kernel
theorem dX11_advance_16 : decode cX11_advance 16 = .ok (.iadd, 1) := by decide +kernel
theorem dX11_advance_17 : decode cX11_advance 17 = .ok (.sipush 9999, 3) := by decide +kernel
theorem dX11_advance_20 : decode cX11_advance 20 = .ok (.if_icmp .le 6, 3) := by decide +kernel
theorem dX11_advance_23 : decode cX11_advance 23 = .ok (.bipush (-2), 2) := by decide +kernel
theorem dX11_advance_25 : decode cX11_advance 25 = .ok (.ireturn, 1) := by decide +kernel
theorem dX11_advance_26 : decode cX11_advance 26 = .ok (.aload_n 0, 1) := by decide +kernel
theorem dX11_advance_27 : decode cX11_advance 27 = .ok (.getfield 43, 3) := by decide +kernel
theorem dX11_advance_30 : decode cX11_advance 30 = .ok (.aload_n 0, 1) := by decide +kernel
theorem dX11_advance_31 : decode cX11_advance 31 = .ok (.getfield 36, 3) := by decide +kernel
theorem dX11_advance_34 : decode cX11_advance 34 = .ok (.invokevirtual 392, 3) := by decide +kernel
theorem dX11_advance_37 : decode cX11_advance 37 = .ok (.aload_n 0, 1) := by decide +kernel
theorem dX11_advance_38 : decode cX11_advance 38 = .ok (.getfield 77, 3) := by decide +kernel
theorem dX11_advance_41 : decode cX11_advance 41 = .ok (.iload_n 1, 1) := by decide +kernel
theorem dX11_advance_42 : decode cX11_advance 42 = .ok (.invokevirtual 438, 3) := by decide +kernel
theorem dX11_advance_45 : decode cX11_advance 45 = .ok (.ireturn, 1) := by decide +kernel
theorem dX11_tip_0 : decode cX11_tip 0 = .ok (.aload_n 0, 1) := by decide +kernel
theorem dX11_tip_1 : decode cX11_tip 1 = .ok (.iload_n 1, 1) := by decide +kernel
theorem dX11_tip_2 : decode cX11_tip 2 = .ok (.invokevirtual 152, 3) := by decide +kernel
theorem dX11_tip_5 : decode cX11_tip 5 = .ok (.astore_n 3, 1) := by decide +kernel
theorem dX11_tip_6 : decode cX11_tip 6 = .ok (.iload_n 2, 1) := by decide +kernel
theorem dX11_tip_7 : decode cX11_tip 7 = .ok (.iconst 1, 1) := by decide +kernel
theorem dX11_tip_8 : decode cX11_tip 8 = .ok (.ldc_w 441, 3) := by decide +kernel
theorem dX11_tip_11 : decode cX11_tip 11 = .ok (.invokestatic 386, 3) := by decide +kernel
theorem dX11_tip_14 : decode cX11_tip 14 = .ok (.aload_n 3, 1) := by decide +kernel
theorem dX11_tip_15 : decode cX11_tip 15 = .ok (.getfield 252, 3) := by decide +kernel
theorem dX11_tip_18 : decode cX11_tip 18 = .ok (.ldc_w 441, 3) := by decide +kernel
theorem dX11_tip_21 : decode cX11_tip 21 = .ok (.iload_n 2, 1) := by decide +kernel
theorem dX11_tip_22 : decode cX11_tip 22 = .ok (.isub, 1) := by decide +kernel
theorem dX11_tip_23 : decode cX11_tip 23 = .ok (.if_icmp .le 6, 3) := by decide +kernel
theorem dX11_tip_26 : decode cX11_tip 26 = .ok (.bipush (-5), 2) := by decide +kernel
theorem dX11_tip_28 : decode cX11_tip 28 = .ok (.ireturn, 1) := by decide +kernel
theorem dX11_tip_29 : decode cX11_tip 29 = .ok (.aload_n 0, 1) := by decide +kernel
theorem dX11_tip_30 : decode cX11_tip 30 = .ok (.getfield 43, 3) := by decide +kernel
theorem dX11_tip_33 : decode cX11_tip 33 = .ok (.aload_n 0, 1) := by decide +kernel
theorem dX11_tip_34 : decode cX11_tip 34 = .ok (.getfield 36, 3) := by decide +kernel
theorem dX11_tip_37 : decode cX11_tip 37 = .ok (.invokevirtual 392, 3) := by decide +kernel
theorem dX11_tip_40 : decode cX11_tip 40 = .ok (.aload_n 3, 1) := by decide +kernel
theorem dX11_tip_41 : decode cX11_tip 41 = .ok (.dup, 1) := by decide +kernel
theorem dX11_tip_42 : decode cX11_tip 42 = .ok (.getfield 252, 3) := by decide +kernel
theorem dX11_tip_45 : decode cX11_tip 45 = .ok (.iload_n 2, 1) := by decide +kernel
theorem dX11_tip_46 : decode cX11_tip 46 = .ok (.iadd, 1) := by decide +kernel
theorem dX11_tip_47 : decode cX11_tip 47 = .ok (.putfield 252, 3) := by decide +kernel
theorem dX11_tip_50 : decode cX11_tip 50 = .ok (.aload_n 3, 1) := by decide +kernel
theorem dX11_tip_51 : decode cX11_tip 51 = .ok (.dup, 1) := by decide +kernel
theorem dX11_tip_52 : decode cX11_tip 52 = .ok (.getfield 255, 3) := by decide +kernel
theorem dX11_tip_55 : decode cX11_tip 55 = .ok (.iload_n 2, 1) := by decide +kernel
theorem dX11_tip_56 : decode cX11_tip 56 = .ok (.iadd, 1) := by decide +kernel
theorem dX11_tip_57 : decode cX11_tip 57 = .ok (.putfield 255, 3) := by decide +kernel
theorem dX11_tip_60 : decode cX11_tip 60 = .ok (.aload_n 3, 1) := by decide +kernel
theorem dX11_tip_61 : decode cX11_tip 61 = .ok (.getfield 252, 3) := by decide +kernel
theorem dX11_tip_64 : decode cX11_tip 64 = .ok (.ireturn, 1) := by decide +kernel
theorem dX11_checkZone_0 : decode cX11_checkZone 0 = .ok (.iload_n 1, 1) := by decide +kernel
theorem dX11_checkZone_1 : decode cX11_checkZone 1 = .ok (.ifCond .lt 14, 3) := by decide +kernel
theorem dX11_checkZone_4 : decode cX11_checkZone 4 = .ok (.iload_n 1, 1) := by decide +kernel
theorem dX11_checkZone_5 : decode cX11_checkZone 5 = .ok (.aload_n 0, 1) := by decide +kernel
theorem dX11_checkZone_6 : decode cX11_checkZone 6 = .ok (.getfield 29, 3) := by decide +kernel
theorem dX11_checkZone_9 : decode cX11_checkZone 9 = .ok (.getfield 181, 3) := by decide +kernel
theorem dX11_checkZone_12 : decode cX11_checkZone 12 = .ok (.if_icmp .lt 14, 3) := by decide +kernel
theorem dX11_checkZone_15 : decode cX11_checkZone 15 = .ok (.new 205, 3) := by decide +kernel
theorem dX11_checkZone_18 : decode cX11_checkZone 18 = .ok (.dup, 1) := by decide +kernel
theorem dX11_checkZone_19 : decode cX11_checkZone 19 = .ok (.ldc_w 458, 3) := by decide +kernel
theorem dX11_checkZone_22 : decode cX11_checkZone 22 = .ok (.invokespecial 209, 3) := by decide +kernel
theorem dX11_checkZone_25 : decode cX11_checkZone 25 = .ok (.athrow, 1) := by decide +kernel
theorem dX11_checkZone_26 : decode cX11_checkZone 26 = .ok (.return_, 1) := by decide +kernel
theorem dX11_checkRule_0 : decode cX11_checkRule 0 = .ok (.iload_n 0, 1) := by decide +kernel
theorem dX11_checkRule_1 : decode cX11_checkRule 1 = .ok (.ifCond .lt 9, 3) := by decide +kernel
theorem dX11_checkRule_4 : decode cX11_checkRule 4 = .ok (.iload_n 0, 1) := by decide +kernel
theorem dX11_checkRule_5 : decode cX11_checkRule 5 = .ok (.bipush 10, 2) := by decide +kernel
theorem dX11_checkRule_7 : decode cX11_checkRule 7 = .ok (.if_icmp .lt 14, 3) := by decide +kernel
theorem dX11_checkRule_10 : decode cX11_checkRule 10 = .ok (.new 205, 3) := by decide +kernel
theorem dX11_checkRule_13 : decode cX11_checkRule 13 = .ok (.dup, 1) := by decide +kernel
theorem dX11_checkRule_14 : decode cX11_checkRule 14 = .ok (.ldc_w 460, 3) := by decide +kernel
theorem dX11_checkRule_17 : decode cX11_checkRule 17 = .ok (.invokespecial 209, 3) := by decide +kernel
theorem dX11_checkRule_20 : decode cX11_checkRule 20 = .ok (.athrow, 1) := by decide +kernel
theorem dX11_checkRule_21 : decode cX11_checkRule 21 = .ok (.return_, 1) := by decide +kernel
theorem dX11_checkRange_0 : decode cX11_checkRange 0 = .ok (.iload_n 0, 1) := by decide +kernel
theorem dX11_checkRange_1 : decode cX11_checkRange 1 = .ok (.iload_n 1, 1) := by decide +kernel
theorem dX11_checkRange_2 : decode cX11_checkRange 2 = .ok (.if_icmp .lt 8, 3) := by decide +kernel
theorem dX11_checkRange_5 : decode cX11_checkRange 5 = .ok (.iload_n 0, 1) := by decide +kernel
theorem dX11_checkRange_6 : decode cX11_checkRange 6 = .ok (.iload_n 2, 1) := by decide +kernel
theorem dX11_checkRange_7 : decode cX11_checkRange 7 = .ok (.if_icmp .le 14, 3) := by decide +kernel
theorem dX11_checkRange_10 : decode cX11_checkRange 10 = .ok (.new 117, 3) := by decide +kernel
theorem dX11_checkRange_13 : decode cX11_checkRange 13 = .ok (.dup, 1) := by decide +kernel
theorem dX11_checkRange_14 : decode cX11_checkRange 14 = .ok (.ldc_w 462, 3) := by decide +kernel
theorem dX11_checkRange_17 : decode cX11_checkRange 17 = .ok (.invokespecial 121, 3) := by decide +kernel
theorem dX11_checkRange_20 : decode cX11_checkRange 20 = .ok (.athrow, 1) := by decide +kernel
theorem dX11_checkRange_21 : decode cX11_checkRange 21 = .ok (.return_, 1) := by decide +kernel
theorem dX11_existingTaxi_0 : decode cX11_existingTaxi 0 = .ok (.aload_n 0, 1) := by decide +kernel
theorem dX11_existingTaxi_1 : decode cX11_existingTaxi 1 = .ok (.getfield 36, 3) := by decide +kernel
theorem dX11_existingTaxi_4 : decode cX11_existingTaxi 4 = .ok (.iload_n 1, 1) := by decide +kernel
theorem dX11_existingTaxi_5 : decode cX11_existingTaxi 5 = .ok (.invokevirtual 363, 3) := by decide +kernel
theorem dX11_existingTaxi_8 : decode cX11_existingTaxi 8 = .ok (.ifCond .ne 14, 3) := by decide +kernel
theorem dX11_existingTaxi_11 : decode cX11_existingTaxi 11 = .ok (.new 205, 3) := by decide +kernel
theorem dX11_existingTaxi_14 : decode cX11_existingTaxi 14 = .ok (.dup, 1) := by decide +kernel
theorem dX11_existingTaxi_15 : decode cX11_existingTaxi 15 = .ok (.ldc_w 464, 3) := by decide +kernel
theorem dX11_existingTaxi_18 : decode cX11_existingTaxi 18 = .ok (.invokespecial 209, 3) := by decide +kernel
theorem dX11_existingTaxi_21 : decode cX11_existingTaxi 21 = .ok (.athrow, 1) := by decide +kernel
theorem dX11_existingTaxi_22 : decode cX11_existingTaxi 22 = .ok (.aload_n 0, 1) := by decide +kernel
theorem dX11_existingTaxi_23 : decode cX11_existingTaxi 23 = .ok (.getfield 36, 3) := by decide +kernel
theorem dX11_existingTaxi_26 : decode cX11_existingTaxi 26 = .ok (.getfield 366, 3) := by decide +kernel
theorem dX11_existingTaxi_29 : decode cX11_existingTaxi 29 = .ok (.iload_n 1, 1) := by decide +kernel
theorem dX11_existingTaxi_30 : decode cX11_existingTaxi 30 = .ok (.aaload, 1) := by decide +kernel
theorem dX11_existingTaxi_31 : decode cX11_existingTaxi 31 = .ok (.areturn, 1) := by decide +kernel
theorem dX11_existingRide_0 : decode cX11_existingRide 0 = .ok (.iload_n 1, 1) := by decide +kernel
theorem dX11_existingRide_1 : decode cX11_existingRide 1 = .ok (.ifCond .lt 20, 3) := by decide +kernel
theorem dX11_existingRide_4 : decode cX11_existingRide 4 = .ok (.iload_n 1, 1) := by decide +kernel
theorem dX11_existingRide_5 : decode cX11_existingRide 5 = .ok (.aload_n 0, 1) := by decide +kernel
theorem dX11_existingRide_6 : decode cX11_existingRide 6 = .ok (.getfield 36, 3) := by decide +kernel
theorem dX11_existingRide_9 : decode cX11_existingRide 9 = .ok (.getfield 187, 3) := by decide +kernel
theorem dX11_existingRide_12 : decode cX11_existingRide 12 = .ok (.if_icmp .ge 9, 3) := by decide +kernel
theorem dX11_existingRide_15 : decode cX11_existingRide 15 = .ok (.iload_n 1, 1) := by decide +kernel
theorem dX11_existingRide_16 : decode cX11_existingRide 16 = .ok (.bipush 24, 2) := by decide +kernel
theorem dX11_existingRide_18 : decode cX11_existingRide 18 = .ok (.if_icmp .lt 14, 3) := by decide +kernel
theorem dX11_existingRide_21 : decode cX11_existingRide 21 = .ok (.new 205, 3) := by decide +kernel
theorem dX11_existingRide_24 : decode cX11_existingRide 24 = .ok (.dup, 1) := by decide +kernel
theorem dX11_existingRide_25 : decode cX11_existingRide 25 = .ok (.ldc_w 466, 3) := by decide +kernel
theorem dX11_existingRide_28 : decode cX11_existingRide 28 = .ok (.invokespecial 209, 3) := by decide +kernel
theorem dX11_existingRide_31 : decode cX11_existingRide 31 = .ok (.athrow, 1) := by decide +kernel
theorem dX11_existingRide_32 : decode cX11_existingRide 32 = .ok (.aload_n 0, 1) := by decide +kernel
theorem dX11_existingRide_33 : decode cX11_existingRide 33 = .ok (.getfield 36, 3) := by decide +kernel
theorem dX11_existingRide_36 : decode cX11_existingRide 36 = .ok (.getfield 395, 3) := by decide +kernel
theorem dX11_existingRide_39 : decode cX11_existingRide 39 = .ok (.iload_n 1, 1) := by decide +kernel
theorem dX11_existingRide_40 : decode cX11_existingRide 40 = .ok (.aaload, 1) := by decide +kernel
theorem dX11_existingRide_41 : decode cX11_existingRide 41 = .ok (.areturn, 1) := by decide +kernel
