theorem dX6_nameIn_0 : decode cX6_nameIn 0 = .ok (.iload_n 0, 1) := by decide +kernel
theorem dX6_nameIn_1 : decode cX6_nameIn 1 = .ok (.sipush 1000, 3) := by decide +kernel
theorem dX6_nameIn_4 : decode cX6_nameIn 4 = .ok (.idiv, 1) := by decide +kernel
theorem dX6_nameIn_5 : decode cX6_nameIn 5 = .ok (.ireturn, 1) := by decide +kernel
theorem dX6_isWithin_0 : decode cX6_isWithin 0 = .ok (.iload_n 0, 1) := by decide +kernel
theorem dX6_isWithin_1 : decode cX6_isWithin 1 = .ok (.iload_n 1, 1) := by decide +kernel
theorem dX6_isWithin_2 : decode cX6_isWithin 2 = .ok (.if_icmp .lt 12, 3) := by decide +kernel
theorem dX6_isWithin_5 : decode cX6_isWithin 5 = .ok (.iload_n 0, 1) := by decide +kernel
theorem dX6_isWithin_6 : decode cX6_isWithin 6 = .ok (.iload_n 2, 1) := by decide +kernel
theorem dX6_isWithin_7 : decode cX6_isWithin 7 = .ok (.if_icmp .gt 7, 3) := by decide +kernel
theorem dX6_isWithin_10 : decode cX6_isWithin 10 = .ok (.iconst 1, 1) := by decide +kernel
theorem dX6_isWithin_11 : decode cX6_isWithin 11 = .ok (.goto 4, 3) := by decide +kernel
theorem dX6_isWithin_14 : decode cX6_isWithin 14 = .ok (.iconst 0, 1) := by decide +kernel
theorem dX6_isWithin_15 : decode cX6_isWithin 15 = .ok (.ireturn, 1) := by decide +kernel
theorem dX6_placeIn_0 : decode cX6_placeIn 0 = .ok (.iload_n 0, 1) := by decide +kernel
theorem dX6_placeIn_1 : decode cX6_placeIn 1 = .ok (.bipush 100, 2) := by decide +kernel
theorem dX6_placeIn_3 : decode cX6_placeIn 3 = .ok (.idiv, 1) := by decide +kernel
theorem dX6_placeIn_4 : decode cX6_placeIn 4 = .ok (.bipush 10, 2) := by decide +kernel
theorem dX6_placeIn_6 : decode cX6_placeIn 6 = .ok (.irem, 1) := by decide +kernel
theorem dX6_placeIn_7 : decode cX6_placeIn 7 = .ok (.ireturn, 1) := by decide +kernel
theorem dX6_thickIn_0 : decode cX6_thickIn 0 = .ok (.iload_n 0, 1) := by decide +kernel
theorem dX6_thickIn_1 : decode cX6_thickIn 1 = .ok (.bipush 10, 2) := by decide +kernel
theorem dX6_thickIn_3 : decode cX6_thickIn 3 = .ok (.idiv, 1) := by decide +kernel
theorem dX6_thickIn_4 : decode cX6_thickIn 4 = .ok (.bipush 10, 2) := by decide +kernel
theorem dX6_thickIn_6 : decode cX6_thickIn 6 = .ok (.irem, 1) := by decide +kernel
theorem dX6_thickIn_7 : decode cX6_thickIn 7 = .ok (.ireturn, 1) := by decide +kernel
theorem dX6_kindIn_0 : decode cX6_kindIn 0 = .ok (.iload_n 0, 1) := by decide +kernel
theorem dX6_kindIn_1 : decode cX6_kindIn 1 = .ok (.bipush 10, 2) := by decide +kernel
theorem dX6_kindIn_3 : decode cX6_kindIn 3 = .ok (.irem, 1) := by decide +kernel
theorem dX6_kindIn_4 : decode cX6_kindIn 4 = .ok (.ireturn, 1) := by decide +kernel
theorem dX6_onIn_0 : decode cX6_onIn 0 = .ok (.iload_n 0, 1) := by decide +kernel
theorem dX6_onIn_1 : decode cX6_onIn 1 = .ok (.bipush 100, 2) := by decide +kernel
theorem dX6_onIn_3 : decode cX6_onIn 3 = .ok (.idiv, 1) := by decide +kernel
theorem dX6_onIn_4 : decode cX6_onIn 4 = .ok (.ireturn, 1) := by decide +kernel
theorem dX6_offIn_0 : decode cX6_offIn 0 = .ok (.iload_n 0, 1) := by decide +kernel
theorem dX6_offIn_1 : decode cX6_offIn 1 = .ok (.bipush 100, 2) := by decide +kernel
theorem dX6_offIn_3 : decode cX6_offIn 3 = .ok (.irem, 1) := by decide +kernel
theorem dX6_offIn_4 : decode cX6_offIn 4 = .ok (.ireturn, 1) := by decide +kernel
theorem dX6_sizeIn_0 : decode cX6_sizeIn 0 = .ok (.iload_n 0, 1) := by decide +kernel
theorem dX6_sizeIn_1 : decode cX6_sizeIn 1 = .ok (.bipush 10, 2) := by decide +kernel
theorem dX6_sizeIn_3 : decode cX6_sizeIn 3 = .ok (.idiv, 1) := by decide +kernel
theorem dX6_sizeIn_4 : decode cX6_sizeIn 4 = .ok (.ireturn, 1) := by decide +kernel
theorem dX6_spanIn_0 : decode cX6_spanIn 0 = .ok (.iload_n 0, 1) := by decide +kernel
theorem dX6_spanIn_1 : decode cX6_spanIn 1 = .ok (.bipush 10, 2) := by decide +kernel
theorem dX6_spanIn_3 : decode cX6_spanIn 3 = .ok (.irem, 1) := by decide +kernel
theorem dX6_spanIn_4 : decode cX6_spanIn 4 = .ok (.ireturn, 1) := by decide +kernel
theorem dX6_isPieceTold_0 : decode cX6_isPieceTold 0 = .ok (.iload_n 0, 1) := by decide +kernel
theorem dX6_isPieceTold_1 : decode cX6_isPieceTold 1 = .ok (.ifCond .lt 129, 3) := by decide +kernel
theorem dX6_isPieceTold_4 : decode cX6_isPieceTold 4 = .ok (.iload_n 1, 1) := by decide +kernel
theorem dX6_isPieceTold_5 : decode cX6_isPieceTold 5 = .ok (.ifCond .lt 125, 3) := by decide +kernel
theorem dX6_isPieceTold_8 : decode cX6_isPieceTold 8 = .ok (.iload_n 2, 1) := by decide +kernel
theorem dX6_isPieceTold_9 : decode cX6_isPieceTold 9 = .ok (.ifCond .lt 121, 3) := by decide +kernel
theorem dX6_isPieceTold_12 : decode cX6_isPieceTold 12 = .ok (.iload_n 0, 1) := by decide +kernel
theorem dX6_isPieceTold_13 : decode cX6_isPieceTold 13 = .ok (.invokestatic 212, 3) := by decide +kernel
theorem dX6_isPieceTold_16 : decode cX6_isPieceTold 16 = .ok (.iconst 0, 1) := by decide +kernel
theorem dX6_isPieceTold_17 : decode cX6_isPieceTold 17 = .ok (.bipush 15, 2) := by decide +kernel
theorem dX6_isPieceTold_19 : decode cX6_isPieceTold 19 = .ok (.invokestatic 88, 3) := by decide +kernel
theorem dX6_isPieceTold_22 : decode cX6_isPieceTold 22 = .ok (.ifCond .eq 108, 3) := by decide +kernel
theorem dX6_isPieceTold_25 : decode cX6_isPieceTold 25 = .ok (.iload_n 0, 1) := by decide +kernel
theorem dX6_isPieceTold_26 : decode cX6_isPieceTold 26 = .ok (.invokestatic 215, 3) := by decide +kernel
theorem dX6_isPieceTold_29 : decode cX6_isPieceTold 29 = .ok (.iconst 0, 1) := by decide +kernel
theorem dX6_isPieceTold_30 : decode cX6_isPieceTold 30 = .ok (.iconst 5, 1) := by decide +kernel
theorem dX6_isPieceTold_31 : decode cX6_isPieceTold 31 = .ok (.invokestatic 88, 3) := by decide +kernel
theorem dX6_isPieceTold_34 : decode cX6_isPieceTold 34 = .ok (.ifCond .eq 96, 3) := by decide +kernel
theorem dX6_isPieceTold_37 : decode cX6_isPieceTold 37 = .ok (.iload_n 0, 1) := by decide +kernel
theorem dX6_isPieceTold_38 : decode cX6_isPieceTold 38 = .ok (.invokestatic 218, 3) := by decide +kernel
theorem dX6_isPieceTold_41 : decode cX6_isPieceTold 41 = .ok (.iconst 1, 1) := by decide +kernel
theorem dX6_isPieceTold_42 : decode cX6_isPieceTold 42 = .ok (.iconst 5, 1) := by decide +kernel
theorem dX6_isPieceTold_43 : decode cX6_isPieceTold 43 = .ok (.invokestatic 88, 3) := by decide +kernel
theorem dX6_isPieceTold_46 : decode cX6_isPieceTold 46 = .ok (.ifCond .eq 84, 3) := by decide +kernel
theorem dX6_isPieceTold_49 : decode cX6_isPieceTold 49 = .ok (.iload_n 0, 1) := by decide +kernel
theorem dX6_isPieceTold_50 : decode cX6_isPieceTold 50 = .ok (.invokestatic 221, 3) := by decide +kernel
theorem dX6_isPieceTold_53 : decode cX6_isPieceTold 53 = .ok (.iconst 0, 1) := by decide +kernel
theorem dX6_isPieceTold_54 : decode cX6_isPieceTold 54 = .ok (.iconst 2, 1) := by decide +kernel
theorem dX6_isPieceTold_55 : decode cX6_isPieceTold 55 = .ok (.invokestatic 88, 3) := by decide +kernel
theorem dX6_isPieceTold_58 : decode cX6_isPieceTold 58 = .ok (.ifCond .eq 72, 3) := by decide +kernel
theorem dX6_isPieceTold_61 : decode cX6_isPieceTold 61 = .ok (.iload_n 1, 1) := by decide +kernel
theorem dX6_isPieceTold_62 : decode cX6_isPieceTold 62 = .ok (.invokestatic 224, 3) := by decide +kernel
theorem dX6_isPieceTold_65 : decode cX6_isPieceTold 65 = .ok (.iconst 1, 1) := by decide +kernel
theorem dX6_isPieceTold_66 : decode cX6_isPieceTold 66 = .ok (.bipush 60, 2) := by decide +kernel
theorem dX6_isPieceTold_68 : decode cX6_isPieceTold 68 = .ok (.invokestatic 88, 3) := by decide +kernel
theorem dX6_isPieceTold_71 : decode cX6_isPieceTold 71 = .ok (.ifCond .eq 59, 3) := by decide +kernel
theorem dX6_isPieceTold_74 : decode cX6_isPieceTold 74 = .ok (.iload_n 1, 1) := by decide +kernel
theorem dX6_isPieceTold_75 : decode cX6_isPieceTold 75 = .ok (.invokestatic 227, 3) := by decide +kernel
theorem dX6_isPieceTold_78 : decode cX6_isPieceTold 78 = .ok (.iconst 1, 1) := by decide +kernel
theorem dX6_isPieceTold_79 : decode cX6_isPieceTold 79 = .ok (.iload_n 0, 1) := by decide +kernel
theorem dX6_isPieceTold_80 : decode cX6_isPieceTold 80 = .ok (.invokestatic 221, 3) := by decide +kernel
theorem dX6_isPieceTold_83 : decode cX6_isPieceTold 83 = .ok (.iconst 2, 1) := by decide +kernel
theorem dX6_isPieceTold_84 : decode cX6_isPieceTold 84 = .ok (.if_icmp .ne 7, 3) := by decide +kernel
theorem dX6_isPieceTold_87 : decode cX6_isPieceTold 87 = .ok (.iconst 1, 1) := by decide +kernel
theorem dX6_isPieceTold_88 : decode cX6_isPieceTold 88 = .ok (.goto 5, 3) := by decide +kernel
theorem dX6_isPieceTold_91 : decode cX6_isPieceTold 91 = .ok (.bipush 60, 2) := by decide +kernel
theorem dX6_isPieceTold_93 : decode cX6_isPieceTold 93 = .ok (.invokestatic 88, 3) := by decide +kernel
theorem dX6_isPieceTold_96 : decode cX6_isPieceTold 96 = .ok (.ifCond .eq 34, 3) := by decide +kernel
theorem dX6_isPieceTold_99 : decode cX6_isPieceTold 99 = .ok (.iload_n 2, 1) := by decide +kernel
theorem dX6_isPieceTold_100 : decode cX6_isPieceTold 100 = .ok (.invokestatic 230, 3) := by decide +kernel
theorem dX6_isPieceTold_103 : decode cX6_isPieceTold 103 = .ok (.bipush 30, 2) := by decide +kernel
theorem dX6_isPieceTold_105 : decode cX6_isPieceTold 105 = .ok (.bipush 60, 2) := by decide +kernel
theorem dX6_isPieceTold_107 : decode cX6_isPieceTold 107 = .ok (.invokestatic 88, 3) := by decide +kernel
theorem dX6_isPieceTold_110 : decode cX6_isPieceTold 110 = .ok (.ifCond .eq 20, 3) := by decide +kernel
theorem dX6_isPieceTold_113 : decode cX6_isPieceTold 113 = .ok (.iload_n 2, 1) := by decide +kernel
theorem dX6_isPieceTold_114 : decode cX6_isPieceTold 114 = .ok (.invokestatic 233, 3) := by decide +kernel
theorem dX6_isPieceTold_117 : decode cX6_isPieceTold 117 = .ok (.iconst 0, 1) := by decide +kernel
theorem dX6_isPieceTold_118 : decode cX6_isPieceTold 118 = .ok (.bipush 6, 2) := by decide +kernel
theorem dX6_isPieceTold_120 : decode cX6_isPieceTold 120 = .ok (.invokestatic 88, 3) := by decide +kernel
theorem dX6_isPieceTold_123 : decode cX6_isPieceTold 123 = .ok (.ifCond .eq 7, 3) := by decide +kernel
theorem dX6_isPieceTold_126 : decode cX6_isPieceTold 126 = .ok (.iconst 1, 1) := by decide +kernel
theorem dX6_isPieceTold_127 : decode cX6_isPieceTold 127 = .ok (.goto 4, 3) := by decide +kernel
theorem dX6_isPieceTold_130 : decode cX6_isPieceTold 130 = .ok (.iconst 0, 1) := by decide +kernel
theorem dX6_isPieceTold_131 : decode cX6_isPieceTold 131 = .ok (.ireturn, 1) := by decide +kernel
theorem dX6_finding_0 : decode cX6_finding 0 = .ok (.iload_n 1, 1) := by decide +kernel
theorem dX6_finding_1 : decode cX6_finding 1 = .ok (.iconst 1, 1) := by decide +kernel
theorem dX6_finding_2 : decode cX6_finding 2 = .ok (.iconst 5, 1) := by decide +kernel
theorem dX6_finding_3 : decode cX6_finding 3 = .ok (.invokestatic 88, 3) := by decide +kernel
theorem dX6_finding_6 : decode cX6_finding 6 = .ok (.ifCond .eq 13, 3) := by decide +kernel
theorem dX6_finding_9 : decode cX6_finding 9 = .ok (.aload_n 0, 1) := by decide +kernel
theorem dX6_finding_10 : decode cX6_finding 10 = .ok (.getfield 61, 3) := by decide +kernel
theorem dX6_finding_13 : decode cX6_finding 13 = .ok (.iload_n 1, 1) := by decide +kernel
theorem dX6_finding_14 : decode cX6_finding 14 = .ok (.dup2, 1) := by decide +kernel
theorem dX6_finding_15 : decode cX6_finding 15 = .ok (.iaload, 1) := by decide +kernel
theorem dX6_finding_16 : decode cX6_finding 16 = .ok (.iconst 1, 1) := by decide +kernel
theorem dX6_finding_17 : decode cX6_finding 17 = .ok (.iadd, 1) := by decide +kernel
theorem dX6_finding_18 : decode cX6_finding 18 = .ok (.iastore, 1) := by decide +kernel
theorem dX6_finding_19 : decode cX6_finding 19 = .ok (.ldc 211, 2) := by decide +kernel
theorem dX6_finding_21 : decode cX6_finding 21 = .ok (.iload_n 1, 1) := by decide +kernel
theorem dX6_finding_22 : decode cX6_finding 22 = .ok (.isub, 1) := by decide +kernel
theorem dX6_finding_23 : decode cX6_finding 23 = .ok (.ireturn, 1) := by decide +kernel
theorem dX5_isFull_0 : decode cX5_isFull 0 = .ok (.aload_n 0, 1) := by decide +kernel
theorem dX5_isFull_1 : decode cX5_isFull 1 = .ok (.getfield 15, 3) := by decide +kernel
theorem dX5_isFull_4 : decode cX5_isFull 4 = .ok (.bipush 32, 2) := by decide +kernel
theorem dX5_isFull_6 : decode cX5_isFull 6 = .ok (.if_icmp .lt 7, 3) := by decide +kernel
theorem dX5_isFull_9 : decode cX5_isFull 9 = .ok (.iconst 1, 1) := by decide +kernel
theorem dX5_isFull_10 : decode cX5_isFull 10 = .ok (.goto 4, 3) := by decide +kernel
theorem dX5_isFull_13 : decode cX5_isFull 13 = .ok (.iconst 0, 1) := by decide +kernel
theorem dX5_isFull_14 : decode cX5_isFull 14 = .ok (.ireturn, 1) := by decide +kernel
theorem dX5_has_0 : decode cX5_has 0 = .ok (.iload_n 1, 1) := by decide +kernel
theorem dX5_has_1 : decode cX5_has 1 = .ok (.ifCond .lt 21, 3) := by decide +kernel
theorem dX5_has_4 : decode cX5_has 4 = .ok (.iload_n 1, 1) := by decide +kernel
theorem dX5_has_5 : decode cX5_has 5 = .ok (.aload_n 0, 1) := by decide +kernel
theorem dX5_has_6 : decode cX5_has 6 = .ok (.getfield 15, 3) := by decide +kernel
theorem dX5_has_9 : decode cX5_has 9 = .ok (.if_icmp .ge 13, 3) := by decide +kernel
theorem dX5_has_12 : decode cX5_has 12 = .ok (.iload_n 1, 1) := by decide +kernel
theorem dX5_has_13 : decode cX5_has 13 = .ok (.bipush 32, 2) := by decide +kernel
theorem dX5_has_15 : decode cX5_has 15 = .ok (.if_icmp .ge 7, 3) := by decide +kernel
theorem dX5_has_18 : decode cX5_has 18 = .ok (.iconst 1, 1) := by decide +kernel
theorem dX5_has_19 : decode cX5_has 19 = .ok (.goto 4, 3) := by decide +kernel
theorem dX5_has_22 : decode cX5_has 22 = .ok (.iconst 0, 1) := by decide +kernel
theorem dX5_has_23 : decode cX5_has 23 = .ok (.ireturn, 1) := by decide +kernel
theorem dX5_setFact_0 : decode cX5_setFact 0 = .ok (.aload_n 0, 1) := by decide +kernel
theorem dX5_setFact_1 : decode cX5_setFact 1 = .ok (.iload_n 1, 1) := by decide +kernel
theorem dX5_setFact_2 : decode cX5_setFact 2 = .ok (.invokevirtual 19, 3) := by decide +kernel
theorem dX5_setFact_5 : decode cX5_setFact 5 = .ok (.ifCond .eq 25, 3) := by decide +kernel
theorem dX5_setFact_8 : decode cX5_setFact 8 = .ok (.iload_n 2, 1) := by decide +kernel
theorem dX5_setFact_9 : decode cX5_setFact 9 = .ok (.ifCond .lt 21, 3) := by decide +kernel
theorem dX5_setFact_12 : decode cX5_setFact 12 = .ok (.iload_n 2, 1) := by decide +kernel
theorem dX5_setFact_13 : decode cX5_setFact 13 = .ok (.bipush 10, 2) := by decide +kernel
theorem dX5_setFact_15 : decode cX5_setFact 15 = .ok (.if_icmp .ge 15, 3) := by decide +kernel
theorem dX5_setFact_18 : decode cX5_setFact 18 = .ok (.aload_n 0, 1) := by decide +kernel
theorem dX5_setFact_19 : decode cX5_setFact 19 = .ok (.getfield 9, 3) := by decide +kernel
theorem dX5_setFact_22 : decode cX5_setFact 22 = .ok (.iload_n 1, 1) := by decide +kernel
theorem dX5_setFact_23 : decode cX5_setFact 23 = .ok (.bipush 10, 2) := by decide +kernel
theorem dX5_setFact_25 : decode cX5_setFact 25 = .ok (.imul, 1) := by decide +kernel
theorem dX5_setFact_26 : decode cX5_setFact 26 = .ok (.iload_n 2, 1) := by decide +kernel
theorem dX5_setFact_27 : decode cX5_setFact 27 = .ok (.iadd, 1) := by decide +kernel
theorem dX5_setFact_28 : decode cX5_setFact 28 = .ok (.iload_n 3, 1) := by decide +kernel
theorem dX5_setFact_29 : decode cX5_setFact 29 = .ok (.iastore, 1) := by decide +kernel
theorem dX5_setFact_30 : decode cX5_setFact 30 = .ok (.return_, 1) := by decide +kernel
theorem dX5_place_0 : decode cX5_place 0 = .ok (.aload_n 0, 1) := by decide +kernel
theorem dX5_place_1 : decode cX5_place 1 = .ok (.iload_n 1, 1) := by decide +kernel
theorem dX5_place_2 : decode cX5_place 2 = .ok (.bipush 8, 2) := by decide +kernel
theorem dX5_place_4 : decode cX5_place 4 = .ok (.iload_n 2, 1) := by decide +kernel
theorem dX5_place_5 : decode cX5_place 5 = .ok (.invokevirtual 27, 3) := by decide +kernel
theorem dX5_place_8 : decode cX5_place 8 = .ok (.aload_n 0, 1) := by decide +kernel
theorem dX5_place_9 : decode cX5_place 9 = .ok (.iload_n 1, 1) := by decide +kernel
theorem dX5_place_10 : decode cX5_place 10 = .ok (.bipush 9, 2) := by decide +kernel
theorem dX5_place_12 : decode cX5_place 12 = .ok (.iload_n 3, 1) := by decide +kernel
theorem dX5_place_13 : decode cX5_place 13 = .ok (.invokevirtual 27, 3) := by decide +kernel
theorem dX5_place_16 : decode cX5_place 16 = .ok (.return_, 1) := by decide +kernel
theorem dX5_add_0 : decode cX5_add 0 = .ok (.aload_n 0, 1) := by decide +kernel
theorem dX5_add_1 : decode cX5_add 1 = .ok (.getfield 15, 3) := by decide +kernel
theorem dX5_add_4 : decode cX5_add 4 = .ok (.istore 4, 2) := by decide +kernel
theorem dX5_add_6 : decode cX5_add 6 = .ok (.aload_n 0, 1) := by decide +kernel
theorem dX5_add_7 : decode cX5_add 7 = .ok (.dup, 1) := by decide +kernel
theorem dX5_add_8 : decode cX5_add 8 = .ok (.getfield 15, 3) := by decide +kernel
theorem dX5_add_11 : decode cX5_add 11 = .ok (.iconst 1, 1) := by decide +kernel
theorem dX5_add_12 : decode cX5_add 12 = .ok (.iadd, 1) := by decide +kernel
theorem dX5_add_13 : decode cX5_add 13 = .ok (.putfield 15, 3) := by decide +kernel
theorem dX5_add_16 : decode cX5_add 16 = .ok (.aload_n 0, 1) := by decide +kernel
theorem dX5_add_17 : decode cX5_add 17 = .ok (.iload 4, 2) := by decide +kernel
theorem dX5_add_19 : decode cX5_add 19 = .ok (.iconst 0, 1) := by decide +kernel
theorem dX5_add_20 : decode cX5_add 20 = .ok (.iload_n 1, 1) := by decide +kernel
theorem dX5_add_21 : decode cX5_add 21 = .ok (.invokestatic 23, 3) := by decide +kernel
theorem dX5_add_24 : decode cX5_add 24 = .ok (.invokevirtual 27, 3) := by decide +kernel
theorem dX5_add_27 : decode cX5_add 27 = .ok (.aload_n 0, 1) := by decide +kernel
theorem dX5_add_28 : decode cX5_add 28 = .ok (.iload 4, 2) := by decide +kernel
theorem dX5_add_30 : decode cX5_add 30 = .ok (.iconst 1, 1) := by decide +kernel
theorem dX5_add_31 : decode cX5_add 31 = .ok (.iload_n 1, 1) := by decide +kernel
theorem dX5_add_32 : decode cX5_add 32 = .ok (.invokestatic 31, 3) := by decide +kernel
theorem dX5_add_35 : decode cX5_add 35 = .ok (.invokevirtual 27, 3) := by decide +kernel
theorem dX5_add_38 : decode cX5_add 38 = .ok (.aload_n 0, 1) := by decide +kernel
theorem dX5_add_39 : decode cX5_add 39 = .ok (.iload 4, 2) := by decide +kernel
theorem dX5_add_41 : decode cX5_add 41 = .ok (.iconst 2, 1) := by decide +kernel
theorem dX5_add_42 : decode cX5_add 42 = .ok (.iload_n 1, 1) := by decide +kernel
theorem dX5_add_43 : decode cX5_add 43 = .ok (.invokestatic 34, 3) := by decide +kernel
theorem dX5_add_46 : decode cX5_add 46 = .ok (.invokevirtual 27, 3) := by decide +kernel
theorem dX5_add_49 : decode cX5_add 49 = .ok (.aload_n 0, 1) := by decide +kernel
theorem dX5_add_50 : decode cX5_add 50 = .ok (.iload 4, 2) := by decide +kernel
theorem dX5_add_52 : decode cX5_add 52 = .ok (.iconst 3, 1) := by decide +kernel
theorem dX5_add_53 : decode cX5_add 53 = .ok (.iload_n 2, 1) := by decide +kernel
theorem dX5_add_54 : decode cX5_add 54 = .ok (.invokestatic 37, 3) := by decide +kernel
theorem dX5_add_57 : decode cX5_add 57 = .ok (.invokevirtual 27, 3) := by decide +kernel
theorem dX5_add_60 : decode cX5_add 60 = .ok (.aload_n 0, 1) := by decide +kernel
theorem dX5_add_61 : decode cX5_add 61 = .ok (.iload 4, 2) := by decide +kernel
theorem dX5_add_63 : decode cX5_add 63 = .ok (.iconst 4, 1) := by decide +kernel
theorem dX5_add_64 : decode cX5_add 64 = .ok (.iload_n 2, 1) := by decide +kernel
theorem dX5_add_65 : decode cX5_add 65 = .ok (.invokestatic 40, 3) := by decide +kernel
theorem dX5_add_68 : decode cX5_add 68 = .ok (.invokevirtual 27, 3) := by decide +kernel
theorem dX5_add_71 : decode cX5_add 71 = .ok (.aload_n 0, 1) := by decide +kernel
theorem dX5_add_72 : decode cX5_add 72 = .ok (.iload 4, 2) := by decide +kernel
theorem dX5_add_74 : decode cX5_add 74 = .ok (.iconst 5, 1) := by decide +kernel
theorem dX5_add_75 : decode cX5_add 75 = .ok (.iload_n 1, 1) := by decide +kernel
theorem dX5_add_76 : decode cX5_add 76 = .ok (.invokestatic 43, 3) := by decide +kernel
theorem dX5_add_79 : decode cX5_add 79 = .ok (.invokevirtual 27, 3) := by decide +kernel
theorem dX5_add_82 : decode cX5_add 82 = .ok (.aload_n 0, 1) := by decide +kernel
theorem dX5_add_83 : decode cX5_add 83 = .ok (.iload 4, 2) := by decide +kernel
theorem dX5_add_85 : decode cX5_add 85 = .ok (.bipush 6, 2) := by decide +kernel
theorem dX5_add_87 : decode cX5_add 87 = .ok (.iload_n 3, 1) := by decide +kernel
theorem dX5_add_88 : decode cX5_add 88 = .ok (.invokestatic 46, 3) := by decide +kernel
theorem dX5_add_91 : decode cX5_add 91 = .ok (.invokevirtual 27, 3) := by decide +kernel
theorem dX5_add_94 : decode cX5_add 94 = .ok (.aload_n 0, 1) := by decide +kernel
theorem dX5_add_95 : decode cX5_add 95 = .ok (.iload 4, 2) := by decide +kernel
theorem dX5_add_97 : decode cX5_add 97 = .ok (.bipush 7, 2) := by decide +kernel
theorem dX5_add_99 : decode cX5_add 99 = .ok (.iload_n 3, 1) := by decide +kernel
theorem dX5_add_100 : decode cX5_add 100 = .ok (.invokestatic 49, 3) := by decide +kernel
theorem dX5_add_103 : decode cX5_add 103 = .ok (.invokevirtual 27, 3) := by decide +kernel
theorem dX5_add_106 : decode cX5_add 106 = .ok (.aload_n 0, 1) := by decide +kernel
theorem dX5_add_107 : decode cX5_add 107 = .ok (.iload 4, 2) := by decide +kernel
theorem dX5_add_109 : decode cX5_add 109 = .ok (.iconst 0, 1) := by decide +kernel
theorem dX5_add_110 : decode cX5_add 110 = .ok (.iconst 0, 1) := by decide +kernel
theorem dX5_add_111 : decode cX5_add 111 = .ok (.invokevirtual 52, 3) := by decide +kernel
theorem dX5_add_114 : decode cX5_add 114 = .ok (.iload 4, 2) := by decide +kernel
theorem dX5_add_116 : decode cX5_add 116 = .ok (.ireturn, 1) := by decide +kernel
theorem dX6_piece_0 : decode cX6_piece 0 = .ok (.iload_n 1, 1) := by decide +kernel
theorem dX6_piece_1 : decode cX6_piece 1 = .ok (.iload_n 2, 1) := by decide +kernel
theorem dX6_piece_2 : decode cX6_piece 2 = .ok (.iload_n 3, 1) := by decide +kernel
theorem dX6_piece_3 : decode cX6_piece 3 = .ok (.invokestatic 68, 3) := by decide +kernel
theorem dX6_piece_6 : decode cX6_piece 6 = .ok (.ifCond .ne 9, 3) := by decide +kernel
theorem dX6_piece_9 : decode cX6_piece 9 = .ok (.aload_n 0, 1) := by decide +kernel
theorem dX6_piece_10 : decode cX6_piece 10 = .ok (.iconst 1, 1) := by decide +kernel
theorem dX6_piece_11 : decode cX6_piece 11 = .ok (.invokevirtual 72, 3) := by decide +kernel
theorem dX6_piece_14 : decode cX6_piece 14 = .ok (.ireturn, 1) := by decide +kernel
theorem dX6_piece_15 : decode cX6_piece 15 = .ok (.aload_n 0, 1) := by decide +kernel
theorem dX6_piece_16 : decode cX6_piece 16 = .ok (.getfield 10, 3) := by decide +kernel
theorem dX6_piece_19 : decode cX6_piece 19 = .ok (.invokevirtual 76, 3) := by decide +kernel
theorem dX6_piece_22 : decode cX6_piece 22 = .ok (.ifCond .eq 9, 3) := by decide +kernel
theorem dX6_piece_25 : decode cX6_piece 25 = .ok (.aload_n 0, 1) := by decide +kernel
theorem dX6_piece_26 : decode cX6_piece 26 = .ok (.iconst 4, 1) := by decide +kernel
theorem dX6_piece_27 : decode cX6_piece 27 = .ok (.invokevirtual 72, 3) := by decide +kernel
theorem dX6_piece_30 : decode cX6_piece 30 = .ok (.ireturn, 1) := by decide +kernel
theorem dX6_piece_31 : decode cX6_piece 31 = .ok (.aload_n 0, 1) := by decide +kernel
theorem dX6_piece_32 : decode cX6_piece 32 = .ok (.getfield 10, 3) := by decide +kernel
theorem dX6_piece_35 : decode cX6_piece 35 = .ok (.iload_n 1, 1) := by decide +kernel
theorem dX6_piece_36 : decode cX6_piece 36 = .ok (.iload_n 2, 1) := by decide +kernel
theorem dX6_piece_37 : decode cX6_piece 37 = .ok (.iload_n 3, 1) := by decide +kernel
theorem dX6_piece_38 : decode cX6_piece 38 = .ok (.invokevirtual 80, 3) := by decide +kernel
theorem dX6_piece_41 : decode cX6_piece 41 = .ok (.ireturn, 1) := by decide +kernel
theorem dX7_isIn_0 : decode cX7_isIn 0 = .ok (.iload_n 0, 1) := by decide +kernel
theorem dX7_isIn_1 : decode cX7_isIn 1 = .ok (.iload_n 1, 1) := by decide +kernel
theorem dX7_isIn_2 : decode cX7_isIn 2 = .ok (.if_icmp .lt 12, 3) := by decide +kernel
theorem dX7_isIn_5 : decode cX7_isIn 5 = .ok (.iload_n 0, 1) := by decide +kernel
theorem dX7_isIn_6 : decode cX7_isIn 6 = .ok (.iload_n 2, 1) := by decide +kernel
theorem dX7_isIn_7 : decode cX7_isIn 7 = .ok (.if_icmp .gt 7, 3) := by decide +kernel
theorem dX7_isIn_10 : decode cX7_isIn 10 = .ok (.iconst 1, 1) := by decide +kernel
theorem dX7_isIn_11 : decode cX7_isIn 11 = .ok (.goto 4, 3) := by decide +kernel
theorem dX7_isIn_14 : decode cX7_isIn 14 = .ok (.iconst 0, 1) := by decide +kernel
theorem dX7_isIn_15 : decode cX7_isIn 15 = .ok (.ireturn, 1) := by decide +kernel
theorem dX7_finding_0 : decode cX7_finding 0 = .ok (.aload_n 0, 1) := by decide +kernel
theorem dX7_finding_1 : decode cX7_finding 1 = .ok (.getfield 74, 3) := by decide +kernel
theorem dX7_finding_4 : decode cX7_finding 4 = .ok (.iload_n 1, 1) := by decide +kernel
theorem dX7_finding_5 : decode cX7_finding 5 = .ok (.dup2, 1) := by decide +kernel
theorem dX7_finding_6 : decode cX7_finding 6 = .ok (.iaload, 1) := by decide +kernel
theorem dX7_finding_7 : decode cX7_finding 7 = .ok (.iconst 1, 1) := by decide +kernel
theorem dX7_finding_8 : decode cX7_finding 8 = .ok (.iadd, 1) := by decide +kernel
theorem dX7_finding_9 : decode cX7_finding 9 = .ok (.iastore, 1) := by decide +kernel
theorem dX7_finding_10 : decode cX7_finding 10 = .ok (.ldc 96, 2) := by decide +kernel
theorem dX7_finding_12 : decode cX7_finding 12 = .ok (.iload_n 1, 1) := by decide +kernel
theorem dX7_finding_13 : decode cX7_finding 13 = .ok (.isub, 1) := by decide +kernel
theorem dX7_finding_14 : decode cX7_finding 14 = .ok (.ireturn, 1) := by decide +kernel
theorem dX7_piece_0 : decode cX7_piece 0 = .ok (.iload_n 1, 1) := by decide +kernel
theorem dX7_piece_1 : decode cX7_piece 1 = .ok (.ifCond .lt 71, 3) := by decide +kernel
theorem dX7_piece_4 : decode cX7_piece 4 = .ok (.iload_n 2, 1) := by decide +kernel
theorem dX7_piece_5 : decode cX7_piece 5 = .ok (.ifCond .lt 67, 3) := by decide +kernel
theorem dX7_piece_8 : decode cX7_piece 8 = .ok (.iload_n 3, 1) := by decide +kernel
theorem dX7_piece_9 : decode cX7_piece 9 = .ok (.ifCond .lt 63, 3) := by decide +kernel
theorem dX7_piece_12 : decode cX7_piece 12 = .ok (.iload_n 1, 1) := by decide +kernel
theorem dX7_piece_13 : decode cX7_piece 13 = .ok (.sipush 1000, 3) := by decide +kernel
theorem dX7_piece_16 : decode cX7_piece 16 = .ok (.idiv, 1) := by decide +kernel
theorem dX7_piece_17 : decode cX7_piece 17 = .ok (.iconst 0, 1) := by decide +kernel
theorem dX7_piece_18 : decode cX7_piece 18 = .ok (.bipush 15, 2) := by decide +kernel
theorem dX7_piece_20 : decode cX7_piece 20 = .ok (.invokestatic 100, 3) := by decide +kernel
theorem dX7_piece_23 : decode cX7_piece 23 = .ok (.ifCond .eq 49, 3) := by decide +kernel
theorem dX7_piece_26 : decode cX7_piece 26 = .ok (.iload_n 1, 1) := by decide +kernel
theorem dX7_piece_27 : decode cX7_piece 27 = .ok (.bipush 100, 2) := by decide +kernel
theorem dX7_piece_29 : decode cX7_piece 29 = .ok (.idiv, 1) := by decide +kernel
theorem dX7_piece_30 : decode cX7_piece 30 = .ok (.bipush 10, 2) := by decide +kernel
theorem dX7_piece_32 : decode cX7_piece 32 = .ok (.irem, 1) := by decide +kernel
theorem dX7_piece_33 : decode cX7_piece 33 = .ok (.iconst 0, 1) := by decide +kernel
theorem dX7_piece_34 : decode cX7_piece 34 = .ok (.iconst 5, 1) := by decide +kernel
theorem dX7_piece_35 : decode cX7_piece 35 = .ok (.invokestatic 100, 3) := by decide +kernel
theorem dX7_piece_38 : decode cX7_piece 38 = .ok (.ifCond .eq 34, 3) := by decide +kernel
theorem dX7_piece_41 : decode cX7_piece 41 = .ok (.iload_n 1, 1) := by decide +kernel
theorem dX7_piece_42 : decode cX7_piece 42 = .ok (.bipush 10, 2) := by decide +kernel
theorem dX7_piece_44 : decode cX7_piece 44 = .ok (.idiv, 1) := by decide +kernel
theorem dX7_piece_45 : decode cX7_piece 45 = .ok (.bipush 10, 2) := by decide +kernel
theorem dX7_piece_47 : decode cX7_piece 47 = .ok (.irem, 1) := by decide +kernel
theorem dX7_piece_48 : decode cX7_piece 48 = .ok (.iconst 1, 1) := by decide +kernel
theorem dX7_piece_49 : decode cX7_piece 49 = .ok (.iconst 5, 1) := by decide +kernel
theorem dX7_piece_50 : decode cX7_piece 50 = .ok (.invokestatic 100, 3) := by decide +kernel
theorem dX7_piece_53 : decode cX7_piece 53 = .ok (.ifCond .eq 19, 3) := by decide +kernel
theorem dX7_piece_56 : decode cX7_piece 56 = .ok (.iload_n 1, 1) := by decide +kernel
theorem dX7_piece_57 : decode cX7_piece 57 = .ok (.bipush 10, 2) := by decide +kernel
theorem dX7_piece_59 : decode cX7_piece 59 = .ok (.irem, 1) := by decide +kernel
theorem dX7_piece_60 : decode cX7_piece 60 = .ok (.iconst 0, 1) := by decide +kernel
theorem dX7_piece_61 : decode cX7_piece 61 = .ok (.iconst 2, 1) := by decide +kernel
theorem dX7_piece_62 : decode cX7_piece 62 = .ok (.invokestatic 100, 3) := by decide +kernel
theorem dX7_piece_65 : decode cX7_piece 65 = .ok (.ifCond .eq 7, 3) := by decide +kernel
theorem dX7_piece_68 : decode cX7_piece 68 = .ok (.iconst 1, 1) := by decide +kernel
theorem dX7_piece_69 : decode cX7_piece 69 = .ok (.goto 4, 3) := by decide +kernel
theorem dX7_piece_72 : decode cX7_piece 72 = .ok (.iconst 0, 1) := by decide +kernel
theorem dX7_piece_73 : decode cX7_piece 73 = .ok (.istore 4, 2) := by decide +kernel
theorem dX7_piece_75 : decode cX7_piece 75 = .ok (.iload 4, 2) := by decide +kernel
theorem dX7_piece_77 : decode cX7_piece 77 = .ok (.ifCond .eq 72, 3) := by decide +kernel
theorem dX7_piece_80 : decode cX7_piece 80 = .ok (.iload_n 2, 1) := by decide +kernel
theorem dX7_piece_81 : decode cX7_piece 81 = .ok (.bipush 100, 2) := by decide +kernel
theorem dX7_piece_83 : decode cX7_piece 83 = .ok (.idiv, 1) := by decide +kernel
theorem dX7_piece_84 : decode cX7_piece 84 = .ok (.iconst 1, 1) := by decide +kernel
theorem dX7_piece_85 : decode cX7_piece 85 = .ok (.bipush 60, 2) := by decide +kernel
theorem dX7_piece_87 : decode cX7_piece 87 = .ok (.invokestatic 100, 3) := by decide +kernel
theorem dX7_piece_90 : decode cX7_piece 90 = .ok (.ifCond .eq 59, 3) := by decide +kernel
theorem dX7_piece_93 : decode cX7_piece 93 = .ok (.iload_n 2, 1) := by decide +kernel
theorem dX7_piece_94 : decode cX7_piece 94 = .ok (.bipush 100, 2) := by decide +kernel
theorem dX7_piece_96 : decode cX7_piece 96 = .ok (.irem, 1) := by decide +kernel
theorem dX7_piece_97 : decode cX7_piece 97 = .ok (.iconst 1, 1) := by decide +kernel
theorem dX7_piece_98 : decode cX7_piece 98 = .ok (.iload_n 1, 1) := by decide +kernel
theorem dX7_piece_99 : decode cX7_piece 99 = .ok (.bipush 10, 2) := by decide +kernel
theorem dX7_piece_101 : decode cX7_piece 101 = .ok (.irem, 1) := by decide +kernel
theorem dX7_piece_102 : decode cX7_piece 102 = .ok (.iconst 2, 1) := by decide +kernel
theorem dX7_piece_103 : decode cX7_piece 103 = .ok (.if_icmp .ne 7, 3) := by decide +kernel
theorem dX7_piece_106 : decode cX7_piece 106 = .ok (.iconst 1, 1) := by decide +kernel
theorem dX7_piece_107 : decode cX7_piece 107 = .ok (.goto 5, 3) := by decide +kernel
theorem dX7_piece_110 : decode cX7_piece 110 = .ok (.bipush 60, 2) := by decide +kernel
theorem dX7_piece_112 : decode cX7_piece 112 = .ok (.invokestatic 100, 3) := by decide +kernel
theorem dX7_piece_115 : decode cX7_piece 115 = .ok (.ifCond .eq 34, 3) := by decide +kernel
theorem dX7_piece_118 : decode cX7_piece 118 = .ok (.iload_n 3, 1) := by decide +kernel
theorem dX7_piece_119 : decode cX7_piece 119 = .ok (.bipush 10, 2) := by decide +kernel
theorem dX7_piece_121 : decode cX7_piece 121 = .ok (.idiv, 1) := by decide +kernel
theorem dX7_piece_122 : decode cX7_piece 122 = .ok (.bipush 30, 2) := by decide +kernel
theorem dX7_piece_124 : decode cX7_piece 124 = .ok (.bipush 60, 2) := by decide +kernel
theorem dX7_piece_126 : decode cX7_piece 126 = .ok (.invokestatic 100, 3) := by decide +kernel
theorem dX7_piece_129 : decode cX7_piece 129 = .ok (.ifCond .eq 20, 3) := by decide +kernel
theorem dX7_piece_132 : decode cX7_piece 132 = .ok (.iload_n 3, 1) := by decide +kernel
theorem dX7_piece_133 : decode cX7_piece 133 = .ok (.bipush 10, 2) := by decide +kernel
theorem dX7_piece_135 : decode cX7_piece 135 = .ok (.irem, 1) := by decide +kernel
theorem dX7_piece_136 : decode cX7_piece 136 = .ok (.iconst 0, 1) := by decide +kernel
theorem dX7_piece_137 : decode cX7_piece 137 = .ok (.bipush 6, 2) := by decide +kernel
theorem dX7_piece_139 : decode cX7_piece 139 = .ok (.invokestatic 100, 3) := by decide +kernel
theorem dX7_piece_142 : decode cX7_piece 142 = .ok (.ifCond .eq 7, 3) := by decide +kernel
theorem dX7_piece_145 : decode cX7_piece 145 = .ok (.iconst 1, 1) := by decide +kernel
theorem dX7_piece_146 : decode cX7_piece 146 = .ok (.goto 4, 3) := by decide +kernel
theorem dX7_piece_149 : decode cX7_piece 149 = .ok (.iconst 0, 1) := by decide +kernel
theorem dX7_piece_150 : decode cX7_piece 150 = .ok (.istore 4, 2) := by decide +kernel
theorem dX7_piece_152 : decode cX7_piece 152 = .ok (.iload 4, 2) := by decide +kernel
theorem dX7_piece_154 : decode cX7_piece 154 = .ok (.ifCond .ne 9, 3) := by decide +kernel
theorem dX7_piece_157 : decode cX7_piece 157 = .ok (.aload_n 0, 1) := by decide +kernel
theorem dX7_piece_158 : decode cX7_piece 158 = .ok (.iconst 1, 1) := by decide +kernel
theorem dX7_piece_159 : decode cX7_piece 159 = .ok (.invokevirtual 104, 3) := by decide +kernel
theorem dX7_piece_162 : decode cX7_piece 162 = .ok (.ireturn, 1) := by decide +kernel
theorem dX7_piece_163 : decode cX7_piece 163 = .ok (.aload_n 0, 1) := by decide +kernel
theorem dX7_piece_164 : decode cX7_piece 164 = .ok (.getfield 97, 3) := by decide +kernel
theorem dX7_piece_167 : decode cX7_piece 167 = .ok (.bipush 32, 2) := by decide +kernel
theorem dX7_piece_169 : decode cX7_piece 169 = .ok (.if_icmp .ne 9, 3) := by decide +kernel
theorem dX7_piece_172 : decode cX7_piece 172 = .ok (.aload_n 0, 1) := by decide +kernel
theorem dX7_piece_173 : decode cX7_piece 173 = .ok (.iconst 4, 1) := by decide +kernel
theorem dX7_piece_174 : decode cX7_piece 174 = .ok (.invokevirtual 104, 3) := by decide +kernel
theorem dX7_piece_177 : decode cX7_piece 177 = .ok (.ireturn, 1) := by decide +kernel
theorem dX7_piece_178 : decode cX7_piece 178 = .ok (.aload_n 0, 1) := by decide +kernel
theorem dX7_piece_179 : decode cX7_piece 179 = .ok (.getfield 25, 3) := by decide +kernel
theorem dX7_piece_182 : decode cX7_piece 182 = .ok (.aload_n 0, 1) := by decide +kernel
theorem dX7_piece_183 : decode cX7_piece 183 = .ok (.getfield 97, 3) := by decide +kernel
theorem dX7_piece_186 : decode cX7_piece 186 = .ok (.iload_n 1, 1) := by decide +kernel
theorem dX7_piece_187 : decode cX7_piece 187 = .ok (.sipush 1000, 3) := by decide +kernel
theorem dX7_piece_190 : decode cX7_piece 190 = .ok (.idiv, 1) := by decide +kernel
theorem dX7_piece_191 : decode cX7_piece 191 = .ok (.iastore, 1) := by decide +kernel
theorem dX7_piece_192 : decode cX7_piece 192 = .ok (.aload_n 0, 1) := by decide +kernel
theorem dX7_piece_193 : decode cX7_piece 193 = .ok (.getfield 13, 3) := by decide +kernel
theorem dX7_piece_196 : decode cX7_piece 196 = .ok (.aload_n 0, 1) := by decide +kernel
theorem dX7_piece_197 : decode cX7_piece 197 = .ok (.getfield 97, 3) := by decide +kernel
theorem dX7_piece_200 : decode cX7_piece 200 = .ok (.iload_n 1, 1) := by decide +kernel
theorem dX7_piece_201 : decode cX7_piece 201 = .ok (.bipush 100, 2) := by decide +kernel
theorem dX7_piece_203 : decode cX7_piece 203 = .ok (.idiv, 1) := by decide +kernel
theorem dX7_piece_204 : decode cX7_piece 204 = .ok (.bipush 10, 2) := by decide +kernel
theorem dX7_piece_206 : decode cX7_piece 206 = .ok (.irem, 1) := by decide +kernel
theorem dX7_piece_207 : decode cX7_piece 207 = .ok (.iastore, 1) := by decide +kernel
theorem dX7_piece_208 : decode cX7_piece 208 = .ok (.aload_n 0, 1) := by decide +kernel
theorem dX7_piece_209 : decode cX7_piece 209 = .ok (.getfield 16, 3) := by decide +kernel
theorem dX7_piece_212 : decode cX7_piece 212 = .ok (.aload_n 0, 1) := by decide +kernel
theorem dX7_piece_213 : decode cX7_piece 213 = .ok (.getfield 97, 3) := by decide +kernel
theorem dX7_piece_216 : decode cX7_piece 216 = .ok (.iload_n 1, 1) := by decide +kernel
theorem dX7_piece_217 : decode cX7_piece 217 = .ok (.bipush 10, 2) := by decide +kernel
theorem dX7_piece_219 : decode cX7_piece 219 = .ok (.idiv, 1) := by decide +kernel
theorem dX7_piece_220 : decode cX7_piece 220 = .ok (.bipush 10, 2) := by decide +kernel
theorem dX7_piece_222 : decode cX7_piece 222 = .ok (.irem, 1) := by decide +kernel
theorem dX7_piece_223 : decode cX7_piece 223 = .ok (.iastore, 1) := by decide +kernel
theorem dX7_piece_224 : decode cX7_piece 224 = .ok (.aload_n 0, 1) := by decide +kernel
theorem dX7_piece_225 : decode cX7_piece 225 = .ok (.getfield 7, 3) := by decide +kernel
theorem dX7_piece_228 : decode cX7_piece 228 = .ok (.aload_n 0, 1) := by decide +kernel
theorem dX7_piece_229 : decode cX7_piece 229 = .ok (.getfield 97, 3) := by decide +kernel
theorem dX7_piece_232 : decode cX7_piece 232 = .ok (.iload_n 1, 1) := by decide +kernel
theorem dX7_piece_233 : decode cX7_piece 233 = .ok (.bipush 10, 2) := by decide +kernel
theorem dX7_piece_235 : decode cX7_piece 235 = .ok (.irem, 1) := by decide +kernel
theorem dX7_piece_236 : decode cX7_piece 236 = .ok (.iastore, 1) := by decide +kernel
theorem dX7_piece_237 : decode cX7_piece 237 = .ok (.aload_n 0, 1) := by decide +kernel
theorem dX7_piece_238 : decode cX7_piece 238 = .ok (.getfield 19, 3) := by decide +kernel
theorem dX7_piece_241 : decode cX7_piece 241 = .ok (.aload_n 0, 1) := by decide +kernel
theorem dX7_piece_242 : decode cX7_piece 242 = .ok (.getfield 97, 3) := by decide +kernel
theorem dX7_piece_245 : decode cX7_piece 245 = .ok (.iload_n 2, 1) := by decide +kernel
theorem dX7_piece_246 : decode cX7_piece 246 = .ok (.bipush 100, 2) := by decide +kernel
theorem dX7_piece_248 : decode cX7_piece 248 = .ok (.idiv, 1) := by decide +kernel
theorem dX7_piece_249 : decode cX7_piece 249 = .ok (.iastore, 1) := by decide +kernel
theorem dX7_piece_250 : decode cX7_piece 250 = .ok (.aload_n 0, 1) := by decide +kernel
theorem dX7_piece_251 : decode cX7_piece 251 = .ok (.getfield 22, 3) := by decide +kernel
theorem dX7_piece_254 : decode cX7_piece 254 = .ok (.aload_n 0, 1) := by decide +kernel
theorem dX7_piece_255 : decode cX7_piece 255 = .ok (.getfield 97, 3) := by decide +kernel
theorem dX7_piece_258 : decode cX7_piece 258 = .ok (.iload_n 2, 1) := by decide +kernel
theorem dX7_piece_259 : decode cX7_piece 259 = .ok (.bipush 100, 2) := by decide +kernel
theorem dX7_piece_261 : decode cX7_piece 261 = .ok (.irem, 1) := by decide +kernel
theorem dX7_piece_262 : decode cX7_piece 262 = .ok (.iastore, 1) := by decide +kernel
theorem dX7_piece_263 : decode cX7_piece 263 = .ok (.aload_n 0, 1) := by decide +kernel
theorem dX7_piece_264 : decode cX7_piece 264 = .ok (.getfield 28, 3) := by decide +kernel
theorem dX7_piece_267 : decode cX7_piece 267 = .ok (.aload_n 0, 1) := by decide +kernel
theorem dX7_piece_268 : decode cX7_piece 268 = .ok (.getfield 97, 3) := by decide +kernel
theorem dX7_piece_271 : decode cX7_piece 271 = .ok (.iload_n 3, 1) := by decide +kernel
theorem dX7_piece_272 : decode cX7_piece 272 = .ok (.bipush 10, 2) := by decide +kernel
theorem dX7_piece_274 : decode cX7_piece 274 = .ok (.idiv, 1) := by decide +kernel
theorem dX7_piece_275 : decode cX7_piece 275 = .ok (.iastore, 1) := by decide +kernel
theorem dX7_piece_276 : decode cX7_piece 276 = .ok (.aload_n 0, 1) := by decide +kernel
theorem dX7_piece_277 : decode cX7_piece 277 = .ok (.getfield 31, 3) := by decide +kernel
theorem dX7_piece_280 : decode cX7_piece 280 = .ok (.aload_n 0, 1) := by decide +kernel
theorem dX7_piece_281 : decode cX7_piece 281 = .ok (.getfield 97, 3) := by decide +kernel
theorem dX7_piece_284 : decode cX7_piece 284 = .ok (.iload_n 3, 1) := by decide +kernel
theorem dX7_piece_285 : decode cX7_piece 285 = .ok (.bipush 10, 2) := by decide +kernel
theorem dX7_piece_287 : decode cX7_piece 287 = .ok (.irem, 1) := by decide +kernel
theorem dX7_piece_288 : decode cX7_piece 288 = .ok (.iastore, 1) := by decide +kernel
theorem dX7_piece_289 : decode cX7_piece 289 = .ok (.aload_n 0, 1) := by decide +kernel
theorem dX7_piece_290 : decode cX7_piece 290 = .ok (.dup, 1) := by decide +kernel
theorem dX7_piece_291 : decode cX7_piece 291 = .ok (.getfield 97, 3) := by decide +kernel
theorem dX7_piece_294 : decode cX7_piece 294 = .ok (.iconst 1, 1) := by decide +kernel
theorem dX7_piece_295 : decode cX7_piece 295 = .ok (.iadd, 1) := by decide +kernel
theorem dX7_piece_296 : decode cX7_piece 296 = .ok (.putfield 97, 3) := by decide +kernel
theorem dX7_piece_299 : decode cX7_piece 299 = .ok (.aload_n 0, 1) := by decide +kernel
theorem dX7_piece_300 : decode cX7_piece 300 = .ok (.getfield 97, 3) := by decide +kernel
theorem dX7_piece_303 : decode cX7_piece 303 = .ok (.iconst 1, 1) := by decide +kernel
theorem dX7_piece_304 : decode cX7_piece 304 = .ok (.isub, 1) := by decide +kernel
theorem dX7_piece_305 : decode cX7_piece 305 = .ok (.ireturn, 1) := by decide +kernel
theorem dX5_fact_0 : decode cX5_fact 0 = .ok (.aload_n 0, 1) := by decide +kernel
theorem dX5_fact_1 : decode cX5_fact 1 = .ok (.iload_n 1, 1) := by decide +kernel
theorem dX5_fact_2 : decode cX5_fact 2 = .ok (.invokevirtual 19, 3) := by decide +kernel
theorem dX5_fact_5 : decode cX5_fact 5 = .ok (.ifCond .eq 27, 3) := by decide +kernel
theorem dX5_fact_8 : decode cX5_fact 8 = .ok (.iload_n 2, 1) := by decide +kernel
theorem dX5_fact_9 : decode cX5_fact 9 = .ok (.ifCond .lt 23, 3) := by decide +kernel
theorem dX5_fact_12 : decode cX5_fact 12 = .ok (.iload_n 2, 1) := by decide +kernel
theorem dX5_fact_13 : decode cX5_fact 13 = .ok (.bipush 10, 2) := by decide +kernel
theorem dX5_fact_15 : decode cX5_fact 15 = .ok (.if_icmp .ge 17, 3) := by decide +kernel
theorem dX5_fact_18 : decode cX5_fact 18 = .ok (.aload_n 0, 1) := by decide +kernel
theorem dX5_fact_19 : decode cX5_fact 19 = .ok (.getfield 9, 3) := by decide +kernel
theorem dX5_fact_22 : decode cX5_fact 22 = .ok (.iload_n 1, 1) := by decide +kernel
theorem dX5_fact_23 : decode cX5_fact 23 = .ok (.bipush 10, 2) := by decide +kernel
theorem dX5_fact_25 : decode cX5_fact 25 = .ok (.imul, 1) := by decide +kernel
theorem dX5_fact_26 : decode cX5_fact 26 = .ok (.iload_n 2, 1) := by decide +kernel
theorem dX5_fact_27 : decode cX5_fact 27 = .ok (.iadd, 1) := by decide +kernel
theorem dX5_fact_28 : decode cX5_fact 28 = .ok (.iaload, 1) := by decide +kernel
theorem dX5_fact_29 : decode cX5_fact 29 = .ok (.goto 4, 3) := by decide +kernel
theorem dX5_fact_32 : decode cX5_fact 32 = .ok (.iconst (-1), 1) := by decide +kernel
theorem dX5_fact_33 : decode cX5_fact 33 = .ok (.ireturn, 1) := by decide +kernel
theorem dX6_as_0 : decode cX6_as 0 = .ok (.aload_n 0, 1) := by decide +kernel
theorem dX6_as_1 : decode cX6_as 1 = .ok (.getfield 10, 3) := by decide +kernel
theorem dX6_as_4 : decode cX6_as 4 = .ok (.iload_n 1, 1) := by decide +kernel
theorem dX6_as_5 : decode cX6_as 5 = .ok (.invokevirtual 84, 3) := by decide +kernel
theorem dX6_as_8 : decode cX6_as 8 = .ok (.ifCond .eq 12, 3) := by decide +kernel
theorem dX6_as_11 : decode cX6_as 11 = .ok (.iload_n 2, 1) := by decide +kernel
theorem dX6_as_12 : decode cX6_as 12 = .ok (.iconst 0, 1) := by decide +kernel
theorem dX6_as_13 : decode cX6_as 13 = .ok (.iconst 2, 1) := by decide +kernel
theorem dX6_as_14 : decode cX6_as 14 = .ok (.invokestatic 88, 3) := by decide +kernel
theorem dX6_as_17 : decode cX6_as 17 = .ok (.ifCond .ne 9, 3) := by decide +kernel
theorem dX6_as_20 : decode cX6_as 20 = .ok (.aload_n 0, 1) := by decide +kernel
theorem dX6_as_21 : decode cX6_as 21 = .ok (.iconst 1, 1) := by decide +kernel
theorem dX6_as_22 : decode cX6_as 22 = .ok (.invokevirtual 72, 3) := by decide +kernel
theorem dX6_as_25 : decode cX6_as 25 = .ok (.ireturn, 1) := by decide +kernel
theorem dX6_as_26 : decode cX6_as 26 = .ok (.iload_n 2, 1) := by decide +kernel
theorem dX6_as_27 : decode cX6_as 27 = .ok (.ifCond .eq 22, 3) := by decide +kernel
theorem dX6_as_30 : decode cX6_as 30 = .ok (.aload_n 0, 1) := by decide +kernel
theorem dX6_as_31 : decode cX6_as 31 = .ok (.getfield 10, 3) := by decide +kernel
theorem dX6_as_34 : decode cX6_as 34 = .ok (.iload_n 1, 1) := by decide +kernel
theorem dX6_as_35 : decode cX6_as 35 = .ok (.iconst 0, 1) := by decide +kernel
theorem dX6_as_36 : decode cX6_as 36 = .ok (.invokevirtual 91, 3) := by decide +kernel
theorem dX6_as_39 : decode cX6_as 39 = .ok (.iload_n 2, 1) := by decide +kernel
theorem dX6_as_40 : decode cX6_as 40 = .ok (.if_icmp .eq 9, 3) := by decide +kernel
theorem dX6_as_43 : decode cX6_as 43 = .ok (.aload_n 0, 1) := by decide +kernel
theorem dX6_as_44 : decode cX6_as 44 = .ok (.iconst 5, 1) := by decide +kernel
theorem dX6_as_45 : decode cX6_as 45 = .ok (.invokevirtual 72, 3) := by decide +kernel
theorem dX6_as_48 : decode cX6_as 48 = .ok (.ireturn, 1) := by decide +kernel
theorem dX6_as_49 : decode cX6_as 49 = .ok (.aload_n 0, 1) := by decide +kernel
theorem dX6_as_50 : decode cX6_as 50 = .ok (.getfield 10, 3) := by decide +kernel
theorem dX6_as_53 : decode cX6_as 53 = .ok (.iload_n 1, 1) := by decide +kernel
theorem dX6_as_54 : decode cX6_as 54 = .ok (.iconst 1, 1) := by decide +kernel
theorem dX6_as_55 : decode cX6_as 55 = .ok (.invokevirtual 91, 3) := by decide +kernel
theorem dX6_as_58 : decode cX6_as 58 = .ok (.ireturn, 1) := by decide +kernel
theorem dX7_isPiece_0 : decode cX7_isPiece 0 = .ok (.iload_n 1, 1) := by decide +kernel
theorem dX7_isPiece_1 : decode cX7_isPiece 1 = .ok (.ifCond .lt 15, 3) := by decide +kernel
theorem dX7_isPiece_4 : decode cX7_isPiece 4 = .ok (.iload_n 1, 1) := by decide +kernel
theorem dX7_isPiece_5 : decode cX7_isPiece 5 = .ok (.aload_n 0, 1) := by decide +kernel
theorem dX7_isPiece_6 : decode cX7_isPiece 6 = .ok (.getfield 97, 3) := by decide +kernel
theorem dX7_isPiece_9 : decode cX7_isPiece 9 = .ok (.if_icmp .ge 7, 3) := by decide +kernel
theorem dX7_isPiece_12 : decode cX7_isPiece 12 = .ok (.iconst 1, 1) := by decide +kernel
theorem dX7_isPiece_13 : decode cX7_isPiece 13 = .ok (.goto 4, 3) := by decide +kernel
theorem dX7_isPiece_16 : decode cX7_isPiece 16 = .ok (.iconst 0, 1) := by decide +kernel
theorem dX7_isPiece_17 : decode cX7_isPiece 17 = .ok (.ireturn, 1) := by decide +kernel
theorem dX7_as_0 : decode cX7_as 0 = .ok (.aload_n 0, 1) := by decide +kernel
theorem dX7_as_1 : decode cX7_as 1 = .ok (.iload_n 1, 1) := by decide +kernel
theorem dX7_as_2 : decode cX7_as 2 = .ok (.invokevirtual 108, 3) := by decide +kernel
theorem dX7_as_5 : decode cX7_as 5 = .ok (.ifCond .eq 12, 3) := by decide +kernel
theorem dX7_as_8 : decode cX7_as 8 = .ok (.iload_n 2, 1) := by decide +kernel
theorem dX7_as_9 : decode cX7_as 9 = .ok (.iconst 0, 1) := by decide +kernel
theorem dX7_as_10 : decode cX7_as 10 = .ok (.iconst 2, 1) := by decide +kernel
theorem dX7_as_11 : decode cX7_as 11 = .ok (.invokestatic 100, 3) := by decide +kernel
theorem dX7_as_14 : decode cX7_as 14 = .ok (.ifCond .ne 9, 3) := by decide +kernel
theorem dX7_as_17 : decode cX7_as 17 = .ok (.aload_n 0, 1) := by decide +kernel
theorem dX7_as_18 : decode cX7_as 18 = .ok (.iconst 1, 1) := by decide +kernel
theorem dX7_as_19 : decode cX7_as 19 = .ok (.invokevirtual 104, 3) := by decide +kernel
theorem dX7_as_22 : decode cX7_as 22 = .ok (.ireturn, 1) := by decide +kernel
theorem dX7_as_23 : decode cX7_as 23 = .ok (.iload_n 2, 1) := by decide +kernel
theorem dX7_as_24 : decode cX7_as 24 = .ok (.ifCond .eq 13, 3) := by decide +kernel
theorem dX7_as_27 : decode cX7_as 27 = .ok (.aload_n 0, 1) := by decide +kernel
theorem dX7_as_28 : decode cX7_as 28 = .ok (.getfield 7, 3) := by decide +kernel
theorem dX7_as_31 : decode cX7_as 31 = .ok (.iload_n 1, 1) := by decide +kernel
theorem dX7_as_32 : decode cX7_as 32 = .ok (.iaload, 1) := by decide +kernel
theorem dX7_as_33 : decode cX7_as 33 = .ok (.iload_n 2, 1) := by decide +kernel
theorem dX7_as_34 : decode cX7_as 34 = .ok (.if_icmp .ne 12, 3) := by decide +kernel
theorem dX7_as_37 : decode cX7_as 37 = .ok (.aload_n 0, 1) := by decide +kernel
theorem dX7_as_38 : decode cX7_as 38 = .ok (.getfield 13, 3) := by decide +kernel
theorem dX7_as_41 : decode cX7_as 41 = .ok (.iload_n 1, 1) := by decide +kernel
theorem dX7_as_42 : decode cX7_as 42 = .ok (.iaload, 1) := by decide +kernel
theorem dX7_as_43 : decode cX7_as 43 = .ok (.goto 8, 3) := by decide +kernel
theorem dX7_as_46 : decode cX7_as 46 = .ok (.aload_n 0, 1) := by decide +kernel
theorem dX7_as_47 : decode cX7_as 47 = .ok (.iconst 5, 1) := by decide +kernel
theorem dX7_as_48 : decode cX7_as 48 = .ok (.invokevirtual 104, 3) := by decide +kernel
theorem dX7_as_51 : decode cX7_as 51 = .ok (.ireturn, 1) := by decide +kernel
theorem dX6_about_0 : decode cX6_about 0 = .ok (.aload_n 0, 1) := by decide +kernel
theorem dX6_about_1 : decode cX6_about 1 = .ok (.getfield 10, 3) := by decide +kernel
theorem dX6_about_4 : decode cX6_about 4 = .ok (.iload_n 1, 1) := by decide +kernel
theorem dX6_about_5 : decode cX6_about 5 = .ok (.invokevirtual 84, 3) := by decide +kernel
theorem dX6_about_8 : decode cX6_about 8 = .ok (.ifCond .eq 13, 3) := by decide +kernel
theorem dX6_about_11 : decode cX6_about 11 = .ok (.iload_n 2, 1) := by decide +kernel
theorem dX6_about_12 : decode cX6_about 12 = .ok (.iconst 0, 1) := by decide +kernel
theorem dX6_about_13 : decode cX6_about 13 = .ok (.bipush 9, 2) := by decide +kernel
theorem dX6_about_15 : decode cX6_about 15 = .ok (.invokestatic 88, 3) := by decide +kernel
theorem dX6_about_18 : decode cX6_about 18 = .ok (.ifCond .ne 9, 3) := by decide +kernel
theorem dX6_about_21 : decode cX6_about 21 = .ok (.aload_n 0, 1) := by decide +kernel
theorem dX6_about_22 : decode cX6_about 22 = .ok (.iconst 1, 1) := by decide +kernel
theorem dX6_about_23 : decode cX6_about 23 = .ok (.invokevirtual 72, 3) := by decide +kernel
theorem dX6_about_26 : decode cX6_about 26 = .ok (.ireturn, 1) := by decide +kernel
theorem dX6_about_27 : decode cX6_about 27 = .ok (.aload_n 0, 1) := by decide +kernel
theorem dX6_about_28 : decode cX6_about 28 = .ok (.getfield 10, 3) := by decide +kernel
theorem dX6_about_31 : decode cX6_about 31 = .ok (.iload_n 1, 1) := by decide +kernel
theorem dX6_about_32 : decode cX6_about 32 = .ok (.iload_n 2, 1) := by decide +kernel
theorem dX6_about_33 : decode cX6_about 33 = .ok (.invokevirtual 91, 3) := by decide +kernel
theorem dX6_about_36 : decode cX6_about 36 = .ok (.ireturn, 1) := by decide +kernel
theorem dX7_about_0 : decode cX7_about 0 = .ok (.aload_n 0, 1) := by decide +kernel
theorem dX7_about_1 : decode cX7_about 1 = .ok (.iload_n 1, 1) := by decide +kernel
theorem dX7_about_2 : decode cX7_about 2 = .ok (.invokevirtual 108, 3) := by decide +kernel
theorem dX7_about_5 : decode cX7_about 5 = .ok (.ifCond .eq 13, 3) := by decide +kernel
theorem dX7_about_8 : decode cX7_about 8 = .ok (.iload_n 2, 1) := by decide +kernel
theorem dX7_about_9 : decode cX7_about 9 = .ok (.iconst 0, 1) := by decide +kernel
theorem dX7_about_10 : decode cX7_about 10 = .ok (.bipush 9, 2) := by decide +kernel
theorem dX7_about_12 : decode cX7_about 12 = .ok (.invokestatic 100, 3) := by decide +kernel
theorem dX7_about_15 : decode cX7_about 15 = .ok (.ifCond .ne 9, 3) := by decide +kernel
theorem dX7_about_18 : decode cX7_about 18 = .ok (.aload_n 0, 1) := by decide +kernel
theorem dX7_about_19 : decode cX7_about 19 = .ok (.iconst 1, 1) := by decide +kernel
theorem dX7_about_20 : decode cX7_about 20 = .ok (.invokevirtual 104, 3) := by decide +kernel
theorem dX7_about_23 : decode cX7_about 23 = .ok (.ireturn, 1) := by decide +kernel
theorem dX7_about_24 : decode cX7_about 24 = .ok (.iload_n 2, 1) := by decide +kernel
theorem dX7_about_25 : decode cX7_about 25 = .ok (.tableswitch 114 0 8 #[51, 58, 65, 72, 79, 86, 93, 100, 107], 51) := by decide +kernel
theorem dX7_about_76 : decode cX7_about 76 = .ok (.aload_n 0, 1) := by decide +kernel
theorem dX7_about_77 : decode cX7_about 77 = .ok (.getfield 7, 3) := by decide +kernel
theorem dX7_about_80 : decode cX7_about 80 = .ok (.iload_n 1, 1) := by decide +kernel
theorem dX7_about_81 : decode cX7_about 81 = .ok (.iaload, 1) := by decide +kernel
theorem dX7_about_82 : decode cX7_about 82 = .ok (.ireturn, 1) := by decide +kernel
theorem dX7_about_83 : decode cX7_about 83 = .ok (.aload_n 0, 1) := by decide +kernel
theorem dX7_about_84 : decode cX7_about 84 = .ok (.getfield 13, 3) := by decide +kernel
theorem dX7_about_87 : decode cX7_about 87 = .ok (.iload_n 1, 1) := by decide +kernel
theorem dX7_about_88 : decode cX7_about 88 = .ok (.iaload, 1) := by decide +kernel
theorem dX7_about_89 : decode cX7_about 89 = .ok (.ireturn, 1) := by decide +kernel
theorem dX7_about_90 : decode cX7_about 90 = .ok (.aload_n 0, 1) := by decide +kernel
theorem dX7_about_91 : decode cX7_about 91 = .ok (.getfield 16, 3) := by decide +kernel
theorem dX7_about_94 : decode cX7_about 94 = .ok (.iload_n 1, 1) := by decide +kernel
theorem dX7_about_95 : decode cX7_about 95 = .ok (.iaload, 1) := by decide +kernel
theorem dX7_about_96 : decode cX7_about 96 = .ok (.ireturn, 1) := by decide +kernel
theorem dX7_about_97 : decode cX7_about 97 = .ok (.aload_n 0, 1) := by decide +kernel
theorem dX7_about_98 : decode cX7_about 98 = .ok (.getfield 19, 3) := by decide +kernel
theorem dX7_about_101 : decode cX7_about 101 = .ok (.iload_n 1, 1) := by decide +kernel
theorem dX7_about_102 : decode cX7_about 102 = .ok (.iaload, 1) := by decide +kernel
theorem dX7_about_103 : decode cX7_about 103 = .ok (.ireturn, 1) := by decide +kernel
theorem dX7_about_104 : decode cX7_about 104 = .ok (.aload_n 0, 1) := by decide +kernel
theorem dX7_about_105 : decode cX7_about 105 = .ok (.getfield 22, 3) := by decide +kernel
theorem dX7_about_108 : decode cX7_about 108 = .ok (.iload_n 1, 1) := by decide +kernel
theorem dX7_about_109 : decode cX7_about 109 = .ok (.iaload, 1) := by decide +kernel
theorem dX7_about_110 : decode cX7_about 110 = .ok (.ireturn, 1) := by decide +kernel
theorem dX7_about_111 : decode cX7_about 111 = .ok (.aload_n 0, 1) := by decide +kernel
theorem dX7_about_112 : decode cX7_about 112 = .ok (.getfield 25, 3) := by decide +kernel
theorem dX7_about_115 : decode cX7_about 115 = .ok (.iload_n 1, 1) := by decide +kernel
theorem dX7_about_116 : decode cX7_about 116 = .ok (.iaload, 1) := by decide +kernel
theorem dX7_about_117 : decode cX7_about 117 = .ok (.ireturn, 1) := by decide +kernel
theorem dX7_about_118 : decode cX7_about 118 = .ok (.aload_n 0, 1) := by decide +kernel
theorem dX7_about_119 : decode cX7_about 119 = .ok (.getfield 28, 3) := by decide +kernel
theorem dX7_about_122 : decode cX7_about 122 = .ok (.iload_n 1, 1) := by decide +kernel
theorem dX7_about_123 : decode cX7_about 123 = .ok (.iaload, 1) := by decide +kernel
theorem dX7_about_124 : decode cX7_about 124 = .ok (.ireturn, 1) := by decide +kernel
theorem dX7_about_125 : decode cX7_about 125 = .ok (.aload_n 0, 1) := by decide +kernel
theorem dX7_about_126 : decode cX7_about 126 = .ok (.getfield 31, 3) := by decide +kernel
theorem dX7_about_129 : decode cX7_about 129 = .ok (.iload_n 1, 1) := by decide +kernel
theorem dX7_about_130 : decode cX7_about 130 = .ok (.iaload, 1) := by decide +kernel
theorem dX7_about_131 : decode cX7_about 131 = .ok (.ireturn, 1) := by decide +kernel
theorem dX7_about_132 : decode cX7_about 132 = .ok (.aload_n 0, 1) := by decide +kernel
theorem dX7_about_133 : decode cX7_about 133 = .ok (.getfield 34, 3) := by decide +kernel
theorem dX7_about_136 : decode cX7_about 136 = .ok (.iload_n 1, 1) := by decide +kernel
theorem dX7_about_137 : decode cX7_about 137 = .ok (.iaload, 1) := by decide +kernel
theorem dX7_about_138 : decode cX7_about 138 = .ok (.ireturn, 1) := by decide +kernel
theorem dX7_about_139 : decode cX7_about 139 = .ok (.aload_n 0, 1) := by decide +kernel
theorem dX7_about_140 : decode cX7_about 140 = .ok (.getfield 34, 3) := by decide +kernel
theorem dX7_about_143 : decode cX7_about 143 = .ok (.iload_n 1, 1) := by decide +kernel
theorem dX7_about_144 : decode cX7_about 144 = .ok (.iaload, 1) := by decide +kernel
theorem dX7_about_145 : decode cX7_about 145 = .ok (.iconst 2, 1) := by decide +kernel
theorem dX7_about_146 : decode cX7_about 146 = .ok (.if_icmp .eq 13, 3) := by decide +kernel
theorem dX7_about_149 : decode cX7_about 149 = .ok (.aload_n 0, 1) := by decide +kernel
theorem dX7_about_150 : decode cX7_about 150 = .ok (.getfield 34, 3) := by decide +kernel
theorem dX7_about_153 : decode cX7_about 153 = .ok (.iload_n 1, 1) := by decide +kernel
theorem dX7_about_154 : decode cX7_about 154 = .ok (.iaload, 1) := by decide +kernel
theorem dX7_about_155 : decode cX7_about 155 = .ok (.iconst 3, 1) := by decide +kernel
theorem dX7_about_156 : decode cX7_about 156 = .ok (.if_icmp .ne 12, 3) := by decide +kernel
theorem dX7_about_159 : decode cX7_about 159 = .ok (.aload_n 0, 1) := by decide +kernel
theorem dX7_about_160 : decode cX7_about 160 = .ok (.getfield 37, 3) := by decide +kernel
theorem dX7_about_163 : decode cX7_about 163 = .ok (.iload_n 1, 1) := by decide +kernel
theorem dX7_about_164 : decode cX7_about 164 = .ok (.iaload, 1) := by decide +kernel
theorem dX7_about_165 : decode cX7_about 165 = .ok (.goto 4, 3) := by decide +kernel
theorem dX7_about_168 : decode cX7_about 168 = .ok (.iconst 0, 1) := by decide +kernel
theorem dX7_about_169 : decode cX7_about 169 = .ok (.ireturn, 1) := by decide +kernel
theorem dX2_has_0 : decode cX2_has 0 = .ok (.iload_n 1, 1) := by decide +kernel
theorem dX2_has_1 : decode cX2_has 1 = .ok (.ifCond .lt 13, 3) := by decide +kernel
theorem dX2_has_4 : decode cX2_has 4 = .ok (.iload_n 1, 1) := by decide +kernel
theorem dX2_has_5 : decode cX2_has 5 = .ok (.bipush 12, 2) := by decide +kernel
theorem dX2_has_7 : decode cX2_has 7 = .ok (.if_icmp .ge 7, 3) := by decide +kernel
theorem dX2_has_10 : decode cX2_has 10 = .ok (.iconst 1, 1) := by decide +kernel
theorem dX2_has_11 : decode cX2_has 11 = .ok (.goto 4, 3) := by decide +kernel
theorem dX2_has_14 : decode cX2_has 14 = .ok (.iconst 0, 1) := by decide +kernel
theorem dX2_has_15 : decode cX2_has 15 = .ok (.ireturn, 1) := by decide +kernel
theorem dX2_sizeOf_0 : decode cX2_sizeOf 0 = .ok (.aload_n 0, 1) := by decide +kernel
theorem dX2_sizeOf_1 : decode cX2_sizeOf 1 = .ok (.iload_n 1, 1) := by decide +kernel
theorem dX2_sizeOf_2 : decode cX2_sizeOf 2 = .ok (.invokevirtual 21, 3) := by decide +kernel
theorem dX2_sizeOf_5 : decode cX2_sizeOf 5 = .ok (.ifCond .eq 12, 3) := by decide +kernel
theorem dX2_sizeOf_8 : decode cX2_sizeOf 8 = .ok (.aload_n 0, 1) := by decide +kernel
theorem dX2_sizeOf_9 : decode cX2_sizeOf 9 = .ok (.getfield 15, 3) := by decide +kernel
theorem dX2_sizeOf_12 : decode cX2_sizeOf 12 = .ok (.iload_n 1, 1) := by decide +kernel
theorem dX2_sizeOf_13 : decode cX2_sizeOf 13 = .ok (.iaload, 1) := by decide +kernel
theorem dX2_sizeOf_14 : decode cX2_sizeOf 14 = .ok (.goto 4, 3) := by decide +kernel
theorem dX2_sizeOf_17 : decode cX2_sizeOf 17 = .ok (.iconst 0, 1) := by decide +kernel
theorem dX2_sizeOf_18 : decode cX2_sizeOf 18 = .ok (.ireturn, 1) := by decide +kernel
theorem dX2_at_0 : decode cX2_at 0 = .ok (.aload_n 0, 1) := by decide +kernel
theorem dX2_at_1 : decode cX2_at 1 = .ok (.iload_n 1, 1) := by decide +kernel
theorem dX2_at_2 : decode cX2_at 2 = .ok (.invokevirtual 21, 3) := by decide +kernel
theorem dX2_at_5 : decode cX2_at 5 = .ok (.ifCond .eq 37, 3) := by decide +kernel
theorem dX2_at_8 : decode cX2_at 8 = .ok (.iload_n 2, 1) := by decide +kernel
theorem dX2_at_9 : decode cX2_at 9 = .ok (.ifCond .lt 33, 3) := by decide +kernel
theorem dX2_at_12 : decode cX2_at 12 = .ok (.iload_n 2, 1) := by decide +kernel
theorem dX2_at_13 : decode cX2_at 13 = .ok (.bipush 8, 2) := by decide +kernel
theorem dX2_at_15 : decode cX2_at 15 = .ok (.if_icmp .ge 27, 3) := by decide +kernel
theorem dX2_at_18 : decode cX2_at 18 = .ok (.iload_n 2, 1) := by decide +kernel
theorem dX2_at_19 : decode cX2_at 19 = .ok (.aload_n 0, 1) := by decide +kernel
theorem dX2_at_20 : decode cX2_at 20 = .ok (.getfield 15, 3) := by decide +kernel
theorem dX2_at_23 : decode cX2_at 23 = .ok (.iload_n 1, 1) := by decide +kernel
theorem dX2_at_24 : decode cX2_at 24 = .ok (.iaload, 1) := by decide +kernel
theorem dX2_at_25 : decode cX2_at 25 = .ok (.if_icmp .ge 17, 3) := by decide +kernel
theorem dX2_at_28 : decode cX2_at 28 = .ok (.aload_n 0, 1) := by decide +kernel
theorem dX2_at_29 : decode cX2_at 29 = .ok (.getfield 9, 3) := by decide +kernel
theorem dX2_at_32 : decode cX2_at 32 = .ok (.iload_n 1, 1) := by decide +kernel
theorem dX2_at_33 : decode cX2_at 33 = .ok (.bipush 8, 2) := by decide +kernel
theorem dX2_at_35 : decode cX2_at 35 = .ok (.imul, 1) := by decide +kernel
theorem dX2_at_36 : decode cX2_at 36 = .ok (.iload_n 2, 1) := by decide +kernel
theorem dX2_at_37 : decode cX2_at 37 = .ok (.iadd, 1) := by decide +kernel
theorem dX2_at_38 : decode cX2_at 38 = .ok (.iaload, 1) := by decide +kernel
theorem dX2_at_39 : decode cX2_at 39 = .ok (.goto 4, 3) := by decide +kernel
theorem dX2_at_42 : decode cX2_at 42 = .ok (.iconst (-1), 1) := by decide +kernel
theorem dX2_at_43 : decode cX2_at 43 = .ok (.ireturn, 1) := by decide +kernel
theorem dX2_indexOf_0 : decode cX2_indexOf 0 = .ok (.aload_n 0, 1) := by decide +kernel
theorem dX2_indexOf_1 : decode cX2_indexOf 1 = .ok (.iload_n 1, 1) := by decide +kernel
theorem dX2_indexOf_2 : decode cX2_indexOf 2 = .ok (.invokevirtual 25, 3) := by decide +kernel
theorem dX2_indexOf_5 : decode cX2_indexOf 5 = .ok (.istore_n 3, 1) := by decide +kernel
theorem dX2_indexOf_6 : decode cX2_indexOf 6 = .ok (.iconst 0, 1) := by decide +kernel
theorem dX2_indexOf_7 : decode cX2_indexOf 7 = .ok (.istore 4, 2) := by decide +kernel
theorem dX2_indexOf_9 : decode cX2_indexOf 9 = .ok (.iload 4, 2) := by decide +kernel
theorem dX2_indexOf_11 : decode cX2_indexOf 11 = .ok (.iload_n 3, 1) := by decide +kernel
theorem dX2_indexOf_12 : decode cX2_indexOf 12 = .ok (.if_icmp .ge 23, 3) := by decide +kernel
theorem dX2_indexOf_15 : decode cX2_indexOf 15 = .ok (.aload_n 0, 1) := by decide +kernel
theorem dX2_indexOf_16 : decode cX2_indexOf 16 = .ok (.iload_n 1, 1) := by decide +kernel
theorem dX2_indexOf_17 : decode cX2_indexOf 17 = .ok (.iload 4, 2) := by decide +kernel
theorem dX2_indexOf_19 : decode cX2_indexOf 19 = .ok (.invokevirtual 29, 3) := by decide +kernel
theorem dX2_indexOf_22 : decode cX2_indexOf 22 = .ok (.iload_n 2, 1) := by decide +kernel
theorem dX2_indexOf_23 : decode cX2_indexOf 23 = .ok (.if_icmp .ne 6, 3) := by decide +kernel
theorem dX2_indexOf_26 : decode cX2_indexOf 26 = .ok (.iload 4, 2) := by decide +kernel
theorem dX2_indexOf_28 : decode cX2_indexOf 28 = .ok (.ireturn, 1) := by decide +kernel
theorem dX2_indexOf_29 : decode cX2_indexOf 29 = .ok (.iinc 4 1, 3) := by decide +kernel
theorem dX2_indexOf_32 : decode cX2_indexOf 32 = .ok (.goto (-23), 3) := by decide +kernel
theorem dX2_indexOf_35 : decode cX2_indexOf 35 = .ok (.iconst (-1), 1) := by decide +kernel
theorem dX2_indexOf_36 : decode cX2_indexOf 36 = .ok (.ireturn, 1) := by decide +kernel
theorem dX2_noteLooksWith_0 : decode cX2_noteLooksWith 0 = .ok (.iload_n 1, 1) := by decide +kernel
theorem dX2_noteLooksWith_1 : decode cX2_noteLooksWith 1 = .ok (.iconst 0, 1) := by decide +kernel
theorem dX2_noteLooksWith_2 : decode cX2_noteLooksWith 2 = .ok (.bipush 31, 2) := by decide +kernel
theorem dX2_noteLooksWith_4 : decode cX2_noteLooksWith 4 = .ok (.invokestatic 33, 3) := by decide +kernel
theorem dX2_noteLooksWith_7 : decode cX2_noteLooksWith 7 = .ok (.ifCond .eq 13, 3) := by decide +kernel
theorem dX2_noteLooksWith_10 : decode cX2_noteLooksWith 10 = .ok (.aload_n 0, 1) := by decide +kernel
theorem dX2_noteLooksWith_11 : decode cX2_noteLooksWith 11 = .ok (.getfield 18, 3) := by decide +kernel
theorem dX2_noteLooksWith_14 : decode cX2_noteLooksWith 14 = .ok (.iload_n 1, 1) := by decide +kernel
theorem dX2_noteLooksWith_15 : decode cX2_noteLooksWith 15 = .ok (.dup2, 1) := by decide +kernel
theorem dX2_noteLooksWith_16 : decode cX2_noteLooksWith 16 = .ok (.iaload, 1) := by decide +kernel
theorem dX2_noteLooksWith_17 : decode cX2_noteLooksWith 17 = .ok (.iload_n 2, 1) := by decide +kernel
theorem dX2_noteLooksWith_18 : decode cX2_noteLooksWith 18 = .ok (.iadd, 1) := by decide +kernel
theorem dX2_noteLooksWith_19 : decode cX2_noteLooksWith 19 = .ok (.iastore, 1) := by decide +kernel
theorem dX2_noteLooksWith_20 : decode cX2_noteLooksWith 20 = .ok (.return_, 1) := by decide +kernel
theorem dX2_append_0 : decode cX2_append 0 = .ok (.aload_n 0, 1) := by decide +kernel
theorem dX2_append_1 : decode cX2_append 1 = .ok (.iload_n 1, 1) := by decide +kernel
theorem dX2_append_2 : decode cX2_append 2 = .ok (.invokevirtual 21, 3) := by decide +kernel
theorem dX2_append_5 : decode cX2_append 5 = .ok (.ifCond .eq 47, 3) := by decide +kernel
theorem dX2_append_8 : decode cX2_append 8 = .ok (.aload_n 0, 1) := by decide +kernel
theorem dX2_append_9 : decode cX2_append 9 = .ok (.getfield 15, 3) := by decide +kernel
theorem dX2_append_12 : decode cX2_append 12 = .ok (.iload_n 1, 1) := by decide +kernel
theorem dX2_append_13 : decode cX2_append 13 = .ok (.iaload, 1) := by decide +kernel
theorem dX2_append_14 : decode cX2_append 14 = .ok (.bipush 8, 2) := by decide +kernel
theorem dX2_append_16 : decode cX2_append 16 = .ok (.if_icmp .ge 36, 3) := by decide +kernel
theorem dX2_append_19 : decode cX2_append 19 = .ok (.aload_n 0, 1) := by decide +kernel
theorem dX2_append_20 : decode cX2_append 20 = .ok (.getfield 9, 3) := by decide +kernel
theorem dX2_append_23 : decode cX2_append 23 = .ok (.iload_n 1, 1) := by decide +kernel
theorem dX2_append_24 : decode cX2_append 24 = .ok (.bipush 8, 2) := by decide +kernel
theorem dX2_append_26 : decode cX2_append 26 = .ok (.imul, 1) := by decide +kernel
theorem dX2_append_27 : decode cX2_append 27 = .ok (.aload_n 0, 1) := by decide +kernel
theorem dX2_append_28 : decode cX2_append 28 = .ok (.getfield 15, 3) := by decide +kernel
theorem dX2_append_31 : decode cX2_append 31 = .ok (.iload_n 1, 1) := by decide +kernel
theorem dX2_append_32 : decode cX2_append 32 = .ok (.iaload, 1) := by decide +kernel
theorem dX2_append_33 : decode cX2_append 33 = .ok (.iadd, 1) := by decide +kernel
theorem dX2_append_34 : decode cX2_append 34 = .ok (.iload_n 2, 1) := by decide +kernel
theorem dX2_append_35 : decode cX2_append 35 = .ok (.iastore, 1) := by decide +kernel
theorem dX2_append_36 : decode cX2_append 36 = .ok (.aload_n 0, 1) := by decide +kernel
theorem dX2_append_37 : decode cX2_append 37 = .ok (.getfield 15, 3) := by decide +kernel
theorem dX2_append_40 : decode cX2_append 40 = .ok (.iload_n 1, 1) := by decide +kernel
theorem dX2_append_41 : decode cX2_append 41 = .ok (.dup2, 1) := by decide +kernel
theorem dX2_append_42 : decode cX2_append 42 = .ok (.iaload, 1) := by decide +kernel
theorem dX2_append_43 : decode cX2_append 43 = .ok (.iconst 1, 1) := by decide +kernel
theorem dX2_append_44 : decode cX2_append 44 = .ok (.iadd, 1) := by decide +kernel
theorem dX2_append_45 : decode cX2_append 45 = .ok (.iastore, 1) := by decide +kernel
theorem dX2_append_46 : decode cX2_append 46 = .ok (.aload_n 0, 1) := by decide +kernel
theorem dX2_append_47 : decode cX2_append 47 = .ok (.iload_n 2, 1) := by decide +kernel
theorem dX2_append_48 : decode cX2_append 48 = .ok (.iconst 1, 1) := by decide +kernel
theorem dX2_append_49 : decode cX2_append 49 = .ok (.invokevirtual 37, 3) := by decide +kernel
theorem dX2_append_52 : decode cX2_append 52 = .ok (.aload_n 0, 1) := by decide +kernel
theorem dX2_append_53 : decode cX2_append 53 = .ok (.iload_n 1, 1) := by decide +kernel
theorem dX2_append_54 : decode cX2_append 54 = .ok (.invokevirtual 25, 3) := by decide +kernel
theorem dX2_append_57 : decode cX2_append 57 = .ok (.ireturn, 1) := by decide +kernel
theorem dX6_wear_0 : decode cX6_wear 0 = .ok (.aload_n 0, 1) := by decide +kernel
theorem dX6_wear_1 : decode cX6_wear 1 = .ok (.getfield 19, 3) := by decide +kernel
theorem dX6_wear_4 : decode cX6_wear 4 = .ok (.iload_n 1, 1) := by decide +kernel
theorem dX6_wear_5 : decode cX6_wear 5 = .ok (.invokevirtual 95, 3) := by decide +kernel
theorem dX6_wear_8 : decode cX6_wear 8 = .ok (.ifCond .eq 14, 3) := by decide +kernel
theorem dX6_wear_11 : decode cX6_wear 11 = .ok (.aload_n 0, 1) := by decide +kernel
theorem dX6_wear_12 : decode cX6_wear 12 = .ok (.getfield 10, 3) := by decide +kernel
theorem dX6_wear_15 : decode cX6_wear 15 = .ok (.iload_n 2, 1) := by decide +kernel
theorem dX6_wear_16 : decode cX6_wear 16 = .ok (.invokevirtual 84, 3) := by decide +kernel
theorem dX6_wear_19 : decode cX6_wear 19 = .ok (.ifCond .ne 9, 3) := by decide +kernel
theorem dX6_wear_22 : decode cX6_wear 22 = .ok (.aload_n 0, 1) := by decide +kernel
theorem dX6_wear_23 : decode cX6_wear 23 = .ok (.iconst 1, 1) := by decide +kernel
theorem dX6_wear_24 : decode cX6_wear 24 = .ok (.invokevirtual 72, 3) := by decide +kernel
theorem dX6_wear_27 : decode cX6_wear 27 = .ok (.ireturn, 1) := by decide +kernel
theorem dX6_wear_28 : decode cX6_wear 28 = .ok (.aload_n 0, 1) := by decide +kernel
theorem dX6_wear_29 : decode cX6_wear 29 = .ok (.getfield 19, 3) := by decide +kernel
theorem dX6_wear_32 : decode cX6_wear 32 = .ok (.iload_n 1, 1) := by decide +kernel
theorem dX6_wear_33 : decode cX6_wear 33 = .ok (.iload_n 2, 1) := by decide +kernel
theorem dX6_wear_34 : decode cX6_wear 34 = .ok (.invokevirtual 96, 3) := by decide +kernel
theorem dX6_wear_37 : decode cX6_wear 37 = .ok (.ifCond .lt 9, 3) := by decide +kernel
theorem dX6_wear_40 : decode cX6_wear 40 = .ok (.aload_n 0, 1) := by decide +kernel
theorem dX6_wear_41 : decode cX6_wear 41 = .ok (.iconst 3, 1) := by decide +kernel
theorem dX6_wear_42 : decode cX6_wear 42 = .ok (.invokevirtual 72, 3) := by decide +kernel
theorem dX6_wear_45 : decode cX6_wear 45 = .ok (.ireturn, 1) := by decide +kernel
theorem dX6_wear_46 : decode cX6_wear 46 = .ok (.aload_n 0, 1) := by decide +kernel
theorem dX6_wear_47 : decode cX6_wear 47 = .ok (.getfield 19, 3) := by decide +kernel
theorem dX6_wear_50 : decode cX6_wear 50 = .ok (.iload_n 1, 1) := by decide +kernel
theorem dX6_wear_51 : decode cX6_wear 51 = .ok (.invokevirtual 99, 3) := by decide +kernel
theorem dX6_wear_54 : decode cX6_wear 54 = .ok (.bipush 8, 2) := by decide +kernel
theorem dX6_wear_56 : decode cX6_wear 56 = .ok (.if_icmp .lt 9, 3) := by decide +kernel
theorem dX6_wear_59 : decode cX6_wear 59 = .ok (.aload_n 0, 1) := by decide +kernel
theorem dX6_wear_60 : decode cX6_wear 60 = .ok (.iconst 4, 1) := by decide +kernel
theorem dX6_wear_61 : decode cX6_wear 61 = .ok (.invokevirtual 72, 3) := by decide +kernel
theorem dX6_wear_64 : decode cX6_wear 64 = .ok (.ireturn, 1) := by decide +kernel
theorem dX6_wear_65 : decode cX6_wear 65 = .ok (.aload_n 0, 1) := by decide +kernel
theorem dX6_wear_66 : decode cX6_wear 66 = .ok (.getfield 19, 3) := by decide +kernel
theorem dX6_wear_69 : decode cX6_wear 69 = .ok (.iload_n 1, 1) := by decide +kernel
theorem dX6_wear_70 : decode cX6_wear 70 = .ok (.iload_n 2, 1) := by decide +kernel
theorem dX6_wear_71 : decode cX6_wear 71 = .ok (.invokevirtual 102, 3) := by decide +kernel
theorem dX6_wear_74 : decode cX6_wear 74 = .ok (.ireturn, 1) := by decide +kernel
theorem dX7_isLook_0 : decode cX7_isLook 0 = .ok (.iload_n 0, 1) := by decide +kernel
theorem dX7_isLook_1 : decode cX7_isLook 1 = .ok (.iconst 0, 1) := by decide +kernel
theorem dX7_isLook_2 : decode cX7_isLook 2 = .ok (.bipush 11, 2) := by decide +kernel
theorem dX7_isLook_4 : decode cX7_isLook 4 = .ok (.invokestatic 100, 3) := by decide +kernel
theorem dX7_isLook_7 : decode cX7_isLook 7 = .ok (.ireturn, 1) := by decide +kernel
theorem dX7_rowOf_0 : decode cX7_rowOf 0 = .ok (.iconst (-1), 1) := by decide +kernel
theorem dX7_rowOf_1 : decode cX7_rowOf 1 = .ok (.istore_n 3, 1) := by decide +kernel
theorem dX7_rowOf_2 : decode cX7_rowOf 2 = .ok (.iconst 0, 1) := by decide +kernel
theorem dX7_rowOf_3 : decode cX7_rowOf 3 = .ok (.istore 4, 2) := by decide +kernel
theorem dX7_rowOf_5 : decode cX7_rowOf 5 = .ok (.iload 4, 2) := by decide +kernel
theorem dX7_rowOf_7 : decode cX7_rowOf 7 = .ok (.aload_n 0, 1) := by decide +kernel
theorem dX7_rowOf_8 : decode cX7_rowOf 8 = .ok (.getfield 40, 3) := by decide +kernel
theorem dX7_rowOf_11 : decode cX7_rowOf 11 = .ok (.iload_n 1, 1) := by decide +kernel
theorem dX7_rowOf_12 : decode cX7_rowOf 12 = .ok (.iaload, 1) := by decide +kernel
theorem dX7_rowOf_13 : decode cX7_rowOf 13 = .ok (.if_icmp .ge 32, 3) := by decide +kernel
theorem dX7_rowOf_16 : decode cX7_rowOf 16 = .ok (.aload_n 0, 1) := by decide +kernel
theorem dX7_rowOf_17 : decode cX7_rowOf 17 = .ok (.getfield 43, 3) := by decide +kernel
theorem dX7_rowOf_20 : decode cX7_rowOf 20 = .ok (.bipush 8, 2) := by decide +kernel
theorem dX7_rowOf_22 : decode cX7_rowOf 22 = .ok (.iload_n 1, 1) := by decide +kernel
theorem dX7_rowOf_23 : decode cX7_rowOf 23 = .ok (.imul, 1) := by decide +kernel
theorem dX7_rowOf_24 : decode cX7_rowOf 24 = .ok (.iload 4, 2) := by decide +kernel
theorem dX7_rowOf_26 : decode cX7_rowOf 26 = .ok (.iadd, 1) := by decide +kernel
theorem dX7_rowOf_27 : decode cX7_rowOf 27 = .ok (.iaload, 1) := by decide +kernel
theorem dX7_rowOf_28 : decode cX7_rowOf 28 = .ok (.iload_n 2, 1) := by decide +kernel
theorem dX7_rowOf_29 : decode cX7_rowOf 29 = .ok (.if_icmp .ne 8, 3) := by decide +kernel
theorem dX7_rowOf_32 : decode cX7_rowOf 32 = .ok (.iload 4, 2) := by decide +kernel
theorem dX7_rowOf_34 : decode cX7_rowOf 34 = .ok (.goto 4, 3) := by decide +kernel
theorem dX7_rowOf_37 : decode cX7_rowOf 37 = .ok (.iload_n 3, 1) := by decide +kernel
theorem dX7_rowOf_38 : decode cX7_rowOf 38 = .ok (.istore_n 3, 1) := by decide +kernel
theorem dX7_rowOf_39 : decode cX7_rowOf 39 = .ok (.iinc 4 1, 3) := by decide +kernel
theorem dX7_rowOf_42 : decode cX7_rowOf 42 = .ok (.goto (-37), 3) := by decide +kernel
theorem dX7_rowOf_45 : decode cX7_rowOf 45 = .ok (.iload_n 3, 1) := by decide +kernel
theorem dX7_rowOf_46 : decode cX7_rowOf 46 = .ok (.ireturn, 1) := by decide +kernel
theorem dX7_wear_0 : decode cX7_wear 0 = .ok (.iload_n 1, 1) := by decide +kernel
theorem dX7_wear_1 : decode cX7_wear 1 = .ok (.invokestatic 112, 3) := by decide +kernel
theorem dX7_wear_4 : decode cX7_wear 4 = .ok (.ifCond .eq 11, 3) := by decide +kernel
theorem dX7_wear_7 : decode cX7_wear 7 = .ok (.aload_n 0, 1) := by decide +kernel
theorem dX7_wear_8 : decode cX7_wear 8 = .ok (.iload_n 2, 1) := by decide +kernel
theorem dX7_wear_9 : decode cX7_wear 9 = .ok (.invokevirtual 108, 3) := by decide +kernel
theorem dX7_wear_12 : decode cX7_wear 12 = .ok (.ifCond .ne 9, 3) := by decide +kernel
theorem dX7_wear_15 : decode cX7_wear 15 = .ok (.aload_n 0, 1) := by decide +kernel
theorem dX7_wear_16 : decode cX7_wear 16 = .ok (.iconst 1, 1) := by decide +kernel
theorem dX7_wear_17 : decode cX7_wear 17 = .ok (.invokevirtual 104, 3) := by decide +kernel
theorem dX7_wear_20 : decode cX7_wear 20 = .ok (.ireturn, 1) := by decide +kernel
theorem dX7_wear_21 : decode cX7_wear 21 = .ok (.aload_n 0, 1) := by decide +kernel
theorem dX7_wear_22 : decode cX7_wear 22 = .ok (.iload_n 1, 1) := by decide +kernel
theorem dX7_wear_23 : decode cX7_wear 23 = .ok (.iload_n 2, 1) := by decide +kernel
theorem dX7_wear_24 : decode cX7_wear 24 = .ok (.invokevirtual 115, 3) := by decide +kernel
theorem dX7_wear_27 : decode cX7_wear 27 = .ok (.ifCond .lt 9, 3) := by decide +kernel
theorem dX7_wear_30 : decode cX7_wear 30 = .ok (.aload_n 0, 1) := by decide +kernel
theorem dX7_wear_31 : decode cX7_wear 31 = .ok (.iconst 3, 1) := by decide +kernel
theorem dX7_wear_32 : decode cX7_wear 32 = .ok (.invokevirtual 104, 3) := by decide +kernel
theorem dX7_wear_35 : decode cX7_wear 35 = .ok (.ireturn, 1) := by decide +kernel
theorem dX7_wear_36 : decode cX7_wear 36 = .ok (.aload_n 0, 1) := by decide +kernel
theorem dX7_wear_37 : decode cX7_wear 37 = .ok (.getfield 40, 3) := by decide +kernel
theorem dX7_wear_40 : decode cX7_wear 40 = .ok (.iload_n 1, 1) := by decide +kernel
theorem dX7_wear_41 : decode cX7_wear 41 = .ok (.iaload, 1) := by decide +kernel
theorem dX7_wear_42 : decode cX7_wear 42 = .ok (.bipush 8, 2) := by decide +kernel
theorem dX7_wear_44 : decode cX7_wear 44 = .ok (.if_icmp .ne 9, 3) := by decide +kernel
theorem dX7_wear_47 : decode cX7_wear 47 = .ok (.aload_n 0, 1) := by decide +kernel
theorem dX7_wear_48 : decode cX7_wear 48 = .ok (.iconst 4, 1) := by decide +kernel
theorem dX7_wear_49 : decode cX7_wear 49 = .ok (.invokevirtual 104, 3) := by decide +kernel
theorem dX7_wear_52 : decode cX7_wear 52 = .ok (.ireturn, 1) := by decide +kernel
theorem dX7_wear_53 : decode cX7_wear 53 = .ok (.aload_n 0, 1) := by decide +kernel
theorem dX7_wear_54 : decode cX7_wear 54 = .ok (.getfield 43, 3) := by decide +kernel
theorem dX7_wear_57 : decode cX7_wear 57 = .ok (.bipush 8, 2) := by decide +kernel
theorem dX7_wear_59 : decode cX7_wear 59 = .ok (.iload_n 1, 1) := by decide +kernel
theorem dX7_wear_60 : decode cX7_wear 60 = .ok (.imul, 1) := by decide +kernel
theorem dX7_wear_61 : decode cX7_wear 61 = .ok (.aload_n 0, 1) := by decide +kernel
theorem dX7_wear_62 : decode cX7_wear 62 = .ok (.getfield 40, 3) := by decide +kernel
theorem dX7_wear_65 : decode cX7_wear 65 = .ok (.iload_n 1, 1) := by decide +kernel
theorem dX7_wear_66 : decode cX7_wear 66 = .ok (.iaload, 1) := by decide +kernel
theorem dX7_wear_67 : decode cX7_wear 67 = .ok (.iadd, 1) := by decide +kernel
theorem dX7_wear_68 : decode cX7_wear 68 = .ok (.iload_n 2, 1) := by decide +kernel
theorem dX7_wear_69 : decode cX7_wear 69 = .ok (.iastore, 1) := by decide +kernel
theorem dX7_wear_70 : decode cX7_wear 70 = .ok (.aload_n 0, 1) := by decide +kernel
theorem dX7_wear_71 : decode cX7_wear 71 = .ok (.getfield 40, 3) := by decide +kernel
theorem dX7_wear_74 : decode cX7_wear 74 = .ok (.iload_n 1, 1) := by decide +kernel
theorem dX7_wear_75 : decode cX7_wear 75 = .ok (.dup2, 1) := by decide +kernel
theorem dX7_wear_76 : decode cX7_wear 76 = .ok (.iaload, 1) := by decide +kernel
theorem dX7_wear_77 : decode cX7_wear 77 = .ok (.iconst 1, 1) := by decide +kernel
theorem dX7_wear_78 : decode cX7_wear 78 = .ok (.iadd, 1) := by decide +kernel
theorem dX7_wear_79 : decode cX7_wear 79 = .ok (.iastore, 1) := by decide +kernel
theorem dX7_wear_80 : decode cX7_wear 80 = .ok (.aload_n 0, 1) := by decide +kernel
theorem dX7_wear_81 : decode cX7_wear 81 = .ok (.getfield 40, 3) := by decide +kernel
theorem dX7_wear_84 : decode cX7_wear 84 = .ok (.iload_n 1, 1) := by decide +kernel
theorem dX7_wear_85 : decode cX7_wear 85 = .ok (.iaload, 1) := by decide +kernel
theorem dX7_wear_86 : decode cX7_wear 86 = .ok (.ireturn, 1) := by decide +kernel
theorem dX2_clear_0 : decode cX2_clear 0 = .ok (.aload_n 0, 1) := by decide +kernel
theorem dX2_clear_1 : decode cX2_clear 1 = .ok (.iload_n 1, 1) := by decide +kernel
theorem dX2_clear_2 : decode cX2_clear 2 = .ok (.invokevirtual 25, 3) := by decide +kernel
theorem dX2_clear_5 : decode cX2_clear 5 = .ok (.istore_n 2, 1) := by decide +kernel
theorem dX2_clear_6 : decode cX2_clear 6 = .ok (.iconst 0, 1) := by decide +kernel
theorem dX2_clear_7 : decode cX2_clear 7 = .ok (.istore_n 3, 1) := by decide +kernel
theorem dX2_clear_8 : decode cX2_clear 8 = .ok (.iload_n 3, 1) := by decide +kernel
theorem dX2_clear_9 : decode cX2_clear 9 = .ok (.iload_n 2, 1) := by decide +kernel
theorem dX2_clear_10 : decode cX2_clear 10 = .ok (.if_icmp .ge 20, 3) := by decide +kernel
theorem dX2_clear_13 : decode cX2_clear 13 = .ok (.aload_n 0, 1) := by decide +kernel
theorem dX2_clear_14 : decode cX2_clear 14 = .ok (.aload_n 0, 1) := by decide +kernel
theorem dX2_clear_15 : decode cX2_clear 15 = .ok (.iload_n 1, 1) := by decide +kernel
theorem dX2_clear_16 : decode cX2_clear 16 = .ok (.iload_n 3, 1) := by decide +kernel
theorem dX2_clear_17 : decode cX2_clear 17 = .ok (.invokevirtual 29, 3) := by decide +kernel
theorem dX2_clear_20 : decode cX2_clear 20 = .ok (.iconst (-1), 1) := by decide +kernel
theorem dX2_clear_21 : decode cX2_clear 21 = .ok (.invokevirtual 37, 3) := by decide +kernel
theorem dX2_clear_24 : decode cX2_clear 24 = .ok (.iinc 3 1, 3) := by decide +kernel
theorem dX2_clear_27 : decode cX2_clear 27 = .ok (.goto (-19), 3) := by decide +kernel
theorem dX2_clear_30 : decode cX2_clear 30 = .ok (.aload_n 0, 1) := by decide +kernel
theorem dX2_clear_31 : decode cX2_clear 31 = .ok (.iload_n 1, 1) := by decide +kernel
theorem dX2_clear_32 : decode cX2_clear 32 = .ok (.invokevirtual 21, 3) := by decide +kernel
theorem dX2_clear_35 : decode cX2_clear 35 = .ok (.ifCond .eq 10, 3) := by decide +kernel
theorem dX2_clear_38 : decode cX2_clear 38 = .ok (.aload_n 0, 1) := by decide +kernel
theorem dX2_clear_39 : decode cX2_clear 39 = .ok (.getfield 15, 3) := by decide +kernel
theorem dX2_clear_42 : decode cX2_clear 42 = .ok (.iload_n 1, 1) := by decide +kernel
theorem dX2_clear_43 : decode cX2_clear 43 = .ok (.iconst 0, 1) := by decide +kernel
theorem dX2_clear_44 : decode cX2_clear 44 = .ok (.iastore, 1) := by decide +kernel
theorem dX2_clear_45 : decode cX2_clear 45 = .ok (.iload_n 2, 1) := by decide +kernel
theorem dX2_clear_46 : decode cX2_clear 46 = .ok (.ireturn, 1) := by decide +kernel
theorem dX6_bare_0 : decode cX6_bare 0 = .ok (.aload_n 0, 1) := by decide +kernel
theorem dX6_bare_1 : decode cX6_bare 1 = .ok (.getfield 19, 3) := by decide +kernel
theorem dX6_bare_4 : decode cX6_bare 4 = .ok (.iload_n 1, 1) := by decide +kernel
theorem dX6_bare_5 : decode cX6_bare 5 = .ok (.invokevirtual 95, 3) := by decide +kernel
theorem dX6_bare_8 : decode cX6_bare 8 = .ok (.ifCond .ne 9, 3) := by decide +kernel
theorem dX6_bare_11 : decode cX6_bare 11 = .ok (.aload_n 0, 1) := by decide +kernel
theorem dX6_bare_12 : decode cX6_bare 12 = .ok (.iconst 1, 1) := by decide +kernel
theorem dX6_bare_13 : decode cX6_bare 13 = .ok (.invokevirtual 72, 3) := by decide +kernel
theorem dX6_bare_16 : decode cX6_bare 16 = .ok (.ireturn, 1) := by decide +kernel
theorem dX6_bare_17 : decode cX6_bare 17 = .ok (.aload_n 0, 1) := by decide +kernel
theorem dX6_bare_18 : decode cX6_bare 18 = .ok (.getfield 19, 3) := by decide +kernel
theorem dX6_bare_21 : decode cX6_bare 21 = .ok (.iload_n 1, 1) := by decide +kernel
theorem dX6_bare_22 : decode cX6_bare 22 = .ok (.invokevirtual 105, 3) := by decide +kernel
theorem dX6_bare_25 : decode cX6_bare 25 = .ok (.ireturn, 1) := by decide +kernel
theorem dX7_bare_0 : decode cX7_bare 0 = .ok (.iload_n 1, 1) := by decide +kernel
theorem dX7_bare_1 : decode cX7_bare 1 = .ok (.invokestatic 112, 3) := by decide +kernel
theorem dX7_bare_4 : decode cX7_bare 4 = .ok (.ifCond .ne 9, 3) := by decide +kernel
theorem dX7_bare_7 : decode cX7_bare 7 = .ok (.aload_n 0, 1) := by decide +kernel
theorem dX7_bare_8 : decode cX7_bare 8 = .ok (.iconst 1, 1) := by decide +kernel
theorem dX7_bare_9 : decode cX7_bare 9 = .ok (.invokevirtual 104, 3) := by decide +kernel
theorem dX7_bare_12 : decode cX7_bare 12 = .ok (.ireturn, 1) := by decide +kernel
theorem dX7_bare_13 : decode cX7_bare 13 = .ok (.aload_n 0, 1) := by decide +kernel
theorem dX7_bare_14 : decode cX7_bare 14 = .ok (.getfield 40, 3) := by decide +kernel
theorem dX7_bare_17 : decode cX7_bare 17 = .ok (.iload_n 1, 1) := by decide +kernel
theorem dX7_bare_18 : decode cX7_bare 18 = .ok (.iaload, 1) := by decide +kernel
theorem dX7_bare_19 : decode cX7_bare 19 = .ok (.istore_n 2, 1) := by decide +kernel
theorem dX7_bare_20 : decode cX7_bare 20 = .ok (.aload_n 0, 1) := by decide +kernel
theorem dX7_bare_21 : decode cX7_bare 21 = .ok (.getfield 40, 3) := by decide +kernel
theorem dX7_bare_24 : decode cX7_bare 24 = .ok (.iload_n 1, 1) := by decide +kernel
theorem dX7_bare_25 : decode cX7_bare 25 = .ok (.iconst 0, 1) := by decide +kernel
theorem dX7_bare_26 : decode cX7_bare 26 = .ok (.iastore, 1) := by decide +kernel
theorem dX7_bare_27 : decode cX7_bare 27 = .ok (.iload_n 2, 1) := by decide +kernel
theorem dX7_bare_28 : decode cX7_bare 28 = .ok (.ireturn, 1) := by decide +kernel
theorem dX6_look_0 : decode cX6_look 0 = .ok (.aload_n 0, 1) := by decide +kernel
theorem dX6_look_1 : decode cX6_look 1 = .ok (.getfield 19, 3) := by decide +kernel
theorem dX6_look_4 : decode cX6_look 4 = .ok (.iload_n 1, 1) := by decide +kernel
theorem dX6_look_5 : decode cX6_look 5 = .ok (.invokevirtual 95, 3) := by decide +kernel
theorem dX6_look_8 : decode cX6_look 8 = .ok (.ifCond .ne 9, 3) := by decide +kernel
theorem dX6_look_11 : decode cX6_look 11 = .ok (.aload_n 0, 1) := by decide +kernel
theorem dX6_look_12 : decode cX6_look 12 = .ok (.iconst 1, 1) := by decide +kernel
theorem dX6_look_13 : decode cX6_look 13 = .ok (.invokevirtual 72, 3) := by decide +kernel
theorem dX6_look_16 : decode cX6_look 16 = .ok (.ireturn, 1) := by decide +kernel
theorem dX6_look_17 : decode cX6_look 17 = .ok (.aload_n 0, 1) := by decide +kernel
theorem dX6_look_18 : decode cX6_look 18 = .ok (.getfield 19, 3) := by decide +kernel
theorem dX6_look_21 : decode cX6_look 21 = .ok (.iload_n 1, 1) := by decide +kernel
theorem dX6_look_22 : decode cX6_look 22 = .ok (.iload_n 2, 1) := by decide +kernel
theorem dX6_look_23 : decode cX6_look 23 = .ok (.invokevirtual 108, 3) := by decide +kernel
theorem dX6_look_26 : decode cX6_look 26 = .ok (.istore_n 3, 1) := by decide +kernel
theorem dX6_look_27 : decode cX6_look 27 = .ok (.iload_n 3, 1) := by decide +kernel
theorem dX6_look_28 : decode cX6_look 28 = .ok (.ifCond .ge 11, 3) := by decide +kernel
theorem dX6_look_31 : decode cX6_look 31 = .ok (.aload_n 0, 1) := by decide +kernel
theorem dX6_look_32 : decode cX6_look 32 = .ok (.iconst 2, 1) := by decide +kernel
theorem dX6_look_33 : decode cX6_look 33 = .ok (.invokevirtual 72, 3) := by decide +kernel
theorem dX6_look_36 : decode cX6_look 36 = .ok (.goto 4, 3) := by decide +kernel
theorem dX6_look_39 : decode cX6_look 39 = .ok (.iload_n 3, 1) := by decide +kernel
theorem dX6_look_40 : decode cX6_look 40 = .ok (.ireturn, 1) := by decide +kernel
theorem dX7_look_0 : decode cX7_look 0 = .ok (.iload_n 1, 1) := by decide +kernel
theorem dX7_look_1 : decode cX7_look 1 = .ok (.invokestatic 112, 3) := by decide +kernel
theorem dX7_look_4 : decode cX7_look 4 = .ok (.ifCond .ne 9, 3) := by decide +kernel
theorem dX7_look_7 : decode cX7_look 7 = .ok (.aload_n 0, 1) := by decide +kernel
theorem dX7_look_8 : decode cX7_look 8 = .ok (.iconst 1, 1) := by decide +kernel
theorem dX7_look_9 : decode cX7_look 9 = .ok (.invokevirtual 104, 3) := by decide +kernel
theorem dX7_look_12 : decode cX7_look 12 = .ok (.ireturn, 1) := by decide +kernel
theorem dX7_look_13 : decode cX7_look 13 = .ok (.iload_n 2, 1) := by decide +kernel
theorem dX7_look_14 : decode cX7_look 14 = .ok (.ifCond .lt 13, 3) := by decide +kernel
theorem dX7_look_17 : decode cX7_look 17 = .ok (.iload_n 2, 1) := by decide +kernel
theorem dX7_look_18 : decode cX7_look 18 = .ok (.aload_n 0, 1) := by decide +kernel
theorem dX7_look_19 : decode cX7_look 19 = .ok (.getfield 40, 3) := by decide +kernel
theorem dX7_look_22 : decode cX7_look 22 = .ok (.iload_n 1, 1) := by decide +kernel
theorem dX7_look_23 : decode cX7_look 23 = .ok (.iaload, 1) := by decide +kernel
theorem dX7_look_24 : decode cX7_look 24 = .ok (.if_icmp .lt 11, 3) := by decide +kernel
theorem dX7_look_27 : decode cX7_look 27 = .ok (.aload_n 0, 1) := by decide +kernel
theorem dX7_look_28 : decode cX7_look 28 = .ok (.iconst 2, 1) := by decide +kernel
theorem dX7_look_29 : decode cX7_look 29 = .ok (.invokevirtual 104, 3) := by decide +kernel
theorem dX7_look_32 : decode cX7_look 32 = .ok (.goto 14, 3) := by decide +kernel
theorem dX7_look_35 : decode cX7_look 35 = .ok (.aload_n 0, 1) := by decide +kernel
theorem dX7_look_36 : decode cX7_look 36 = .ok (.getfield 43, 3) := by decide +kernel
theorem dX7_look_39 : decode cX7_look 39 = .ok (.bipush 8, 2) := by decide +kernel
theorem dX7_look_41 : decode cX7_look 41 = .ok (.iload_n 1, 1) := by decide +kernel
theorem dX7_look_42 : decode cX7_look 42 = .ok (.imul, 1) := by decide +kernel
theorem dX7_look_43 : decode cX7_look 43 = .ok (.iload_n 2, 1) := by decide +kernel
theorem dX7_look_44 : decode cX7_look 44 = .ok (.iadd, 1) := by decide +kernel
theorem dX7_look_45 : decode cX7_look 45 = .ok (.iaload, 1) := by decide +kernel
theorem dX7_look_46 : decode cX7_look 46 = .ok (.ireturn, 1) := by decide +kernel
theorem dX6_limit_0 : decode cX6_limit 0 = .ok (.iload_n 1, 1) := by decide +kernel
theorem dX6_limit_1 : decode cX6_limit 1 = .ok (.iconst 1, 1) := by decide +kernel
theorem dX6_limit_2 : decode cX6_limit 2 = .ok (.bipush 30, 2) := by decide +kernel
theorem dX6_limit_4 : decode cX6_limit 4 = .ok (.invokestatic 88, 3) := by decide +kernel
theorem dX6_limit_7 : decode cX6_limit 7 = .ok (.ifCond .ne 9, 3) := by decide +kernel
theorem dX6_limit_10 : decode cX6_limit 10 = .ok (.aload_n 0, 1) := by decide +kernel
theorem dX6_limit_11 : decode cX6_limit 11 = .ok (.iconst 1, 1) := by decide +kernel
theorem dX6_limit_12 : decode cX6_limit 12 = .ok (.invokevirtual 72, 3) := by decide +kernel
theorem dX6_limit_15 : decode cX6_limit 15 = .ok (.ireturn, 1) := by decide +kernel
theorem dX6_limit_16 : decode cX6_limit 16 = .ok (.aload_n 0, 1) := by decide +kernel
theorem dX6_limit_17 : decode cX6_limit 17 = .ok (.getfield 64, 3) := by decide +kernel
theorem dX6_limit_20 : decode cX6_limit 20 = .ok (.istore_n 2, 1) := by decide +kernel
theorem dX6_limit_21 : decode cX6_limit 21 = .ok (.aload_n 0, 1) := by decide +kernel
theorem dX6_limit_22 : decode cX6_limit 22 = .ok (.iload_n 1, 1) := by decide +kernel
theorem dX6_limit_23 : decode cX6_limit 23 = .ok (.putfield 64, 3) := by decide +kernel
theorem dX6_limit_26 : decode cX6_limit 26 = .ok (.iload_n 2, 1) := by decide +kernel
theorem dX6_limit_27 : decode cX6_limit 27 = .ok (.ireturn, 1) := by decide +kernel
theorem dX7_limit_0 : decode cX7_limit 0 = .ok (.iload_n 1, 1) := by decide +kernel
theorem dX7_limit_1 : decode cX7_limit 1 = .ok (.iconst 1, 1) := by decide +kernel
theorem dX7_limit_2 : decode cX7_limit 2 = .ok (.bipush 30, 2) := by decide +kernel
theorem dX7_limit_4 : decode cX7_limit 4 = .ok (.invokestatic 100, 3) := by decide +kernel
theorem dX7_limit_7 : decode cX7_limit 7 = .ok (.ifCond .ne 9, 3) := by decide +kernel
theorem dX7_limit_10 : decode cX7_limit 10 = .ok (.aload_n 0, 1) := by decide +kernel
theorem dX7_limit_11 : decode cX7_limit 11 = .ok (.iconst 1, 1) := by decide +kernel
theorem dX7_limit_12 : decode cX7_limit 12 = .ok (.invokevirtual 104, 3) := by decide +kernel
theorem dX7_limit_15 : decode cX7_limit 15 = .ok (.ireturn, 1) := by decide +kernel
theorem dX7_limit_16 : decode cX7_limit 16 = .ok (.aload_n 0, 1) := by decide +kernel
theorem dX7_limit_17 : decode cX7_limit 17 = .ok (.getfield 46, 3) := by decide +kernel
theorem dX7_limit_20 : decode cX7_limit 20 = .ok (.istore_n 2, 1) := by decide +kernel
theorem dX7_limit_21 : decode cX7_limit 21 = .ok (.aload_n 0, 1) := by decide +kernel
theorem dX7_limit_22 : decode cX7_limit 22 = .ok (.iload_n 1, 1) := by decide +kernel
theorem dX7_limit_23 : decode cX7_limit 23 = .ok (.putfield 46, 3) := by decide +kernel
theorem dX7_limit_26 : decode cX7_limit 26 = .ok (.iload_n 2, 1) := by decide +kernel
theorem dX7_limit_27 : decode cX7_limit 27 = .ok (.ireturn, 1) := by decide +kernel
theorem dX2_hasBits_0 : decode cX2_hasBits 0 = .ok (.iload_n 2, 1) := by decide +kernel
theorem dX2_hasBits_1 : decode cX2_hasBits 1 = .ok (.aload_n 0, 1) := by decide +kernel
theorem dX2_hasBits_2 : decode cX2_hasBits 2 = .ok (.iload_n 1, 1) := by decide +kernel
theorem dX2_hasBits_3 : decode cX2_hasBits 3 = .ok (.invokevirtual 25, 3) := by decide +kernel
theorem dX2_hasBits_6 : decode cX2_hasBits 6 = .ok (.iushr, 1) := by decide +kernel
theorem dX2_hasBits_7 : decode cX2_hasBits 7 = .ok (.ifCond .ne 7, 3) := by decide +kernel
theorem dX2_hasBits_10 : decode cX2_hasBits 10 = .ok (.iconst 1, 1) := by decide +kernel
theorem dX2_hasBits_11 : decode cX2_hasBits 11 = .ok (.goto 4, 3) := by decide +kernel
theorem dX2_hasBits_14 : decode cX2_hasBits 14 = .ok (.iconst 0, 1) := by decide +kernel
theorem dX2_hasBits_15 : decode cX2_hasBits 15 = .ok (.ireturn, 1) := by decide +kernel
theorem dX6_isChange_0 : decode cX6_isChange 0 = .ok (.aload_n 0, 1) := by decide +kernel
theorem dX6_isChange_1 : decode cX6_isChange 1 = .ok (.getfield 19, 3) := by decide +kernel
theorem dX6_isChange_4 : decode cX6_isChange 4 = .ok (.iload_n 1, 1) := by decide +kernel
theorem dX6_isChange_5 : decode cX6_isChange 5 = .ok (.invokevirtual 95, 3) := by decide +kernel
theorem dX6_isChange_8 : decode cX6_isChange 8 = .ok (.ifCond .eq 30, 3) := by decide +kernel
theorem dX6_isChange_11 : decode cX6_isChange 11 = .ok (.aload_n 0, 1) := by decide +kernel
theorem dX6_isChange_12 : decode cX6_isChange 12 = .ok (.getfield 19, 3) := by decide +kernel
theorem dX6_isChange_15 : decode cX6_isChange 15 = .ok (.iload_n 2, 1) := by decide +kernel
theorem dX6_isChange_16 : decode cX6_isChange 16 = .ok (.invokevirtual 95, 3) := by decide +kernel
theorem dX6_isChange_19 : decode cX6_isChange 19 = .ok (.ifCond .eq 19, 3) := by decide +kernel
theorem dX6_isChange_22 : decode cX6_isChange 22 = .ok (.aload_n 0, 1) := by decide +kernel
theorem dX6_isChange_23 : decode cX6_isChange 23 = .ok (.getfield 19, 3) := by decide +kernel
theorem dX6_isChange_26 : decode cX6_isChange 26 = .ok (.iload_n 2, 1) := by decide +kernel
theorem dX6_isChange_27 : decode cX6_isChange 27 = .ok (.iload_n 3, 1) := by decide +kernel
theorem dX6_isChange_28 : decode cX6_isChange 28 = .ok (.invokevirtual 245, 3) := by decide +kernel
theorem dX6_isChange_31 : decode cX6_isChange 31 = .ok (.ifCond .eq 7, 3) := by decide +kernel
theorem dX6_isChange_34 : decode cX6_isChange 34 = .ok (.iconst 1, 1) := by decide +kernel
theorem dX6_isChange_35 : decode cX6_isChange 35 = .ok (.goto 4, 3) := by decide +kernel
theorem dX6_isChange_38 : decode cX6_isChange 38 = .ok (.iconst 0, 1) := by decide +kernel
theorem dX6_isChange_39 : decode cX6_isChange 39 = .ok (.ireturn, 1) := by decide +kernel
theorem dX1_wigsOf_0 : decode cX1_wigsOf 0 = .ok (.iconst 0, 1) := by decide +kernel
theorem dX1_wigsOf_1 : decode cX1_wigsOf 1 = .ok (.istore_n 2, 1) := by decide +kernel
theorem dX1_wigsOf_2 : decode cX1_wigsOf 2 = .ok (.aload_n 0, 1) := by decide +kernel
theorem dX1_wigsOf_3 : decode cX1_wigsOf 3 = .ok (.getfield 37, 3) := by decide +kernel
theorem dX1_wigsOf_6 : decode cX1_wigsOf 6 = .ok (.iload_n 1, 1) := by decide +kernel
theorem dX1_wigsOf_7 : decode cX1_wigsOf 7 = .ok (.invokevirtual 41, 3) := by decide +kernel
theorem dX1_wigsOf_10 : decode cX1_wigsOf 10 = .ok (.istore_n 3, 1) := by decide +kernel
theorem dX1_wigsOf_11 : decode cX1_wigsOf 11 = .ok (.iconst 0, 1) := by decide +kernel
theorem dX1_wigsOf_12 : decode cX1_wigsOf 12 = .ok (.istore 4, 2) := by decide +kernel
theorem dX1_wigsOf_14 : decode cX1_wigsOf 14 = .ok (.iload 4, 2) := by decide +kernel
theorem dX1_wigsOf_16 : decode cX1_wigsOf 16 = .ok (.iload_n 3, 1) := by decide +kernel
theorem dX1_wigsOf_17 : decode cX1_wigsOf 17 = .ok (.if_icmp .ge 38, 3) := by decide +kernel
theorem dX1_wigsOf_20 : decode cX1_wigsOf 20 = .ok (.aload_n 0, 1) := by decide +kernel
theorem dX1_wigsOf_21 : decode cX1_wigsOf 21 = .ok (.getfield 33, 3) := by decide +kernel
theorem dX1_wigsOf_24 : decode cX1_wigsOf 24 = .ok (.aload_n 0, 1) := by decide +kernel
theorem dX1_wigsOf_25 : decode cX1_wigsOf 25 = .ok (.getfield 37, 3) := by decide +kernel
theorem dX1_wigsOf_28 : decode cX1_wigsOf 28 = .ok (.iload_n 1, 1) := by decide +kernel
theorem dX1_wigsOf_29 : decode cX1_wigsOf 29 = .ok (.iload 4, 2) := by decide +kernel
theorem dX1_wigsOf_31 : decode cX1_wigsOf 31 = .ok (.invokevirtual 79, 3) := by decide +kernel
theorem dX1_wigsOf_34 : decode cX1_wigsOf 34 = .ok (.iconst 0, 1) := by decide +kernel
theorem dX1_wigsOf_35 : decode cX1_wigsOf 35 = .ok (.invokevirtual 82, 3) := by decide +kernel
theorem dX1_wigsOf_38 : decode cX1_wigsOf 38 = .ok (.iconst 1, 1) := by decide +kernel
theorem dX1_wigsOf_39 : decode cX1_wigsOf 39 = .ok (.if_icmp .ne 10, 3) := by decide +kernel
theorem dX1_wigsOf_42 : decode cX1_wigsOf 42 = .ok (.iload_n 2, 1) := by decide +kernel
theorem dX1_wigsOf_43 : decode cX1_wigsOf 43 = .ok (.iconst 1, 1) := by decide +kernel
theorem dX1_wigsOf_44 : decode cX1_wigsOf 44 = .ok (.iload 4, 2) := by decide +kernel
theorem dX1_wigsOf_46 : decode cX1_wigsOf 46 = .ok (.ishl, 1) := by decide +kernel
theorem dX1_wigsOf_47 : decode cX1_wigsOf 47 = .ok (.ior, 1) := by decide +kernel
theorem dX1_wigsOf_48 : decode cX1_wigsOf 48 = .ok (.istore_n 2, 1) := by decide +kernel
theorem dX1_wigsOf_49 : decode cX1_wigsOf 49 = .ok (.iinc 4 1, 3) := by decide +kernel
theorem dX1_wigsOf_52 : decode cX1_wigsOf 52 = .ok (.goto (-38), 3) := by decide +kernel
theorem dX1_wigsOf_55 : decode cX1_wigsOf 55 = .ok (.iload_n 2, 1) := by decide +kernel
theorem dX1_wigsOf_56 : decode cX1_wigsOf 56 = .ok (.ireturn, 1) := by decide +kernel
theorem dX5_haveOnePlace_0 : decode cX5_haveOnePlace 0 = .ok (.aload_n 0, 1) := by decide +kernel
theorem dX5_haveOnePlace_1 : decode cX5_haveOnePlace 1 = .ok (.iload_n 1, 1) := by decide +kernel
theorem dX5_haveOnePlace_2 : decode cX5_haveOnePlace 2 = .ok (.iconst 1, 1) := by decide +kernel
theorem dX5_haveOnePlace_3 : decode cX5_haveOnePlace 3 = .ok (.invokevirtual 55, 3) := by decide +kernel
theorem dX5_haveOnePlace_6 : decode cX5_haveOnePlace 6 = .ok (.aload_n 0, 1) := by decide +kernel
theorem dX5_haveOnePlace_7 : decode cX5_haveOnePlace 7 = .ok (.iload_n 2, 1) := by decide +kernel
theorem dX5_haveOnePlace_8 : decode cX5_haveOnePlace 8 = .ok (.iconst 1, 1) := by decide +kernel
theorem dX5_haveOnePlace_9 : decode cX5_haveOnePlace 9 = .ok (.invokevirtual 55, 3) := by decide +kernel
theorem dX5_haveOnePlace_12 : decode cX5_haveOnePlace 12 = .ok (.if_icmp .ne 7, 3) := by decide +kernel
theorem dX5_haveOnePlace_15 : decode cX5_haveOnePlace 15 = .ok (.iconst 1, 1) := by decide +kernel
theorem dX5_haveOnePlace_16 : decode cX5_haveOnePlace 16 = .ok (.goto 4, 3) := by decide +kernel
theorem dX5_haveOnePlace_19 : decode cX5_haveOnePlace 19 = .ok (.iconst 0, 1) := by decide +kernel
theorem dX5_haveOnePlace_20 : decode cX5_haveOnePlace 20 = .ok (.ireturn, 1) := by decide +kernel
theorem dX1_aheadAtPlace_0 : decode cX1_aheadAtPlace 0 = .ok (.aload_n 0, 1) := by decide +kernel
theorem dX1_aheadAtPlace_1 : decode cX1_aheadAtPlace 1 = .ok (.getfield 37, 3) := by decide +kernel
theorem dX1_aheadAtPlace_4 : decode cX1_aheadAtPlace 4 = .ok (.iload_n 1, 1) := by decide +kernel
theorem dX1_aheadAtPlace_5 : decode cX1_aheadAtPlace 5 = .ok (.iload_n 2, 1) := by decide +kernel
theorem dX1_aheadAtPlace_6 : decode cX1_aheadAtPlace 6 = .ok (.invokevirtual 79, 3) := by decide +kernel
theorem dX1_aheadAtPlace_9 : decode cX1_aheadAtPlace 9 = .ok (.istore_n 3, 1) := by decide +kernel
theorem dX1_aheadAtPlace_10 : decode cX1_aheadAtPlace 10 = .ok (.iconst 0, 1) := by decide +kernel
theorem dX1_aheadAtPlace_11 : decode cX1_aheadAtPlace 11 = .ok (.istore 4, 2) := by decide +kernel
theorem dX1_aheadAtPlace_13 : decode cX1_aheadAtPlace 13 = .ok (.iconst 0, 1) := by decide +kernel
theorem dX1_aheadAtPlace_14 : decode cX1_aheadAtPlace 14 = .ok (.istore 5, 2) := by decide +kernel
theorem dX1_aheadAtPlace_16 : decode cX1_aheadAtPlace 16 = .ok (.iload 5, 2) := by decide +kernel
theorem dX1_aheadAtPlace_18 : decode cX1_aheadAtPlace 18 = .ok (.iload_n 2, 1) := by decide +kernel
theorem dX1_aheadAtPlace_19 : decode cX1_aheadAtPlace 19 = .ok (.if_icmp .ge 39, 3) := by decide +kernel
theorem dX1_aheadAtPlace_22 : decode cX1_aheadAtPlace 22 = .ok (.aload_n 0, 1) := by decide +kernel
theorem dX1_aheadAtPlace_23 : decode cX1_aheadAtPlace 23 = .ok (.getfield 33, 3) := by decide +kernel
theorem dX1_aheadAtPlace_26 : decode cX1_aheadAtPlace 26 = .ok (.aload_n 0, 1) := by decide +kernel
theorem dX1_aheadAtPlace_27 : decode cX1_aheadAtPlace 27 = .ok (.getfield 37, 3) := by decide +kernel
theorem dX1_aheadAtPlace_30 : decode cX1_aheadAtPlace 30 = .ok (.iload_n 1, 1) := by decide +kernel
theorem dX1_aheadAtPlace_31 : decode cX1_aheadAtPlace 31 = .ok (.iload 5, 2) := by decide +kernel
theorem dX1_aheadAtPlace_33 : decode cX1_aheadAtPlace 33 = .ok (.invokevirtual 79, 3) := by decide +kernel
theorem dX1_aheadAtPlace_36 : decode cX1_aheadAtPlace 36 = .ok (.iload_n 3, 1) := by decide +kernel
theorem dX1_aheadAtPlace_37 : decode cX1_aheadAtPlace 37 = .ok (.invokevirtual 105, 3) := by decide +kernel
theorem dX1_aheadAtPlace_40 : decode cX1_aheadAtPlace 40 = .ok (.ifCond .eq 12, 3) := by decide +kernel
theorem dX1_aheadAtPlace_43 : decode cX1_aheadAtPlace 43 = .ok (.iload 4, 2) := by decide +kernel
theorem dX1_aheadAtPlace_45 : decode cX1_aheadAtPlace 45 = .ok (.iconst 1, 1) := by decide +kernel
theorem dX1_aheadAtPlace_46 : decode cX1_aheadAtPlace 46 = .ok (.iload 5, 2) := by decide +kernel
theorem dX1_aheadAtPlace_48 : decode cX1_aheadAtPlace 48 = .ok (.ishl, 1) := by decide +kernel
theorem dX1_aheadAtPlace_49 : decode cX1_aheadAtPlace 49 = .ok (.ior, 1) := by decide +kernel
theorem dX1_aheadAtPlace_50 : decode cX1_aheadAtPlace 50 = .ok (.istore 4, 2) := by decide +kernel
theorem dX1_aheadAtPlace_52 : decode cX1_aheadAtPlace 52 = .ok (.iinc 5 1, 3) := by decide +kernel
theorem dX1_aheadAtPlace_55 : decode cX1_aheadAtPlace 55 = .ok (.goto (-39), 3) := by decide +kernel
theorem dX1_aheadAtPlace_58 : decode cX1_aheadAtPlace 58 = .ok (.iload 4, 2) := by decide +kernel
theorem dX1_aheadAtPlace_60 : decode cX1_aheadAtPlace 60 = .ok (.ireturn, 1) := by decide +kernel
theorem dX6_hasBit_0 : decode cX6_hasBit 0 = .ok (.iload_n 0, 1) := by decide +kernel
theorem dX6_hasBit_1 : decode cX6_hasBit 1 = .ok (.iload_n 1, 1) := by decide +kernel
theorem dX6_hasBit_2 : decode cX6_hasBit 2 = .ok (.iushr, 1) := by decide +kernel
theorem dX6_hasBit_3 : decode cX6_hasBit 3 = .ok (.iconst 1, 1) := by decide +kernel
theorem dX6_hasBit_4 : decode cX6_hasBit 4 = .ok (.iand, 1) := by decide +kernel
theorem dX6_hasBit_5 : decode cX6_hasBit 5 = .ok (.ifCond .eq 7, 3) := by decide +kernel
theorem dX6_hasBit_8 : decode cX6_hasBit 8 = .ok (.iconst 1, 1) := by decide +kernel
theorem dX6_hasBit_9 : decode cX6_hasBit 9 = .ok (.goto 4, 3) := by decide +kernel
theorem dX6_hasBit_12 : decode cX6_hasBit 12 = .ok (.iconst 0, 1) := by decide +kernel
theorem dX6_hasBit_13 : decode cX6_hasBit 13 = .ok (.ireturn, 1) := by decide +kernel
theorem dX1_isWantedUnder_0 : decode cX1_isWantedUnder 0 = .ok (.iconst 0, 1) := by decide +kernel
theorem dX1_isWantedUnder_1 : decode cX1_isWantedUnder 1 = .ok (.istore_n 2, 1) := by decide +kernel
theorem dX1_isWantedUnder_2 : decode cX1_isWantedUnder 2 = .ok (.iload_n 2, 1) := by decide +kernel
theorem dX1_isWantedUnder_3 : decode cX1_isWantedUnder 3 = .ok (.iload_n 1, 1) := by decide +kernel
theorem dX1_isWantedUnder_4 : decode cX1_isWantedUnder 4 = .ok (.if_icmp .ge 39, 3) := by decide +kernel
theorem dX1_isWantedUnder_7 : decode cX1_isWantedUnder 7 = .ok (.aload_n 0, 1) := by decide +kernel
theorem dX1_isWantedUnder_8 : decode cX1_isWantedUnder 8 = .ok (.getfield 18, 3) := by decide +kernel
theorem dX1_isWantedUnder_11 : decode cX1_isWantedUnder 11 = .ok (.iload_n 1, 1) := by decide +kernel
theorem dX1_isWantedUnder_12 : decode cX1_isWantedUnder 12 = .ok (.iaload, 1) := by decide +kernel
theorem dX1_isWantedUnder_13 : decode cX1_isWantedUnder 13 = .ok (.iload_n 2, 1) := by decide +kernel
theorem dX1_isWantedUnder_14 : decode cX1_isWantedUnder 14 = .ok (.invokestatic 97, 3) := by decide +kernel
theorem dX1_isWantedUnder_17 : decode cX1_isWantedUnder 17 = .ok (.ifCond .eq 20, 3) := by decide +kernel
theorem dX1_isWantedUnder_20 : decode cX1_isWantedUnder 20 = .ok (.aload_n 0, 1) := by decide +kernel
theorem dX1_isWantedUnder_21 : decode cX1_isWantedUnder 21 = .ok (.getfield 9, 3) := by decide +kernel
theorem dX1_isWantedUnder_24 : decode cX1_isWantedUnder 24 = .ok (.iload_n 2, 1) := by decide +kernel
theorem dX1_isWantedUnder_25 : decode cX1_isWantedUnder 25 = .ok (.iaload, 1) := by decide +kernel
theorem dX1_isWantedUnder_26 : decode cX1_isWantedUnder 26 = .ok (.aload_n 0, 1) := by decide +kernel
theorem dX1_isWantedUnder_27 : decode cX1_isWantedUnder 27 = .ok (.getfield 9, 3) := by decide +kernel
theorem dX1_isWantedUnder_30 : decode cX1_isWantedUnder 30 = .ok (.iload_n 1, 1) := by decide +kernel
theorem dX1_isWantedUnder_31 : decode cX1_isWantedUnder 31 = .ok (.iaload, 1) := by decide +kernel
theorem dX1_isWantedUnder_32 : decode cX1_isWantedUnder 32 = .ok (.if_icmp .le 5, 3) := by decide +kernel
theorem dX1_isWantedUnder_35 : decode cX1_isWantedUnder 35 = .ok (.iconst 1, 1) := by decide +kernel
theorem dX1_isWantedUnder_36 : decode cX1_isWantedUnder 36 = .ok (.ireturn, 1) := by decide +kernel
theorem dX1_isWantedUnder_37 : decode cX1_isWantedUnder 37 = .ok (.iinc 2 1, 3) := by decide +kernel
theorem dX1_isWantedUnder_40 : decode cX1_isWantedUnder 40 = .ok (.goto (-38), 3) := by decide +kernel
theorem dX1_isWantedUnder_43 : decode cX1_isWantedUnder 43 = .ok (.iconst 0, 1) := by decide +kernel
theorem dX1_isWantedUnder_44 : decode cX1_isWantedUnder 44 = .ok (.ireturn, 1) := by decide +kernel
theorem dX1_prepareWorn_0 : decode cX1_prepareWorn 0 = .ok (.aload_n 0, 1) := by decide +kernel
theorem dX1_prepareWorn_1 : decode cX1_prepareWorn 1 = .ok (.getfield 37, 3) := by decide +kernel
theorem dX1_prepareWorn_4 : decode cX1_prepareWorn 4 = .ok (.iload_n 1, 1) := by decide +kernel
theorem dX1_prepareWorn_5 : decode cX1_prepareWorn 5 = .ok (.iload_n 3, 1) := by decide +kernel
theorem dX1_prepareWorn_6 : decode cX1_prepareWorn 6 = .ok (.invokevirtual 79, 3) := by decide +kernel
theorem dX1_prepareWorn_9 : decode cX1_prepareWorn 9 = .ok (.istore 4, 2) := by decide +kernel
theorem dX1_prepareWorn_11 : decode cX1_prepareWorn 11 = .ok (.aload_n 0, 1) := by decide +kernel
theorem dX1_prepareWorn_12 : decode cX1_prepareWorn 12 = .ok (.getfield 27, 3) := by decide +kernel
theorem dX1_prepareWorn_15 : decode cX1_prepareWorn 15 = .ok (.iload_n 3, 1) := by decide +kernel
theorem dX1_prepareWorn_16 : decode cX1_prepareWorn 16 = .ok (.aload_n 0, 1) := by decide +kernel
theorem dX1_prepareWorn_17 : decode cX1_prepareWorn 17 = .ok (.getfield 33, 3) := by decide +kernel
theorem dX1_prepareWorn_20 : decode cX1_prepareWorn 20 = .ok (.iload 4, 2) := by decide +kernel
theorem dX1_prepareWorn_22 : decode cX1_prepareWorn 22 = .ok (.iconst 4, 1) := by decide +kernel
theorem dX1_prepareWorn_23 : decode cX1_prepareWorn 23 = .ok (.invokevirtual 82, 3) := by decide +kernel
theorem dX1_prepareWorn_26 : decode cX1_prepareWorn 26 = .ok (.iastore, 1) := by decide +kernel
theorem dX1_prepareWorn_27 : decode cX1_prepareWorn 27 = .ok (.aload_n 0, 1) := by decide +kernel
theorem dX1_prepareWorn_28 : decode cX1_prepareWorn 28 = .ok (.getfield 9, 3) := by decide +kernel
theorem dX1_prepareWorn_31 : decode cX1_prepareWorn 31 = .ok (.iload_n 3, 1) := by decide +kernel
theorem dX1_prepareWorn_32 : decode cX1_prepareWorn 32 = .ok (.aload_n 0, 1) := by decide +kernel
theorem dX1_prepareWorn_33 : decode cX1_prepareWorn 33 = .ok (.getfield 37, 3) := by decide +kernel
theorem dX1_prepareWorn_36 : decode cX1_prepareWorn 36 = .ok (.iload_n 2, 1) := by decide +kernel
theorem dX1_prepareWorn_37 : decode cX1_prepareWorn 37 = .ok (.iload 4, 2) := by decide +kernel
theorem dX1_prepareWorn_39 : decode cX1_prepareWorn 39 = .ok (.invokevirtual 87, 3) := by decide +kernel
theorem dX1_prepareWorn_42 : decode cX1_prepareWorn 42 = .ok (.iastore, 1) := by decide +kernel
theorem dX1_prepareWorn_43 : decode cX1_prepareWorn 43 = .ok (.aload_n 0, 1) := by decide +kernel
theorem dX1_prepareWorn_44 : decode cX1_prepareWorn 44 = .ok (.getfield 18, 3) := by decide +kernel
theorem dX1_prepareWorn_47 : decode cX1_prepareWorn 47 = .ok (.iload_n 3, 1) := by decide +kernel
theorem dX1_prepareWorn_48 : decode cX1_prepareWorn 48 = .ok (.aload_n 0, 1) := by decide +kernel
theorem dX1_prepareWorn_49 : decode cX1_prepareWorn 49 = .ok (.iload_n 1, 1) := by decide +kernel
theorem dX1_prepareWorn_50 : decode cX1_prepareWorn 50 = .ok (.iload_n 3, 1) := by decide +kernel
theorem dX1_prepareWorn_51 : decode cX1_prepareWorn 51 = .ok (.invokevirtual 90, 3) := by decide +kernel
theorem dX1_prepareWorn_54 : decode cX1_prepareWorn 54 = .ok (.iastore, 1) := by decide +kernel
theorem dX1_prepareWorn_55 : decode cX1_prepareWorn 55 = .ok (.aload_n 0, 1) := by decide +kernel
theorem dX1_prepareWorn_56 : decode cX1_prepareWorn 56 = .ok (.getfield 9, 3) := by decide +kernel
theorem dX1_prepareWorn_59 : decode cX1_prepareWorn 59 = .ok (.iload_n 3, 1) := by decide +kernel
theorem dX1_prepareWorn_60 : decode cX1_prepareWorn 60 = .ok (.iaload, 1) := by decide +kernel
theorem dX1_prepareWorn_61 : decode cX1_prepareWorn 61 = .ok (.ifCond .lt 11, 3) := by decide +kernel
theorem dX1_prepareWorn_64 : decode cX1_prepareWorn 64 = .ok (.aload_n 0, 1) := by decide +kernel
theorem dX1_prepareWorn_65 : decode cX1_prepareWorn 65 = .ok (.iload_n 3, 1) := by decide +kernel
theorem dX1_prepareWorn_66 : decode cX1_prepareWorn 66 = .ok (.invokevirtual 93, 3) := by decide +kernel
theorem dX1_prepareWorn_69 : decode cX1_prepareWorn 69 = .ok (.ifCond .eq 15, 3) := by decide +kernel
theorem dX1_prepareWorn_72 : decode cX1_prepareWorn 72 = .ok (.aload_n 0, 1) := by decide +kernel
theorem dX1_prepareWorn_73 : decode cX1_prepareWorn 73 = .ok (.dup, 1) := by decide +kernel
theorem dX1_prepareWorn_74 : decode cX1_prepareWorn 74 = .ok (.getfield 69, 3) := by decide +kernel
theorem dX1_prepareWorn_77 : decode cX1_prepareWorn 77 = .ok (.iconst 1, 1) := by decide +kernel
theorem dX1_prepareWorn_78 : decode cX1_prepareWorn 78 = .ok (.iload_n 3, 1) := by decide +kernel
theorem dX1_prepareWorn_79 : decode cX1_prepareWorn 79 = .ok (.ishl, 1) := by decide +kernel
theorem dX1_prepareWorn_80 : decode cX1_prepareWorn 80 = .ok (.ior, 1) := by decide +kernel
theorem dX1_prepareWorn_81 : decode cX1_prepareWorn 81 = .ok (.putfield 69, 3) := by decide +kernel
theorem dX1_prepareWorn_84 : decode cX1_prepareWorn 84 = .ok (.return_, 1) := by decide +kernel
theorem dX1_thickBefore_0 : decode cX1_thickBefore 0 = .ok (.iconst 0, 1) := by decide +kernel
theorem dX1_thickBefore_1 : decode cX1_thickBefore 1 = .ok (.istore 4, 2) := by decide +kernel
theorem dX1_thickBefore_3 : decode cX1_thickBefore 3 = .ok (.iconst 0, 1) := by decide +kernel
theorem dX1_thickBefore_4 : decode cX1_thickBefore 4 = .ok (.istore 5, 2) := by decide +kernel
theorem dX1_thickBefore_6 : decode cX1_thickBefore 6 = .ok (.iload 5, 2) := by decide +kernel
theorem dX1_thickBefore_8 : decode cX1_thickBefore 8 = .ok (.iload_n 2, 1) := by decide +kernel
theorem dX1_thickBefore_9 : decode cX1_thickBefore 9 = .ok (.if_icmp .ge 49, 3) := by decide +kernel
theorem dX1_thickBefore_12 : decode cX1_thickBefore 12 = .ok (.aload_n 0, 1) := by decide +kernel
theorem dX1_thickBefore_13 : decode cX1_thickBefore 13 = .ok (.getfield 37, 3) := by decide +kernel
theorem dX1_thickBefore_16 : decode cX1_thickBefore 16 = .ok (.iload_n 1, 1) := by decide +kernel
theorem dX1_thickBefore_17 : decode cX1_thickBefore 17 = .ok (.iload 5, 2) := by decide +kernel
theorem dX1_thickBefore_19 : decode cX1_thickBefore 19 = .ok (.invokevirtual 79, 3) := by decide +kernel
theorem dX1_thickBefore_22 : decode cX1_thickBefore 22 = .ok (.istore 6, 2) := by decide +kernel
theorem dX1_thickBefore_24 : decode cX1_thickBefore 24 = .ok (.aload_n 0, 1) := by decide +kernel
theorem dX1_thickBefore_25 : decode cX1_thickBefore 25 = .ok (.getfield 33, 3) := by decide +kernel
theorem dX1_thickBefore_28 : decode cX1_thickBefore 28 = .ok (.iload 6, 2) := by decide +kernel
theorem dX1_thickBefore_30 : decode cX1_thickBefore 30 = .ok (.iload_n 3, 1) := by decide +kernel
theorem dX1_thickBefore_31 : decode cX1_thickBefore 31 = .ok (.invokevirtual 105, 3) := by decide +kernel
theorem dX1_thickBefore_34 : decode cX1_thickBefore 34 = .ok (.ifCond .eq 18, 3) := by decide +kernel
theorem dX1_thickBefore_37 : decode cX1_thickBefore 37 = .ok (.iload 4, 2) := by decide +kernel
theorem dX1_thickBefore_39 : decode cX1_thickBefore 39 = .ok (.aload_n 0, 1) := by decide +kernel
theorem dX1_thickBefore_40 : decode cX1_thickBefore 40 = .ok (.getfield 33, 3) := by decide +kernel
theorem dX1_thickBefore_43 : decode cX1_thickBefore 43 = .ok (.iload 6, 2) := by decide +kernel
theorem dX1_thickBefore_45 : decode cX1_thickBefore 45 = .ok (.iconst 2, 1) := by decide +kernel
theorem dX1_thickBefore_46 : decode cX1_thickBefore 46 = .ok (.invokevirtual 82, 3) := by decide +kernel
theorem dX1_thickBefore_49 : decode cX1_thickBefore 49 = .ok (.iadd, 1) := by decide +kernel
theorem dX1_thickBefore_50 : decode cX1_thickBefore 50 = .ok (.istore 4, 2) := by decide +kernel
theorem dX1_thickBefore_52 : decode cX1_thickBefore 52 = .ok (.iinc 5 1, 3) := by decide +kernel
theorem dX1_thickBefore_55 : decode cX1_thickBefore 55 = .ok (.goto (-49), 3) := by decide +kernel
theorem dX1_thickBefore_58 : decode cX1_thickBefore 58 = .ok (.iload 4, 2) := by decide +kernel
theorem dX1_thickBefore_60 : decode cX1_thickBefore 60 = .ok (.ireturn, 1) := by decide +kernel
theorem dX1_prepareWanted_0 : decode cX1_prepareWanted 0 = .ok (.aload_n 0, 1) := by decide +kernel
theorem dX1_prepareWanted_1 : decode cX1_prepareWanted 1 = .ok (.getfield 37, 3) := by decide +kernel
theorem dX1_prepareWanted_4 : decode cX1_prepareWanted 4 = .ok (.iload_n 2, 1) := by decide +kernel
theorem dX1_prepareWanted_5 : decode cX1_prepareWanted 5 = .ok (.iload_n 3, 1) := by decide +kernel
theorem dX1_prepareWanted_6 : decode cX1_prepareWanted 6 = .ok (.invokevirtual 79, 3) := by decide +kernel
theorem dX1_prepareWanted_9 : decode cX1_prepareWanted 9 = .ok (.istore 4, 2) := by decide +kernel
theorem dX1_prepareWanted_11 : decode cX1_prepareWanted 11 = .ok (.aload_n 0, 1) := by decide +kernel
theorem dX1_prepareWanted_12 : decode cX1_prepareWanted 12 = .ok (.getfield 30, 3) := by decide +kernel
theorem dX1_prepareWanted_15 : decode cX1_prepareWanted 15 = .ok (.iload_n 3, 1) := by decide +kernel
theorem dX1_prepareWanted_16 : decode cX1_prepareWanted 16 = .ok (.aload_n 0, 1) := by decide +kernel
theorem dX1_prepareWanted_17 : decode cX1_prepareWanted 17 = .ok (.getfield 33, 3) := by decide +kernel
theorem dX1_prepareWanted_20 : decode cX1_prepareWanted 20 = .ok (.iload 4, 2) := by decide +kernel
theorem dX1_prepareWanted_22 : decode cX1_prepareWanted 22 = .ok (.iconst 3, 1) := by decide +kernel
theorem dX1_prepareWanted_23 : decode cX1_prepareWanted 23 = .ok (.invokevirtual 82, 3) := by decide +kernel
theorem dX1_prepareWanted_26 : decode cX1_prepareWanted 26 = .ok (.iastore, 1) := by decide +kernel
theorem dX1_prepareWanted_27 : decode cX1_prepareWanted 27 = .ok (.aload_n 0, 1) := by decide +kernel
theorem dX1_prepareWanted_28 : decode cX1_prepareWanted 28 = .ok (.getfield 15, 3) := by decide +kernel
theorem dX1_prepareWanted_31 : decode cX1_prepareWanted 31 = .ok (.iload_n 3, 1) := by decide +kernel
theorem dX1_prepareWanted_32 : decode cX1_prepareWanted 32 = .ok (.aload_n 0, 1) := by decide +kernel
theorem dX1_prepareWanted_33 : decode cX1_prepareWanted 33 = .ok (.getfield 37, 3) := by decide +kernel
theorem dX1_prepareWanted_36 : decode cX1_prepareWanted 36 = .ok (.iload_n 1, 1) := by decide +kernel
theorem dX1_prepareWanted_37 : decode cX1_prepareWanted 37 = .ok (.iload 4, 2) := by decide +kernel
theorem dX1_prepareWanted_39 : decode cX1_prepareWanted 39 = .ok (.invokevirtual 87, 3) := by decide +kernel
theorem dX1_prepareWanted_42 : decode cX1_prepareWanted 42 = .ok (.iastore, 1) := by decide +kernel
theorem dX1_prepareWanted_43 : decode cX1_prepareWanted 43 = .ok (.aload_n 0, 1) := by decide +kernel
theorem dX1_prepareWanted_44 : decode cX1_prepareWanted 44 = .ok (.getfield 21, 3) := by decide +kernel
theorem dX1_prepareWanted_47 : decode cX1_prepareWanted 47 = .ok (.iload_n 3, 1) := by decide +kernel
theorem dX1_prepareWanted_48 : decode cX1_prepareWanted 48 = .ok (.aload_n 0, 1) := by decide +kernel
theorem dX1_prepareWanted_49 : decode cX1_prepareWanted 49 = .ok (.iload_n 2, 1) := by decide +kernel
theorem dX1_prepareWanted_50 : decode cX1_prepareWanted 50 = .ok (.iload_n 3, 1) := by decide +kernel
theorem dX1_prepareWanted_51 : decode cX1_prepareWanted 51 = .ok (.invokevirtual 90, 3) := by decide +kernel
theorem dX1_prepareWanted_54 : decode cX1_prepareWanted 54 = .ok (.iastore, 1) := by decide +kernel
theorem dX1_prepareWanted_55 : decode cX1_prepareWanted 55 = .ok (.aload_n 0, 1) := by decide +kernel
theorem dX1_prepareWanted_56 : decode cX1_prepareWanted 56 = .ok (.getfield 24, 3) := by decide +kernel
theorem dX1_prepareWanted_59 : decode cX1_prepareWanted 59 = .ok (.iload_n 3, 1) := by decide +kernel
theorem dX1_prepareWanted_60 : decode cX1_prepareWanted 60 = .ok (.aload_n 0, 1) := by decide +kernel
theorem dX1_prepareWanted_61 : decode cX1_prepareWanted 61 = .ok (.iload_n 1, 1) := by decide +kernel
theorem dX1_prepareWanted_62 : decode cX1_prepareWanted 62 = .ok (.aload_n 0, 1) := by decide +kernel
theorem dX1_prepareWanted_63 : decode cX1_prepareWanted 63 = .ok (.getfield 53, 3) := by decide +kernel
theorem dX1_prepareWanted_66 : decode cX1_prepareWanted 66 = .ok (.iload 4, 2) := by decide +kernel
theorem dX1_prepareWanted_68 : decode cX1_prepareWanted 68 = .ok (.invokevirtual 101, 3) := by decide +kernel
theorem dX1_prepareWanted_71 : decode cX1_prepareWanted 71 = .ok (.aload_n 0, 1) := by decide +kernel
theorem dX1_prepareWanted_72 : decode cX1_prepareWanted 72 = .ok (.iload_n 2, 1) := by decide +kernel
theorem dX1_prepareWanted_73 : decode cX1_prepareWanted 73 = .ok (.iload_n 3, 1) := by decide +kernel
theorem dX1_prepareWanted_74 : decode cX1_prepareWanted 74 = .ok (.iload 4, 2) := by decide +kernel
theorem dX1_prepareWanted_76 : decode cX1_prepareWanted 76 = .ok (.invokevirtual 101, 3) := by decide +kernel
theorem dX1_prepareWanted_79 : decode cX1_prepareWanted 79 = .ok (.iadd, 1) := by decide +kernel
theorem dX1_prepareWanted_80 : decode cX1_prepareWanted 80 = .ok (.aload_n 0, 1) := by decide +kernel
theorem dX1_prepareWanted_81 : decode cX1_prepareWanted 81 = .ok (.getfield 33, 3) := by decide +kernel
theorem dX1_prepareWanted_84 : decode cX1_prepareWanted 84 = .ok (.iload 4, 2) := by decide +kernel
theorem dX1_prepareWanted_86 : decode cX1_prepareWanted 86 = .ok (.iconst 2, 1) := by decide +kernel
theorem dX1_prepareWanted_87 : decode cX1_prepareWanted 87 = .ok (.invokevirtual 82, 3) := by decide +kernel
theorem dX1_prepareWanted_90 : decode cX1_prepareWanted 90 = .ok (.iadd, 1) := by decide +kernel
theorem dX1_prepareWanted_91 : decode cX1_prepareWanted 91 = .ok (.iastore, 1) := by decide +kernel
theorem dX1_prepareWanted_92 : decode cX1_prepareWanted 92 = .ok (.return_, 1) := by decide +kernel
theorem dX1_prepare_0 : decode cX1_prepare 0 = .ok (.aload_n 0, 1) := by decide +kernel
theorem dX1_prepare_1 : decode cX1_prepare 1 = .ok (.bipush 8, 2) := by decide +kernel
theorem dX1_prepare_3 : decode cX1_prepare 3 = .ok (.aload_n 0, 1) := by decide +kernel
theorem dX1_prepare_4 : decode cX1_prepare 4 = .ok (.getfield 37, 3) := by decide +kernel
theorem dX1_prepare_7 : decode cX1_prepare 7 = .ok (.iload_n 1, 1) := by decide +kernel
theorem dX1_prepare_8 : decode cX1_prepare 8 = .ok (.invokevirtual 41, 3) := by decide +kernel
theorem dX1_prepare_11 : decode cX1_prepare 11 = .ok (.invokestatic 47, 3) := by decide +kernel
theorem dX1_prepare_14 : decode cX1_prepare 14 = .ok (.putfield 53, 3) := by decide +kernel
theorem dX1_prepare_17 : decode cX1_prepare 17 = .ok (.aload_n 0, 1) := by decide +kernel
theorem dX1_prepare_18 : decode cX1_prepare 18 = .ok (.bipush 8, 2) := by decide +kernel
theorem dX1_prepare_20 : decode cX1_prepare 20 = .ok (.aload_n 0, 1) := by decide +kernel
theorem dX1_prepare_21 : decode cX1_prepare 21 = .ok (.getfield 37, 3) := by decide +kernel
theorem dX1_prepare_24 : decode cX1_prepare 24 = .ok (.iload_n 2, 1) := by decide +kernel
theorem dX1_prepare_25 : decode cX1_prepare 25 = .ok (.invokevirtual 41, 3) := by decide +kernel
theorem dX1_prepare_28 : decode cX1_prepare 28 = .ok (.invokestatic 47, 3) := by decide +kernel
theorem dX1_prepare_31 : decode cX1_prepare 31 = .ok (.putfield 57, 3) := by decide +kernel
theorem dX1_prepare_34 : decode cX1_prepare 34 = .ok (.aload_n 0, 1) := by decide +kernel
theorem dX1_prepare_35 : decode cX1_prepare 35 = .ok (.aload_n 0, 1) := by decide +kernel
theorem dX1_prepare_36 : decode cX1_prepare 36 = .ok (.iload_n 1, 1) := by decide +kernel
theorem dX1_prepare_37 : decode cX1_prepare 37 = .ok (.invokevirtual 60, 3) := by decide +kernel
theorem dX1_prepare_40 : decode cX1_prepare 40 = .ok (.putfield 63, 3) := by decide +kernel
theorem dX1_prepare_43 : decode cX1_prepare 43 = .ok (.aload_n 0, 1) := by decide +kernel
theorem dX1_prepare_44 : decode cX1_prepare 44 = .ok (.aload_n 0, 1) := by decide +kernel
theorem dX1_prepare_45 : decode cX1_prepare 45 = .ok (.iload_n 2, 1) := by decide +kernel
theorem dX1_prepare_46 : decode cX1_prepare 46 = .ok (.invokevirtual 60, 3) := by decide +kernel
theorem dX1_prepare_49 : decode cX1_prepare 49 = .ok (.putfield 66, 3) := by decide +kernel
theorem dX1_prepare_52 : decode cX1_prepare 52 = .ok (.aload_n 0, 1) := by decide +kernel
theorem dX1_prepare_53 : decode cX1_prepare 53 = .ok (.iconst 0, 1) := by decide +kernel
theorem dX1_prepare_54 : decode cX1_prepare 54 = .ok (.putfield 69, 3) := by decide +kernel
theorem dX1_prepare_57 : decode cX1_prepare 57 = .ok (.iconst 0, 1) := by decide +kernel
theorem dX1_prepare_58 : decode cX1_prepare 58 = .ok (.istore_n 3, 1) := by decide +kernel
theorem dX1_prepare_59 : decode cX1_prepare 59 = .ok (.iload_n 3, 1) := by decide +kernel
theorem dX1_prepare_60 : decode cX1_prepare 60 = .ok (.aload_n 0, 1) := by decide +kernel
theorem dX1_prepare_61 : decode cX1_prepare 61 = .ok (.getfield 53, 3) := by decide +kernel
theorem dX1_prepare_64 : decode cX1_prepare 64 = .ok (.if_icmp .ge 16, 3) := by decide +kernel
theorem dX1_prepare_67 : decode cX1_prepare 67 = .ok (.aload_n 0, 1) := by decide +kernel
theorem dX1_prepare_68 : decode cX1_prepare 68 = .ok (.iload_n 1, 1) := by decide +kernel
theorem dX1_prepare_69 : decode cX1_prepare 69 = .ok (.iload_n 2, 1) := by decide +kernel
theorem dX1_prepare_70 : decode cX1_prepare 70 = .ok (.iload_n 3, 1) := by decide +kernel
theorem dX1_prepare_71 : decode cX1_prepare 71 = .ok (.invokevirtual 72, 3) := by decide +kernel
theorem dX1_prepare_74 : decode cX1_prepare 74 = .ok (.iinc 3 1, 3) := by decide +kernel
theorem dX1_prepare_77 : decode cX1_prepare 77 = .ok (.goto (-18), 3) := by decide +kernel
theorem dX1_prepare_80 : decode cX1_prepare 80 = .ok (.iconst 0, 1) := by decide +kernel
theorem dX1_prepare_81 : decode cX1_prepare 81 = .ok (.istore_n 3, 1) := by decide +kernel
theorem dX1_prepare_82 : decode cX1_prepare 82 = .ok (.iload_n 3, 1) := by decide +kernel
theorem dX1_prepare_83 : decode cX1_prepare 83 = .ok (.aload_n 0, 1) := by decide +kernel
theorem dX1_prepare_84 : decode cX1_prepare 84 = .ok (.getfield 57, 3) := by decide +kernel
theorem dX1_prepare_87 : decode cX1_prepare 87 = .ok (.if_icmp .ge 16, 3) := by decide +kernel
theorem dX1_prepare_90 : decode cX1_prepare 90 = .ok (.aload_n 0, 1) := by decide +kernel
theorem dX1_prepare_91 : decode cX1_prepare 91 = .ok (.iload_n 1, 1) := by decide +kernel
theorem dX1_prepare_92 : decode cX1_prepare 92 = .ok (.iload_n 2, 1) := by decide +kernel
theorem dX1_prepare_93 : decode cX1_prepare 93 = .ok (.iload_n 3, 1) := by decide +kernel
theorem dX1_prepare_94 : decode cX1_prepare 94 = .ok (.invokevirtual 76, 3) := by decide +kernel
theorem dX1_prepare_97 : decode cX1_prepare 97 = .ok (.iinc 3 1, 3) := by decide +kernel
theorem dX1_prepare_100 : decode cX1_prepare 100 = .ok (.goto (-18), 3) := by decide +kernel
theorem dX1_prepare_103 : decode cX1_prepare 103 = .ok (.return_, 1) := by decide +kernel
theorem dX1_mayLieBeneath_0 : decode cX1_mayLieBeneath 0 = .ok (.iconst 0, 1) := by decide +kernel
theorem dX1_mayLieBeneath_1 : decode cX1_mayLieBeneath 1 = .ok (.istore_n 3, 1) := by decide +kernel
theorem dX1_mayLieBeneath_2 : decode cX1_mayLieBeneath 2 = .ok (.iload_n 3, 1) := by decide +kernel
theorem dX1_mayLieBeneath_3 : decode cX1_mayLieBeneath 3 = .ok (.aload_n 0, 1) := by decide +kernel
theorem dX1_mayLieBeneath_4 : decode cX1_mayLieBeneath 4 = .ok (.getfield 57, 3) := by decide +kernel
theorem dX1_mayLieBeneath_7 : decode cX1_mayLieBeneath 7 = .ok (.if_icmp .ge 51, 3) := by decide +kernel
theorem dX1_mayLieBeneath_10 : decode cX1_mayLieBeneath 10 = .ok (.iload_n 1, 1) := by decide +kernel
theorem dX1_mayLieBeneath_11 : decode cX1_mayLieBeneath 11 = .ok (.iload_n 3, 1) := by decide +kernel
theorem dX1_mayLieBeneath_12 : decode cX1_mayLieBeneath 12 = .ok (.invokestatic 97, 3) := by decide +kernel
theorem dX1_mayLieBeneath_15 : decode cX1_mayLieBeneath 15 = .ok (.ifCond .eq 37, 3) := by decide +kernel
theorem dX1_mayLieBeneath_18 : decode cX1_mayLieBeneath 18 = .ok (.aload_n 0, 1) := by decide +kernel
theorem dX1_mayLieBeneath_19 : decode cX1_mayLieBeneath 19 = .ok (.getfield 15, 3) := by decide +kernel
theorem dX1_mayLieBeneath_22 : decode cX1_mayLieBeneath 22 = .ok (.iload_n 3, 1) := by decide +kernel
theorem dX1_mayLieBeneath_23 : decode cX1_mayLieBeneath 23 = .ok (.iaload, 1) := by decide +kernel
theorem dX1_mayLieBeneath_24 : decode cX1_mayLieBeneath 24 = .ok (.ifCond .ge 26, 3) := by decide +kernel
theorem dX1_mayLieBeneath_27 : decode cX1_mayLieBeneath 27 = .ok (.aload_n 0, 1) := by decide +kernel
theorem dX1_mayLieBeneath_28 : decode cX1_mayLieBeneath 28 = .ok (.getfield 21, 3) := by decide +kernel
theorem dX1_mayLieBeneath_31 : decode cX1_mayLieBeneath 31 = .ok (.iload_n 3, 1) := by decide +kernel
theorem dX1_mayLieBeneath_32 : decode cX1_mayLieBeneath 32 = .ok (.iaload, 1) := by decide +kernel
theorem dX1_mayLieBeneath_33 : decode cX1_mayLieBeneath 33 = .ok (.iload_n 1, 1) := by decide +kernel
theorem dX1_mayLieBeneath_34 : decode cX1_mayLieBeneath 34 = .ok (.iconst (-1), 1) := by decide +kernel
theorem dX1_mayLieBeneath_35 : decode cX1_mayLieBeneath 35 = .ok (.ixor, 1) := by decide +kernel
theorem dX1_mayLieBeneath_36 : decode cX1_mayLieBeneath 36 = .ok (.iand, 1) := by decide +kernel
theorem dX1_mayLieBeneath_37 : decode cX1_mayLieBeneath 37 = .ok (.ifCond .ne 13, 3) := by decide +kernel
theorem dX1_mayLieBeneath_40 : decode cX1_mayLieBeneath 40 = .ok (.aload_n 0, 1) := by decide +kernel
theorem dX1_mayLieBeneath_41 : decode cX1_mayLieBeneath 41 = .ok (.getfield 24, 3) := by decide +kernel
theorem dX1_mayLieBeneath_44 : decode cX1_mayLieBeneath 44 = .ok (.iload_n 3, 1) := by decide +kernel
theorem dX1_mayLieBeneath_45 : decode cX1_mayLieBeneath 45 = .ok (.iaload, 1) := by decide +kernel
theorem dX1_mayLieBeneath_46 : decode cX1_mayLieBeneath 46 = .ok (.iload_n 2, 1) := by decide +kernel
theorem dX1_mayLieBeneath_47 : decode cX1_mayLieBeneath 47 = .ok (.if_icmp .le 5, 3) := by decide +kernel
theorem dX1_mayLieBeneath_50 : decode cX1_mayLieBeneath 50 = .ok (.iconst 0, 1) := by decide +kernel
theorem dX1_mayLieBeneath_51 : decode cX1_mayLieBeneath 51 = .ok (.ireturn, 1) := by decide +kernel
theorem dX1_mayLieBeneath_52 : decode cX1_mayLieBeneath 52 = .ok (.iinc 3 1, 3) := by decide +kernel
theorem dX1_mayLieBeneath_55 : decode cX1_mayLieBeneath 55 = .ok (.goto (-53), 3) := by decide +kernel
theorem dX1_mayLieBeneath_58 : decode cX1_mayLieBeneath 58 = .ok (.iconst 1, 1) := by decide +kernel
theorem dX1_mayLieBeneath_59 : decode cX1_mayLieBeneath 59 = .ok (.ireturn, 1) := by decide +kernel
theorem dX6_isAllowed_0 : decode cX6_isAllowed 0 = .ok (.aload_n 0, 1) := by decide +kernel
theorem dX6_isAllowed_1 : decode cX6_isAllowed 1 = .ok (.getfield 28, 3) := by decide +kernel
theorem dX6_isAllowed_4 : decode cX6_isAllowed 4 = .ok (.iload_n 1, 1) := by decide +kernel
theorem dX6_isAllowed_5 : decode cX6_isAllowed 5 = .ok (.iload_n 2, 1) := by decide +kernel
theorem dX6_isAllowed_6 : decode cX6_isAllowed 6 = .ok (.invokevirtual 249, 3) := by decide +kernel
theorem dX6_isAllowed_9 : decode cX6_isAllowed 9 = .ok (.aload_n 0, 1) := by decide +kernel
theorem dX6_isAllowed_10 : decode cX6_isAllowed 10 = .ok (.getfield 28, 3) := by decide +kernel
theorem dX6_isAllowed_13 : decode cX6_isAllowed 13 = .ok (.iload_n 3, 1) := by decide +kernel
theorem dX6_isAllowed_14 : decode cX6_isAllowed 14 = .ok (.aload_n 0, 1) := by decide +kernel
theorem dX6_isAllowed_15 : decode cX6_isAllowed 15 = .ok (.getfield 64, 3) := by decide +kernel
theorem dX6_isAllowed_18 : decode cX6_isAllowed 18 = .ok (.invokevirtual 253, 3) := by decide +kernel
theorem dX6_isAllowed_21 : decode cX6_isAllowed 21 = .ok (.ireturn, 1) := by decide +kernel
theorem dX6_allowed_0 : decode cX6_allowed 0 = .ok (.aload_n 0, 1) := by decide +kernel
theorem dX6_allowed_1 : decode cX6_allowed 1 = .ok (.iload_n 1, 1) := by decide +kernel
theorem dX6_allowed_2 : decode cX6_allowed 2 = .ok (.iload_n 2, 1) := by decide +kernel
theorem dX6_allowed_3 : decode cX6_allowed 3 = .ok (.iload_n 3, 1) := by decide +kernel
theorem dX6_allowed_4 : decode cX6_allowed 4 = .ok (.invokevirtual 111, 3) := by decide +kernel
theorem dX6_allowed_7 : decode cX6_allowed 7 = .ok (.ifCond .ne 9, 3) := by decide +kernel
theorem dX6_allowed_10 : decode cX6_allowed 10 = .ok (.aload_n 0, 1) := by decide +kernel
theorem dX6_allowed_11 : decode cX6_allowed 11 = .ok (.iconst 1, 1) := by decide +kernel
theorem dX6_allowed_12 : decode cX6_allowed 12 = .ok (.invokevirtual 72, 3) := by decide +kernel
theorem dX6_allowed_15 : decode cX6_allowed 15 = .ok (.ireturn, 1) := by decide +kernel
theorem dX6_allowed_16 : decode cX6_allowed 16 = .ok (.aload_n 0, 1) := by decide +kernel
theorem dX6_allowed_17 : decode cX6_allowed 17 = .ok (.iload_n 1, 1) := by decide +kernel
theorem dX6_allowed_18 : decode cX6_allowed 18 = .ok (.iload_n 2, 1) := by decide +kernel
theorem dX6_allowed_19 : decode cX6_allowed 19 = .ok (.iload_n 3, 1) := by decide +kernel
theorem dX6_allowed_20 : decode cX6_allowed 20 = .ok (.invokevirtual 114, 3) := by decide +kernel
theorem dX6_allowed_23 : decode cX6_allowed 23 = .ok (.ifCond .eq 7, 3) := by decide +kernel
theorem dX6_allowed_26 : decode cX6_allowed 26 = .ok (.iconst 1, 1) := by decide +kernel
theorem dX6_allowed_27 : decode cX6_allowed 27 = .ok (.goto 4, 3) := by decide +kernel
theorem dX6_allowed_30 : decode cX6_allowed 30 = .ok (.iconst 0, 1) := by decide +kernel
theorem dX6_allowed_31 : decode cX6_allowed 31 = .ok (.ireturn, 1) := by decide +kernel
theorem dX7_isChange_0 : decode cX7_isChange 0 = .ok (.iload_n 1, 1) := by decide +kernel
theorem dX7_isChange_1 : decode cX7_isChange 1 = .ok (.invokestatic 112, 3) := by decide +kernel
theorem dX7_isChange_4 : decode cX7_isChange 4 = .ok (.ifCond .eq 30, 3) := by decide +kernel
theorem dX7_isChange_7 : decode cX7_isChange 7 = .ok (.iload_n 2, 1) := by decide +kernel
theorem dX7_isChange_8 : decode cX7_isChange 8 = .ok (.invokestatic 112, 3) := by decide +kernel
theorem dX7_isChange_11 : decode cX7_isChange 11 = .ok (.ifCond .eq 23, 3) := by decide +kernel
theorem dX7_isChange_14 : decode cX7_isChange 14 = .ok (.iload_n 3, 1) := by decide +kernel
theorem dX7_isChange_15 : decode cX7_isChange 15 = .ok (.ifCond .lt 19, 3) := by decide +kernel
theorem dX7_isChange_18 : decode cX7_isChange 18 = .ok (.iload_n 3, 1) := by decide +kernel
theorem dX7_isChange_19 : decode cX7_isChange 19 = .ok (.iconst 1, 1) := by decide +kernel
theorem dX7_isChange_20 : decode cX7_isChange 20 = .ok (.aload_n 0, 1) := by decide +kernel
theorem dX7_isChange_21 : decode cX7_isChange 21 = .ok (.getfield 40, 3) := by decide +kernel
theorem dX7_isChange_24 : decode cX7_isChange 24 = .ok (.iload_n 2, 1) := by decide +kernel
theorem dX7_isChange_25 : decode cX7_isChange 25 = .ok (.iaload, 1) := by decide +kernel
theorem dX7_isChange_26 : decode cX7_isChange 26 = .ok (.ishl, 1) := by decide +kernel
theorem dX7_isChange_27 : decode cX7_isChange 27 = .ok (.if_icmp .ge 7, 3) := by decide +kernel
theorem dX7_isChange_30 : decode cX7_isChange 30 = .ok (.iconst 1, 1) := by decide +kernel
theorem dX7_isChange_31 : decode cX7_isChange 31 = .ok (.goto 4, 3) := by decide +kernel
theorem dX7_isChange_34 : decode cX7_isChange 34 = .ok (.iconst 0, 1) := by decide +kernel
theorem dX7_isChange_35 : decode cX7_isChange 35 = .ok (.ireturn, 1) := by decide +kernel
theorem dX7_has_0 : decode cX7_has 0 = .ok (.iload_n 0, 1) := by decide +kernel
theorem dX7_has_1 : decode cX7_has 1 = .ok (.iload_n 1, 1) := by decide +kernel
theorem dX7_has_2 : decode cX7_has 2 = .ok (.ishr, 1) := by decide +kernel
theorem dX7_has_3 : decode cX7_has 3 = .ok (.iconst 1, 1) := by decide +kernel
theorem dX7_has_4 : decode cX7_has 4 = .ok (.iand, 1) := by decide +kernel
theorem dX7_has_5 : decode cX7_has 5 = .ok (.iconst 1, 1) := by decide +kernel
theorem dX7_has_6 : decode cX7_has 6 = .ok (.if_icmp .ne 7, 3) := by decide +kernel
theorem dX7_has_9 : decode cX7_has 9 = .ok (.iconst 1, 1) := by decide +kernel
theorem dX7_has_10 : decode cX7_has 10 = .ok (.goto 4, 3) := by decide +kernel
theorem dX7_has_13 : decode cX7_has 13 = .ok (.iconst 0, 1) := by decide +kernel
theorem dX7_has_14 : decode cX7_has 14 = .ok (.ireturn, 1) := by decide +kernel
theorem dX7_thickAt_0 : decode cX7_thickAt 0 = .ok (.iconst 0, 1) := by decide +kernel
theorem dX7_thickAt_1 : decode cX7_thickAt 1 = .ok (.istore 5, 2) := by decide +kernel
theorem dX7_thickAt_3 : decode cX7_thickAt 3 = .ok (.iconst 0, 1) := by decide +kernel
theorem dX7_thickAt_4 : decode cX7_thickAt 4 = .ok (.istore 6, 2) := by decide +kernel
theorem dX7_thickAt_6 : decode cX7_thickAt 6 = .ok (.iload 6, 2) := by decide +kernel
theorem dX7_thickAt_8 : decode cX7_thickAt 8 = .ok (.aload_n 0, 1) := by decide +kernel
theorem dX7_thickAt_9 : decode cX7_thickAt 9 = .ok (.getfield 40, 3) := by decide +kernel
theorem dX7_thickAt_12 : decode cX7_thickAt 12 = .ok (.iload_n 2, 1) := by decide +kernel
theorem dX7_thickAt_13 : decode cX7_thickAt 13 = .ok (.iaload, 1) := by decide +kernel
theorem dX7_thickAt_14 : decode cX7_thickAt 14 = .ok (.if_icmp .ge 66, 3) := by decide +kernel
theorem dX7_thickAt_17 : decode cX7_thickAt 17 = .ok (.iload 5, 2) := by decide +kernel
theorem dX7_thickAt_19 : decode cX7_thickAt 19 = .ok (.iload_n 3, 1) := by decide +kernel
theorem dX7_thickAt_20 : decode cX7_thickAt 20 = .ok (.iload 6, 2) := by decide +kernel
theorem dX7_thickAt_22 : decode cX7_thickAt 22 = .ok (.invokestatic 119, 3) := by decide +kernel
theorem dX7_thickAt_25 : decode cX7_thickAt 25 = .ok (.ifCond .eq 45, 3) := by decide +kernel
theorem dX7_thickAt_28 : decode cX7_thickAt 28 = .ok (.aload_n 0, 1) := by decide +kernel
theorem dX7_thickAt_29 : decode cX7_thickAt 29 = .ok (.getfield 13, 3) := by decide +kernel
theorem dX7_thickAt_32 : decode cX7_thickAt 32 = .ok (.aload_n 0, 1) := by decide +kernel
theorem dX7_thickAt_33 : decode cX7_thickAt 33 = .ok (.getfield 43, 3) := by decide +kernel
theorem dX7_thickAt_36 : decode cX7_thickAt 36 = .ok (.bipush 8, 2) := by decide +kernel
theorem dX7_thickAt_38 : decode cX7_thickAt 38 = .ok (.iload_n 2, 1) := by decide +kernel
theorem dX7_thickAt_39 : decode cX7_thickAt 39 = .ok (.imul, 1) := by decide +kernel
theorem dX7_thickAt_40 : decode cX7_thickAt 40 = .ok (.iload 6, 2) := by decide +kernel
theorem dX7_thickAt_42 : decode cX7_thickAt 42 = .ok (.iadd, 1) := by decide +kernel
theorem dX7_thickAt_43 : decode cX7_thickAt 43 = .ok (.iaload, 1) := by decide +kernel
theorem dX7_thickAt_44 : decode cX7_thickAt 44 = .ok (.iaload, 1) := by decide +kernel
theorem dX7_thickAt_45 : decode cX7_thickAt 45 = .ok (.iload 4, 2) := by decide +kernel
theorem dX7_thickAt_47 : decode cX7_thickAt 47 = .ok (.if_icmp .ne 23, 3) := by decide +kernel
theorem dX7_thickAt_50 : decode cX7_thickAt 50 = .ok (.aload_n 0, 1) := by decide +kernel
theorem dX7_thickAt_51 : decode cX7_thickAt 51 = .ok (.getfield 16, 3) := by decide +kernel
theorem dX7_thickAt_54 : decode cX7_thickAt 54 = .ok (.aload_n 0, 1) := by decide +kernel
theorem dX7_thickAt_55 : decode cX7_thickAt 55 = .ok (.getfield 43, 3) := by decide +kernel
theorem dX7_thickAt_58 : decode cX7_thickAt 58 = .ok (.bipush 8, 2) := by decide +kernel
theorem dX7_thickAt_60 : decode cX7_thickAt 60 = .ok (.iload_n 2, 1) := by decide +kernel
theorem dX7_thickAt_61 : decode cX7_thickAt 61 = .ok (.imul, 1) := by decide +kernel
theorem dX7_thickAt_62 : decode cX7_thickAt 62 = .ok (.iload 6, 2) := by decide +kernel
theorem dX7_thickAt_64 : decode cX7_thickAt 64 = .ok (.iadd, 1) := by decide +kernel
theorem dX7_thickAt_65 : decode cX7_thickAt 65 = .ok (.iaload, 1) := by decide +kernel
theorem dX7_thickAt_66 : decode cX7_thickAt 66 = .ok (.iaload, 1) := by decide +kernel
theorem dX7_thickAt_67 : decode cX7_thickAt 67 = .ok (.goto 4, 3) := by decide +kernel
theorem dX7_thickAt_70 : decode cX7_thickAt 70 = .ok (.iconst 0, 1) := by decide +kernel
theorem dX7_thickAt_71 : decode cX7_thickAt 71 = .ok (.iadd, 1) := by decide +kernel
theorem dX7_thickAt_72 : decode cX7_thickAt 72 = .ok (.istore 5, 2) := by decide +kernel
theorem dX7_thickAt_74 : decode cX7_thickAt 74 = .ok (.iinc 6 1, 3) := by decide +kernel
theorem dX7_thickAt_77 : decode cX7_thickAt 77 = .ok (.goto (-71), 3) := by decide +kernel
theorem dX7_thickAt_80 : decode cX7_thickAt 80 = .ok (.iconst 0, 1) := by decide +kernel
theorem dX7_thickAt_81 : decode cX7_thickAt 81 = .ok (.istore 6, 2) := by decide +kernel
theorem dX7_thickAt_83 : decode cX7_thickAt 83 = .ok (.iload 6, 2) := by decide +kernel
theorem dX7_thickAt_85 : decode cX7_thickAt 85 = .ok (.aload_n 0, 1) := by decide +kernel
theorem dX7_thickAt_86 : decode cX7_thickAt 86 = .ok (.getfield 40, 3) := by decide +kernel
theorem dX7_thickAt_89 : decode cX7_thickAt 89 = .ok (.iload_n 1, 1) := by decide +kernel
theorem dX7_thickAt_90 : decode cX7_thickAt 90 = .ok (.iaload, 1) := by decide +kernel
theorem dX7_thickAt_91 : decode cX7_thickAt 91 = .ok (.if_icmp .ge 57, 3) := by decide +kernel
theorem dX7_thickAt_94 : decode cX7_thickAt 94 = .ok (.iload 5, 2) := by decide +kernel
theorem dX7_thickAt_96 : decode cX7_thickAt 96 = .ok (.aload_n 0, 1) := by decide +kernel
theorem dX7_thickAt_97 : decode cX7_thickAt 97 = .ok (.getfield 13, 3) := by decide +kernel
theorem dX7_thickAt_100 : decode cX7_thickAt 100 = .ok (.aload_n 0, 1) := by decide +kernel
theorem dX7_thickAt_101 : decode cX7_thickAt 101 = .ok (.getfield 43, 3) := by decide +kernel
theorem dX7_thickAt_104 : decode cX7_thickAt 104 = .ok (.bipush 8, 2) := by decide +kernel
theorem dX7_thickAt_106 : decode cX7_thickAt 106 = .ok (.iload_n 1, 1) := by decide +kernel
theorem dX7_thickAt_107 : decode cX7_thickAt 107 = .ok (.imul, 1) := by decide +kernel
theorem dX7_thickAt_108 : decode cX7_thickAt 108 = .ok (.iload 6, 2) := by decide +kernel
theorem dX7_thickAt_110 : decode cX7_thickAt 110 = .ok (.iadd, 1) := by decide +kernel
theorem dX7_thickAt_111 : decode cX7_thickAt 111 = .ok (.iaload, 1) := by decide +kernel
theorem dX7_thickAt_112 : decode cX7_thickAt 112 = .ok (.iaload, 1) := by decide +kernel
theorem dX7_thickAt_113 : decode cX7_thickAt 113 = .ok (.iload 4, 2) := by decide +kernel
theorem dX7_thickAt_115 : decode cX7_thickAt 115 = .ok (.if_icmp .ne 23, 3) := by decide +kernel
theorem dX7_thickAt_118 : decode cX7_thickAt 118 = .ok (.aload_n 0, 1) := by decide +kernel
theorem dX7_thickAt_119 : decode cX7_thickAt 119 = .ok (.getfield 16, 3) := by decide +kernel
theorem dX7_thickAt_122 : decode cX7_thickAt 122 = .ok (.aload_n 0, 1) := by decide +kernel
theorem dX7_thickAt_123 : decode cX7_thickAt 123 = .ok (.getfield 43, 3) := by decide +kernel
theorem dX7_thickAt_126 : decode cX7_thickAt 126 = .ok (.bipush 8, 2) := by decide +kernel
theorem dX7_thickAt_128 : decode cX7_thickAt 128 = .ok (.iload_n 1, 1) := by decide +kernel
theorem dX7_thickAt_129 : decode cX7_thickAt 129 = .ok (.imul, 1) := by decide +kernel
theorem dX7_thickAt_130 : decode cX7_thickAt 130 = .ok (.iload 6, 2) := by decide +kernel
theorem dX7_thickAt_132 : decode cX7_thickAt 132 = .ok (.iadd, 1) := by decide +kernel
theorem dX7_thickAt_133 : decode cX7_thickAt 133 = .ok (.iaload, 1) := by decide +kernel
theorem dX7_thickAt_134 : decode cX7_thickAt 134 = .ok (.iaload, 1) := by decide +kernel
theorem dX7_thickAt_135 : decode cX7_thickAt 135 = .ok (.goto 4, 3) := by decide +kernel
theorem dX7_thickAt_138 : decode cX7_thickAt 138 = .ok (.iconst 0, 1) := by decide +kernel
theorem dX7_thickAt_139 : decode cX7_thickAt 139 = .ok (.iadd, 1) := by decide +kernel
theorem dX7_thickAt_140 : decode cX7_thickAt 140 = .ok (.istore 5, 2) := by decide +kernel
theorem dX7_thickAt_142 : decode cX7_thickAt 142 = .ok (.iinc 6 1, 3) := by decide +kernel
theorem dX7_thickAt_145 : decode cX7_thickAt 145 = .ok (.goto (-62), 3) := by decide +kernel
theorem dX7_thickAt_148 : decode cX7_thickAt 148 = .ok (.iload 5, 2) := by decide +kernel
theorem dX7_thickAt_150 : decode cX7_thickAt 150 = .ok (.ireturn, 1) := by decide +kernel
theorem dX7_isAllowed_0 : decode cX7_isAllowed 0 = .ok (.iconst 1, 1) := by decide +kernel
theorem dX7_isAllowed_1 : decode cX7_isAllowed 1 = .ok (.istore 4, 2) := by decide +kernel
theorem dX7_isAllowed_3 : decode cX7_isAllowed 3 = .ok (.iconst 0, 1) := by decide +kernel
theorem dX7_isAllowed_4 : decode cX7_isAllowed 4 = .ok (.istore 5, 2) := by decide +kernel
theorem dX7_isAllowed_6 : decode cX7_isAllowed 6 = .ok (.iload 5, 2) := by decide +kernel
theorem dX7_isAllowed_8 : decode cX7_isAllowed 8 = .ok (.aload_n 0, 1) := by decide +kernel
theorem dX7_isAllowed_9 : decode cX7_isAllowed 9 = .ok (.getfield 40, 3) := by decide +kernel
theorem dX7_isAllowed_12 : decode cX7_isAllowed 12 = .ok (.iload_n 2, 1) := by decide +kernel
theorem dX7_isAllowed_13 : decode cX7_isAllowed 13 = .ok (.iaload, 1) := by decide +kernel
theorem dX7_isAllowed_14 : decode cX7_isAllowed 14 = .ok (.if_icmp .ge 204, 3) := by decide +kernel
theorem dX7_isAllowed_17 : decode cX7_isAllowed 17 = .ok (.aload_n 0, 1) := by decide +kernel
theorem dX7_isAllowed_18 : decode cX7_isAllowed 18 = .ok (.getfield 43, 3) := by decide +kernel
theorem dX7_isAllowed_21 : decode cX7_isAllowed 21 = .ok (.bipush 8, 2) := by decide +kernel
theorem dX7_isAllowed_23 : decode cX7_isAllowed 23 = .ok (.iload_n 2, 1) := by decide +kernel
theorem dX7_isAllowed_24 : decode cX7_isAllowed 24 = .ok (.imul, 1) := by decide +kernel
theorem dX7_isAllowed_25 : decode cX7_isAllowed 25 = .ok (.iload 5, 2) := by decide +kernel
theorem dX7_isAllowed_27 : decode cX7_isAllowed 27 = .ok (.iadd, 1) := by decide +kernel
theorem dX7_isAllowed_28 : decode cX7_isAllowed 28 = .ok (.iaload, 1) := by decide +kernel
theorem dX7_isAllowed_29 : decode cX7_isAllowed 29 = .ok (.istore 6, 2) := by decide +kernel
theorem dX7_isAllowed_31 : decode cX7_isAllowed 31 = .ok (.iload_n 3, 1) := by decide +kernel
theorem dX7_isAllowed_32 : decode cX7_isAllowed 32 = .ok (.iload 5, 2) := by decide +kernel
theorem dX7_isAllowed_34 : decode cX7_isAllowed 34 = .ok (.invokestatic 119, 3) := by decide +kernel
theorem dX7_isAllowed_37 : decode cX7_isAllowed 37 = .ok (.ifCond .eq 175, 3) := by decide +kernel
theorem dX7_isAllowed_40 : decode cX7_isAllowed 40 = .ok (.iload 4, 2) := by decide +kernel
theorem dX7_isAllowed_42 : decode cX7_isAllowed 42 = .ok (.aload_n 0, 1) := by decide +kernel
theorem dX7_isAllowed_43 : decode cX7_isAllowed 43 = .ok (.iload_n 1, 1) := by decide +kernel
theorem dX7_isAllowed_44 : decode cX7_isAllowed 44 = .ok (.iload 6, 2) := by decide +kernel
theorem dX7_isAllowed_46 : decode cX7_isAllowed 46 = .ok (.invokevirtual 115, 3) := by decide +kernel
theorem dX7_isAllowed_49 : decode cX7_isAllowed 49 = .ok (.ifCond .ge 7, 3) := by decide +kernel
theorem dX7_isAllowed_52 : decode cX7_isAllowed 52 = .ok (.iconst 1, 1) := by decide +kernel
theorem dX7_isAllowed_53 : decode cX7_isAllowed 53 = .ok (.goto 4, 3) := by decide +kernel
theorem dX7_isAllowed_56 : decode cX7_isAllowed 56 = .ok (.iconst 0, 1) := by decide +kernel
theorem dX7_isAllowed_57 : decode cX7_isAllowed 57 = .ok (.iand, 1) := by decide +kernel
theorem dX7_isAllowed_58 : decode cX7_isAllowed 58 = .ok (.istore 4, 2) := by decide +kernel
theorem dX7_isAllowed_60 : decode cX7_isAllowed 60 = .ok (.iconst 0, 1) := by decide +kernel
theorem dX7_isAllowed_61 : decode cX7_isAllowed 61 = .ok (.istore 7, 2) := by decide +kernel
theorem dX7_isAllowed_63 : decode cX7_isAllowed 63 = .ok (.iload 7, 2) := by decide +kernel
theorem dX7_isAllowed_65 : decode cX7_isAllowed 65 = .ok (.aload_n 0, 1) := by decide +kernel
theorem dX7_isAllowed_66 : decode cX7_isAllowed 66 = .ok (.getfield 40, 3) := by decide +kernel
theorem dX7_isAllowed_69 : decode cX7_isAllowed 69 = .ok (.iload_n 2, 1) := by decide +kernel
theorem dX7_isAllowed_70 : decode cX7_isAllowed 70 = .ok (.iaload, 1) := by decide +kernel
theorem dX7_isAllowed_71 : decode cX7_isAllowed 71 = .ok (.if_icmp .ge 110, 3) := by decide +kernel
theorem dX7_isAllowed_74 : decode cX7_isAllowed 74 = .ok (.aload_n 0, 1) := by decide +kernel
theorem dX7_isAllowed_75 : decode cX7_isAllowed 75 = .ok (.getfield 43, 3) := by decide +kernel
theorem dX7_isAllowed_78 : decode cX7_isAllowed 78 = .ok (.bipush 8, 2) := by decide +kernel
theorem dX7_isAllowed_80 : decode cX7_isAllowed 80 = .ok (.iload_n 2, 1) := by decide +kernel
theorem dX7_isAllowed_81 : decode cX7_isAllowed 81 = .ok (.imul, 1) := by decide +kernel
theorem dX7_isAllowed_82 : decode cX7_isAllowed 82 = .ok (.iload 7, 2) := by decide +kernel
theorem dX7_isAllowed_84 : decode cX7_isAllowed 84 = .ok (.iadd, 1) := by decide +kernel
theorem dX7_isAllowed_85 : decode cX7_isAllowed 85 = .ok (.iaload, 1) := by decide +kernel
theorem dX7_isAllowed_86 : decode cX7_isAllowed 86 = .ok (.istore 8, 2) := by decide +kernel
theorem dX7_isAllowed_88 : decode cX7_isAllowed 88 = .ok (.iload 4, 2) := by decide +kernel
theorem dX7_isAllowed_90 : decode cX7_isAllowed 90 = .ok (.aload_n 0, 1) := by decide +kernel
theorem dX7_isAllowed_91 : decode cX7_isAllowed 91 = .ok (.getfield 13, 3) := by decide +kernel
theorem dX7_isAllowed_94 : decode cX7_isAllowed 94 = .ok (.iload 8, 2) := by decide +kernel
theorem dX7_isAllowed_96 : decode cX7_isAllowed 96 = .ok (.iaload, 1) := by decide +kernel
theorem dX7_isAllowed_97 : decode cX7_isAllowed 97 = .ok (.aload_n 0, 1) := by decide +kernel
theorem dX7_isAllowed_98 : decode cX7_isAllowed 98 = .ok (.getfield 13, 3) := by decide +kernel
theorem dX7_isAllowed_101 : decode cX7_isAllowed 101 = .ok (.iload 6, 2) := by decide +kernel
theorem dX7_isAllowed_103 : decode cX7_isAllowed 103 = .ok (.iaload, 1) := by decide +kernel
theorem dX7_isAllowed_104 : decode cX7_isAllowed 104 = .ok (.if_icmp .ne 19, 3) := by decide +kernel
theorem dX7_isAllowed_107 : decode cX7_isAllowed 107 = .ok (.iload 7, 2) := by decide +kernel
theorem dX7_isAllowed_109 : decode cX7_isAllowed 109 = .ok (.iload 5, 2) := by decide +kernel
theorem dX7_isAllowed_111 : decode cX7_isAllowed 111 = .ok (.if_icmp .gt 12, 3) := by decide +kernel
theorem dX7_isAllowed_114 : decode cX7_isAllowed 114 = .ok (.iload_n 3, 1) := by decide +kernel
theorem dX7_isAllowed_115 : decode cX7_isAllowed 115 = .ok (.iload 7, 2) := by decide +kernel
theorem dX7_isAllowed_117 : decode cX7_isAllowed 117 = .ok (.invokestatic 119, 3) := by decide +kernel
theorem dX7_isAllowed_120 : decode cX7_isAllowed 120 = .ok (.ifCond .eq 7, 3) := by decide +kernel
theorem dX7_isAllowed_123 : decode cX7_isAllowed 123 = .ok (.iconst 1, 1) := by decide +kernel
theorem dX7_isAllowed_124 : decode cX7_isAllowed 124 = .ok (.goto 4, 3) := by decide +kernel
theorem dX7_isAllowed_127 : decode cX7_isAllowed 127 = .ok (.iconst 0, 1) := by decide +kernel
theorem dX7_isAllowed_128 : decode cX7_isAllowed 128 = .ok (.iand, 1) := by decide +kernel
theorem dX7_isAllowed_129 : decode cX7_isAllowed 129 = .ok (.istore 4, 2) := by decide +kernel
theorem dX7_isAllowed_131 : decode cX7_isAllowed 131 = .ok (.iload 4, 2) := by decide +kernel
theorem dX7_isAllowed_133 : decode cX7_isAllowed 133 = .ok (.aload_n 0, 1) := by decide +kernel
theorem dX7_isAllowed_134 : decode cX7_isAllowed 134 = .ok (.getfield 13, 3) := by decide +kernel
theorem dX7_isAllowed_137 : decode cX7_isAllowed 137 = .ok (.iload 8, 2) := by decide +kernel
theorem dX7_isAllowed_139 : decode cX7_isAllowed 139 = .ok (.iaload, 1) := by decide +kernel
theorem dX7_isAllowed_140 : decode cX7_isAllowed 140 = .ok (.aload_n 0, 1) := by decide +kernel
theorem dX7_isAllowed_141 : decode cX7_isAllowed 141 = .ok (.getfield 13, 3) := by decide +kernel
theorem dX7_isAllowed_144 : decode cX7_isAllowed 144 = .ok (.iload 6, 2) := by decide +kernel
theorem dX7_isAllowed_146 : decode cX7_isAllowed 146 = .ok (.iaload, 1) := by decide +kernel
theorem dX7_isAllowed_147 : decode cX7_isAllowed 147 = .ok (.if_icmp .ne 20, 3) := by decide +kernel
theorem dX7_isAllowed_150 : decode cX7_isAllowed 150 = .ok (.iload 7, 2) := by decide +kernel
theorem dX7_isAllowed_152 : decode cX7_isAllowed 152 = .ok (.iload 5, 2) := by decide +kernel
theorem dX7_isAllowed_154 : decode cX7_isAllowed 154 = .ok (.if_icmp .ge 13, 3) := by decide +kernel
theorem dX7_isAllowed_157 : decode cX7_isAllowed 157 = .ok (.aload_n 0, 1) := by decide +kernel
theorem dX7_isAllowed_158 : decode cX7_isAllowed 158 = .ok (.iload_n 1, 1) := by decide +kernel
theorem dX7_isAllowed_159 : decode cX7_isAllowed 159 = .ok (.iload 8, 2) := by decide +kernel
theorem dX7_isAllowed_161 : decode cX7_isAllowed 161 = .ok (.invokevirtual 115, 3) := by decide +kernel
theorem dX7_isAllowed_164 : decode cX7_isAllowed 164 = .ok (.ifCond .ge 7, 3) := by decide +kernel
theorem dX7_isAllowed_167 : decode cX7_isAllowed 167 = .ok (.iconst 1, 1) := by decide +kernel
theorem dX7_isAllowed_168 : decode cX7_isAllowed 168 = .ok (.goto 4, 3) := by decide +kernel
theorem dX7_isAllowed_171 : decode cX7_isAllowed 171 = .ok (.iconst 0, 1) := by decide +kernel
theorem dX7_isAllowed_172 : decode cX7_isAllowed 172 = .ok (.iand, 1) := by decide +kernel
theorem dX7_isAllowed_173 : decode cX7_isAllowed 173 = .ok (.istore 4, 2) := by decide +kernel
theorem dX7_isAllowed_175 : decode cX7_isAllowed 175 = .ok (.iinc 7 1, 3) := by decide +kernel
theorem dX7_isAllowed_178 : decode cX7_isAllowed 178 = .ok (.goto (-115), 3) := by decide +kernel
theorem dX7_isAllowed_181 : decode cX7_isAllowed 181 = .ok (.iload 4, 2) := by decide +kernel
theorem dX7_isAllowed_183 : decode cX7_isAllowed 183 = .ok (.aload_n 0, 1) := by decide +kernel
theorem dX7_isAllowed_184 : decode cX7_isAllowed 184 = .ok (.iload_n 1, 1) := by decide +kernel
theorem dX7_isAllowed_185 : decode cX7_isAllowed 185 = .ok (.iload_n 2, 1) := by decide +kernel
theorem dX7_isAllowed_186 : decode cX7_isAllowed 186 = .ok (.iload_n 3, 1) := by decide +kernel
theorem dX7_isAllowed_187 : decode cX7_isAllowed 187 = .ok (.aload_n 0, 1) := by decide +kernel
theorem dX7_isAllowed_188 : decode cX7_isAllowed 188 = .ok (.getfield 13, 3) := by decide +kernel
theorem dX7_isAllowed_191 : decode cX7_isAllowed 191 = .ok (.iload 6, 2) := by decide +kernel
theorem dX7_isAllowed_193 : decode cX7_isAllowed 193 = .ok (.iaload, 1) := by decide +kernel
theorem dX7_isAllowed_194 : decode cX7_isAllowed 194 = .ok (.invokevirtual 123, 3) := by decide +kernel
theorem dX7_isAllowed_197 : decode cX7_isAllowed 197 = .ok (.aload_n 0, 1) := by decide +kernel
theorem dX7_isAllowed_198 : decode cX7_isAllowed 198 = .ok (.getfield 46, 3) := by decide +kernel
theorem dX7_isAllowed_201 : decode cX7_isAllowed 201 = .ok (.if_icmp .gt 7, 3) := by decide +kernel
theorem dX7_isAllowed_204 : decode cX7_isAllowed 204 = .ok (.iconst 1, 1) := by decide +kernel
theorem dX7_isAllowed_205 : decode cX7_isAllowed 205 = .ok (.goto 4, 3) := by decide +kernel
theorem dX7_isAllowed_208 : decode cX7_isAllowed 208 = .ok (.iconst 0, 1) := by decide +kernel
theorem dX7_isAllowed_209 : decode cX7_isAllowed 209 = .ok (.iand, 1) := by decide +kernel
theorem dX7_isAllowed_210 : decode cX7_isAllowed 210 = .ok (.istore 4, 2) := by decide +kernel
theorem dX7_isAllowed_212 : decode cX7_isAllowed 212 = .ok (.iinc 5 1, 3) := by decide +kernel
theorem dX7_isAllowed_215 : decode cX7_isAllowed 215 = .ok (.goto (-209), 3) := by decide +kernel
theorem dX7_isAllowed_218 : decode cX7_isAllowed 218 = .ok (.iload 4, 2) := by decide +kernel
theorem dX7_isAllowed_220 : decode cX7_isAllowed 220 = .ok (.ireturn, 1) := by decide +kernel
theorem dX7_allowed_0 : decode cX7_allowed 0 = .ok (.aload_n 0, 1) := by decide +kernel
theorem dX7_allowed_1 : decode cX7_allowed 1 = .ok (.iload_n 1, 1) := by decide +kernel
theorem dX7_allowed_2 : decode cX7_allowed 2 = .ok (.iload_n 2, 1) := by decide +kernel
theorem dX7_allowed_3 : decode cX7_allowed 3 = .ok (.iload_n 3, 1) := by decide +kernel
theorem dX7_allowed_4 : decode cX7_allowed 4 = .ok (.invokevirtual 127, 3) := by decide +kernel
theorem dX7_allowed_7 : decode cX7_allowed 7 = .ok (.ifCond .ne 9, 3) := by decide +kernel
theorem dX7_allowed_10 : decode cX7_allowed 10 = .ok (.aload_n 0, 1) := by decide +kernel
theorem dX7_allowed_11 : decode cX7_allowed 11 = .ok (.iconst 1, 1) := by decide +kernel
theorem dX7_allowed_12 : decode cX7_allowed 12 = .ok (.invokevirtual 104, 3) := by decide +kernel
theorem dX7_allowed_15 : decode cX7_allowed 15 = .ok (.ireturn, 1) := by decide +kernel
theorem dX7_allowed_16 : decode cX7_allowed 16 = .ok (.aload_n 0, 1) := by decide +kernel
theorem dX7_allowed_17 : decode cX7_allowed 17 = .ok (.iload_n 1, 1) := by decide +kernel
theorem dX7_allowed_18 : decode cX7_allowed 18 = .ok (.iload_n 2, 1) := by decide +kernel
theorem dX7_allowed_19 : decode cX7_allowed 19 = .ok (.iload_n 3, 1) := by decide +kernel
theorem dX7_allowed_20 : decode cX7_allowed 20 = .ok (.invokevirtual 130, 3) := by decide +kernel
theorem dX7_allowed_23 : decode cX7_allowed 23 = .ok (.ifCond .eq 7, 3) := by decide +kernel
theorem dX7_allowed_26 : decode cX7_allowed 26 = .ok (.iconst 1, 1) := by decide +kernel
theorem dX7_allowed_27 : decode cX7_allowed 27 = .ok (.goto 4, 3) := by decide +kernel
theorem dX7_allowed_30 : decode cX7_allowed 30 = .ok (.iconst 0, 1) := by decide +kernel
theorem dX7_allowed_31 : decode cX7_allowed 31 = .ok (.ireturn, 1) := by decide +kernel
theorem dX1_missing_0 : decode cX1_missing 0 = .ok (.iconst 0, 1) := by decide +kernel
theorem dX1_missing_1 : decode cX1_missing 1 = .ok (.istore_n 2, 1) := by decide +kernel
theorem dX1_missing_2 : decode cX1_missing 2 = .ok (.iconst 0, 1) := by decide +kernel
theorem dX1_missing_3 : decode cX1_missing 3 = .ok (.istore_n 3, 1) := by decide +kernel
theorem dX1_missing_4 : decode cX1_missing 4 = .ok (.iload_n 3, 1) := by decide +kernel
theorem dX1_missing_5 : decode cX1_missing 5 = .ok (.aload_n 0, 1) := by decide +kernel
theorem dX1_missing_6 : decode cX1_missing 6 = .ok (.getfield 57, 3) := by decide +kernel
theorem dX1_missing_9 : decode cX1_missing 9 = .ok (.if_icmp .ge 48, 3) := by decide +kernel
theorem dX1_missing_12 : decode cX1_missing 12 = .ok (.iload_n 1, 1) := by decide +kernel
theorem dX1_missing_13 : decode cX1_missing 13 = .ok (.iload_n 3, 1) := by decide +kernel
theorem dX1_missing_14 : decode cX1_missing 14 = .ok (.invokestatic 97, 3) := by decide +kernel
theorem dX1_missing_17 : decode cX1_missing 17 = .ok (.ifCond .ne 34, 3) := by decide +kernel
theorem dX1_missing_20 : decode cX1_missing 20 = .ok (.aload_n 0, 1) := by decide +kernel
theorem dX1_missing_21 : decode cX1_missing 21 = .ok (.getfield 15, 3) := by decide +kernel
theorem dX1_missing_24 : decode cX1_missing 24 = .ok (.iload_n 3, 1) := by decide +kernel
theorem dX1_missing_25 : decode cX1_missing 25 = .ok (.iaload, 1) := by decide +kernel
theorem dX1_missing_26 : decode cX1_missing 26 = .ok (.ifCond .lt 19, 3) := by decide +kernel
theorem dX1_missing_29 : decode cX1_missing 29 = .ok (.aload_n 0, 1) := by decide +kernel
theorem dX1_missing_30 : decode cX1_missing 30 = .ok (.getfield 108, 3) := by decide +kernel
theorem dX1_missing_33 : decode cX1_missing 33 = .ok (.aload_n 0, 1) := by decide +kernel
theorem dX1_missing_34 : decode cX1_missing 34 = .ok (.getfield 15, 3) := by decide +kernel
theorem dX1_missing_37 : decode cX1_missing 37 = .ok (.iload_n 3, 1) := by decide +kernel
theorem dX1_missing_38 : decode cX1_missing 38 = .ok (.iaload, 1) := by decide +kernel
theorem dX1_missing_39 : decode cX1_missing 39 = .ok (.invokestatic 97, 3) := by decide +kernel
theorem dX1_missing_42 : decode cX1_missing 42 = .ok (.ifCond .eq 9, 3) := by decide +kernel
theorem dX1_missing_45 : decode cX1_missing 45 = .ok (.iload_n 2, 1) := by decide +kernel
theorem dX1_missing_46 : decode cX1_missing 46 = .ok (.iconst 1, 1) := by decide +kernel
theorem dX1_missing_47 : decode cX1_missing 47 = .ok (.iload_n 3, 1) := by decide +kernel
theorem dX1_missing_48 : decode cX1_missing 48 = .ok (.ishl, 1) := by decide +kernel
theorem dX1_missing_49 : decode cX1_missing 49 = .ok (.ior, 1) := by decide +kernel
theorem dX1_missing_50 : decode cX1_missing 50 = .ok (.istore_n 2, 1) := by decide +kernel
theorem dX1_missing_51 : decode cX1_missing 51 = .ok (.iinc 3 1, 3) := by decide +kernel
theorem dX1_missing_54 : decode cX1_missing 54 = .ok (.goto (-50), 3) := by decide +kernel
theorem dX1_missing_57 : decode cX1_missing 57 = .ok (.iload_n 2, 1) := by decide +kernel
theorem dX1_missing_58 : decode cX1_missing 58 = .ok (.ireturn, 1) := by decide +kernel
theorem dX1_mustComeOff_0 : decode cX1_mustComeOff 0 = .ok (.aload_n 0, 1) := by decide +kernel
theorem dX1_mustComeOff_1 : decode cX1_mustComeOff 1 = .ok (.getfield 9, 3) := by decide +kernel
theorem dX1_mustComeOff_4 : decode cX1_mustComeOff 4 = .ok (.iload_n 1, 1) := by decide +kernel
theorem dX1_mustComeOff_5 : decode cX1_mustComeOff 5 = .ok (.iaload, 1) := by decide +kernel
theorem dX1_mustComeOff_6 : decode cX1_mustComeOff 6 = .ok (.istore_n 2, 1) := by decide +kernel
theorem dX1_mustComeOff_7 : decode cX1_mustComeOff 7 = .ok (.aload_n 0, 1) := by decide +kernel
theorem dX1_mustComeOff_8 : decode cX1_mustComeOff 8 = .ok (.getfield 18, 3) := by decide +kernel
theorem dX1_mustComeOff_11 : decode cX1_mustComeOff 11 = .ok (.iload_n 1, 1) := by decide +kernel
theorem dX1_mustComeOff_12 : decode cX1_mustComeOff 12 = .ok (.iaload, 1) := by decide +kernel
theorem dX1_mustComeOff_13 : decode cX1_mustComeOff 13 = .ok (.aload_n 0, 1) := by decide +kernel
theorem dX1_mustComeOff_14 : decode cX1_mustComeOff 14 = .ok (.getfield 108, 3) := by decide +kernel
theorem dX1_mustComeOff_17 : decode cX1_mustComeOff 17 = .ok (.iand, 1) := by decide +kernel
theorem dX1_mustComeOff_18 : decode cX1_mustComeOff 18 = .ok (.ifCond .ne 21, 3) := by decide +kernel
theorem dX1_mustComeOff_21 : decode cX1_mustComeOff 21 = .ok (.iload_n 2, 1) := by decide +kernel
theorem dX1_mustComeOff_22 : decode cX1_mustComeOff 22 = .ok (.ifCond .lt 21, 3) := by decide +kernel
theorem dX1_mustComeOff_25 : decode cX1_mustComeOff 25 = .ok (.aload_n 0, 1) := by decide +kernel
theorem dX1_mustComeOff_26 : decode cX1_mustComeOff 26 = .ok (.getfield 21, 3) := by decide +kernel
theorem dX1_mustComeOff_29 : decode cX1_mustComeOff 29 = .ok (.iload_n 2, 1) := by decide +kernel
theorem dX1_mustComeOff_30 : decode cX1_mustComeOff 30 = .ok (.iaload, 1) := by decide +kernel
theorem dX1_mustComeOff_31 : decode cX1_mustComeOff 31 = .ok (.aload_n 0, 1) := by decide +kernel
theorem dX1_mustComeOff_32 : decode cX1_mustComeOff 32 = .ok (.getfield 114, 3) := by decide +kernel
theorem dX1_mustComeOff_35 : decode cX1_mustComeOff 35 = .ok (.iand, 1) := by decide +kernel
theorem dX1_mustComeOff_36 : decode cX1_mustComeOff 36 = .ok (.ifCond .eq 7, 3) := by decide +kernel
theorem dX1_mustComeOff_39 : decode cX1_mustComeOff 39 = .ok (.iconst 1, 1) := by decide +kernel
theorem dX1_mustComeOff_40 : decode cX1_mustComeOff 40 = .ok (.goto 4, 3) := by decide +kernel
theorem dX1_mustComeOff_43 : decode cX1_mustComeOff 43 = .ok (.iconst 0, 1) := by decide +kernel
theorem dX1_mustComeOff_44 : decode cX1_mustComeOff 44 = .ok (.ireturn, 1) := by decide +kernel
theorem dX1_forcedOff_0 : decode cX1_forcedOff 0 = .ok (.iconst 0, 1) := by decide +kernel
theorem dX1_forcedOff_1 : decode cX1_forcedOff 1 = .ok (.istore_n 1, 1) := by decide +kernel
theorem dX1_forcedOff_2 : decode cX1_forcedOff 2 = .ok (.iconst 0, 1) := by decide +kernel
theorem dX1_forcedOff_3 : decode cX1_forcedOff 3 = .ok (.istore_n 2, 1) := by decide +kernel
theorem dX1_forcedOff_4 : decode cX1_forcedOff 4 = .ok (.iload_n 2, 1) := by decide +kernel
theorem dX1_forcedOff_5 : decode cX1_forcedOff 5 = .ok (.aload_n 0, 1) := by decide +kernel
theorem dX1_forcedOff_6 : decode cX1_forcedOff 6 = .ok (.getfield 53, 3) := by decide +kernel
theorem dX1_forcedOff_9 : decode cX1_forcedOff 9 = .ok (.if_icmp .ge 34, 3) := by decide +kernel
theorem dX1_forcedOff_12 : decode cX1_forcedOff 12 = .ok (.aload_n 0, 1) := by decide +kernel
theorem dX1_forcedOff_13 : decode cX1_forcedOff 13 = .ok (.getfield 108, 3) := by decide +kernel
theorem dX1_forcedOff_16 : decode cX1_forcedOff 16 = .ok (.iload_n 2, 1) := by decide +kernel
theorem dX1_forcedOff_17 : decode cX1_forcedOff 17 = .ok (.invokestatic 97, 3) := by decide +kernel
theorem dX1_forcedOff_20 : decode cX1_forcedOff 20 = .ok (.ifCond .ne 17, 3) := by decide +kernel
theorem dX1_forcedOff_23 : decode cX1_forcedOff 23 = .ok (.aload_n 0, 1) := by decide +kernel
theorem dX1_forcedOff_24 : decode cX1_forcedOff 24 = .ok (.iload_n 2, 1) := by decide +kernel
theorem dX1_forcedOff_25 : decode cX1_forcedOff 25 = .ok (.invokevirtual 121, 3) := by decide +kernel
theorem dX1_forcedOff_28 : decode cX1_forcedOff 28 = .ok (.ifCond .eq 9, 3) := by decide +kernel
theorem dX1_forcedOff_31 : decode cX1_forcedOff 31 = .ok (.iload_n 1, 1) := by decide +kernel
theorem dX1_forcedOff_32 : decode cX1_forcedOff 32 = .ok (.iconst 1, 1) := by decide +kernel
theorem dX1_forcedOff_33 : decode cX1_forcedOff 33 = .ok (.iload_n 2, 1) := by decide +kernel
theorem dX1_forcedOff_34 : decode cX1_forcedOff 34 = .ok (.ishl, 1) := by decide +kernel
theorem dX1_forcedOff_35 : decode cX1_forcedOff 35 = .ok (.ior, 1) := by decide +kernel
theorem dX1_forcedOff_36 : decode cX1_forcedOff 36 = .ok (.istore_n 1, 1) := by decide +kernel
theorem dX1_forcedOff_37 : decode cX1_forcedOff 37 = .ok (.iinc 2 1, 3) := by decide +kernel
theorem dX1_forcedOff_40 : decode cX1_forcedOff 40 = .ok (.goto (-36), 3) := by decide +kernel
theorem dX1_forcedOff_43 : decode cX1_forcedOff 43 = .ok (.iload_n 1, 1) := by decide +kernel
theorem dX1_forcedOff_44 : decode cX1_forcedOff 44 = .ok (.ireturn, 1) := by decide +kernel
theorem dX1_handle_0 : decode cX1_handle 0 = .ok (.aload_n 0, 1) := by decide +kernel
theorem dX1_handle_1 : decode cX1_handle 1 = .ok (.aload_n 0, 1) := by decide +kernel
theorem dX1_handle_2 : decode cX1_handle 2 = .ok (.getfield 69, 3) := by decide +kernel
theorem dX1_handle_5 : decode cX1_handle 5 = .ok (.putfield 108, 3) := by decide +kernel
theorem dX1_handle_8 : decode cX1_handle 8 = .ok (.aload_n 0, 1) := by decide +kernel
theorem dX1_handle_9 : decode cX1_handle 9 = .ok (.aload_n 0, 1) := by decide +kernel
theorem dX1_handle_10 : decode cX1_handle 10 = .ok (.iload_n 1, 1) := by decide +kernel
theorem dX1_handle_11 : decode cX1_handle 11 = .ok (.invokevirtual 111, 3) := by decide +kernel
theorem dX1_handle_14 : decode cX1_handle 14 = .ok (.putfield 114, 3) := by decide +kernel
theorem dX1_handle_17 : decode cX1_handle 17 = .ok (.iconst 0, 1) := by decide +kernel
theorem dX1_handle_18 : decode cX1_handle 18 = .ok (.istore_n 2, 1) := by decide +kernel
theorem dX1_handle_19 : decode cX1_handle 19 = .ok (.iload_n 2, 1) := by decide +kernel
theorem dX1_handle_20 : decode cX1_handle 20 = .ok (.bipush 8, 2) := by decide +kernel
theorem dX1_handle_22 : decode cX1_handle 22 = .ok (.if_icmp .ge 38, 3) := by decide +kernel
theorem dX1_handle_25 : decode cX1_handle 25 = .ok (.aload_n 0, 1) := by decide +kernel
theorem dX1_handle_26 : decode cX1_handle 26 = .ok (.invokevirtual 117, 3) := by decide +kernel
theorem dX1_handle_29 : decode cX1_handle 29 = .ok (.istore_n 3, 1) := by decide +kernel
theorem dX1_handle_30 : decode cX1_handle 30 = .ok (.iload_n 3, 1) := by decide +kernel
theorem dX1_handle_31 : decode cX1_handle 31 = .ok (.ifCond .ne 4, 3) := by decide +kernel
theorem dX1_handle_34 : decode cX1_handle 34 = .ok (.return_, 1) := by decide +kernel
theorem dX1_handle_35 : decode cX1_handle 35 = .ok (.aload_n 0, 1) := by decide +kernel
theorem dX1_handle_36 : decode cX1_handle 36 = .ok (.dup, 1) := by decide +kernel
theorem dX1_handle_37 : decode cX1_handle 37 = .ok (.getfield 108, 3) := by decide +kernel
theorem dX1_handle_40 : decode cX1_handle 40 = .ok (.iload_n 3, 1) := by decide +kernel
theorem dX1_handle_41 : decode cX1_handle 41 = .ok (.ior, 1) := by decide +kernel
theorem dX1_handle_42 : decode cX1_handle 42 = .ok (.putfield 108, 3) := by decide +kernel
theorem dX1_handle_45 : decode cX1_handle 45 = .ok (.aload_n 0, 1) := by decide +kernel
theorem dX1_handle_46 : decode cX1_handle 46 = .ok (.aload_n 0, 1) := by decide +kernel
theorem dX1_handle_47 : decode cX1_handle 47 = .ok (.iload_n 1, 1) := by decide +kernel
theorem dX1_handle_48 : decode cX1_handle 48 = .ok (.invokevirtual 111, 3) := by decide +kernel
theorem dX1_handle_51 : decode cX1_handle 51 = .ok (.putfield 114, 3) := by decide +kernel
theorem dX1_handle_54 : decode cX1_handle 54 = .ok (.iinc 2 1, 3) := by decide +kernel
theorem dX1_handle_57 : decode cX1_handle 57 = .ok (.goto (-38), 3) := by decide +kernel
theorem dX1_handle_60 : decode cX1_handle 60 = .ok (.return_, 1) := by decide +kernel
theorem dJ6_bitCount_0f7a4_0 : decode cJ6_bitCount_0f7a4 0 = .ok (.iload_n 0, 1) := by decide +kernel
theorem dJ6_bitCount_0f7a4_1 : decode cJ6_bitCount_0f7a4 1 = .ok (.iload_n 0, 1) := by decide +kernel
theorem dJ6_bitCount_0f7a4_2 : decode cJ6_bitCount_0f7a4 2 = .ok (.iconst 1, 1) := by decide +kernel
theorem dJ6_bitCount_0f7a4_3 : decode cJ6_bitCount_0f7a4 3 = .ok (.iushr, 1) := by decide +kernel
theorem dJ6_bitCount_0f7a4_4 : decode cJ6_bitCount_0f7a4 4 = .ok (.ldc_w 265, 3) := by decide +kernel
theorem dJ6_bitCount_0f7a4_7 : decode cJ6_bitCount_0f7a4 7 = .ok (.iand, 1) := by decide +kernel
theorem dJ6_bitCount_0f7a4_8 : decode cJ6_bitCount_0f7a4 8 = .ok (.isub, 1) := by decide +kernel
theorem dJ6_bitCount_0f7a4_9 : decode cJ6_bitCount_0f7a4 9 = .ok (.istore_n 0, 1) := by decide +kernel
theorem dJ6_bitCount_0f7a4_10 : decode cJ6_bitCount_0f7a4 10 = .ok (.iload_n 0, 1) := by decide +kernel
theorem dJ6_bitCount_0f7a4_11 : decode cJ6_bitCount_0f7a4 11 = .ok (.ldc_w 266, 3) := by decide +kernel
theorem dJ6_bitCount_0f7a4_14 : decode cJ6_bitCount_0f7a4 14 = .ok (.iand, 1) := by decide +kernel
theorem dJ6_bitCount_0f7a4_15 : decode cJ6_bitCount_0f7a4 15 = .ok (.iload_n 0, 1) := by decide +kernel
theorem dJ6_bitCount_0f7a4_16 : decode cJ6_bitCount_0f7a4 16 = .ok (.iconst 2, 1) := by decide +kernel
theorem dJ6_bitCount_0f7a4_17 : decode cJ6_bitCount_0f7a4 17 = .ok (.iushr, 1) := by decide +kernel
theorem dJ6_bitCount_0f7a4_18 : decode cJ6_bitCount_0f7a4 18 = .ok (.ldc_w 266, 3) := by decide +kernel
theorem dJ6_bitCount_0f7a4_21 : decode cJ6_bitCount_0f7a4 21 = .ok (.iand, 1) := by decide +kernel
theorem dJ6_bitCount_0f7a4_22 : decode cJ6_bitCount_0f7a4 22 = .ok (.iadd, 1) := by decide +kernel
theorem dJ6_bitCount_0f7a4_23 : decode cJ6_bitCount_0f7a4 23 = .ok (.istore_n 0, 1) := by decide +kernel
theorem dJ6_bitCount_0f7a4_24 : decode cJ6_bitCount_0f7a4 24 = .ok (.iload_n 0, 1) := by decide +kernel
theorem dJ6_bitCount_0f7a4_25 : decode cJ6_bitCount_0f7a4 25 = .ok (.iload_n 0, 1) := by decide +kernel
theorem dJ6_bitCount_0f7a4_26 : decode cJ6_bitCount_0f7a4 26 = .ok (.iconst 4, 1) := by decide +kernel
theorem dJ6_bitCount_0f7a4_27 : decode cJ6_bitCount_0f7a4 27 = .ok (.iushr, 1) := by decide +kernel
theorem dJ6_bitCount_0f7a4_28 : decode cJ6_bitCount_0f7a4 28 = .ok (.iadd, 1) := by decide +kernel
theorem dJ6_bitCount_0f7a4_29 : decode cJ6_bitCount_0f7a4 29 = .ok (.ldc_w 267, 3) := by decide +kernel
theorem dJ6_bitCount_0f7a4_32 : decode cJ6_bitCount_0f7a4 32 = .ok (.iand, 1) := by decide +kernel
theorem dJ6_bitCount_0f7a4_33 : decode cJ6_bitCount_0f7a4 33 = .ok (.istore_n 0, 1) := by decide +kernel
theorem dJ6_bitCount_0f7a4_34 : decode cJ6_bitCount_0f7a4 34 = .ok (.iload_n 0, 1) := by decide +kernel
theorem dJ6_bitCount_0f7a4_35 : decode cJ6_bitCount_0f7a4 35 = .ok (.iload_n 0, 1) := by decide +kernel
theorem dJ6_bitCount_0f7a4_36 : decode cJ6_bitCount_0f7a4 36 = .ok (.bipush 8, 2) := by decide +kernel
theorem dJ6_bitCount_0f7a4_38 : decode cJ6_bitCount_0f7a4 38 = .ok (.iushr, 1) := by decide +kernel
theorem dJ6_bitCount_0f7a4_39 : decode cJ6_bitCount_0f7a4 39 = .ok (.iadd, 1) := by decide +kernel
theorem dJ6_bitCount_0f7a4_40 : decode cJ6_bitCount_0f7a4 40 = .ok (.istore_n 0, 1) := by decide +kernel
theorem dJ6_bitCount_0f7a4_41 : decode cJ6_bitCount_0f7a4 41 = .ok (.iload_n 0, 1) := by decide +kernel
theorem dJ6_bitCount_0f7a4_42 : decode cJ6_bitCount_0f7a4 42 = .ok (.iload_n 0, 1) := by decide +kernel
theorem dJ6_bitCount_0f7a4_43 : decode cJ6_bitCount_0f7a4 43 = .ok (.bipush 16, 2) := by decide +kernel
theorem dJ6_bitCount_0f7a4_45 : decode cJ6_bitCount_0f7a4 45 = .ok (.iushr, 1) := by decide +kernel
theorem dJ6_bitCount_0f7a4_46 : decode cJ6_bitCount_0f7a4 46 = .ok (.iadd, 1) := by decide +kernel
theorem dJ6_bitCount_0f7a4_47 : decode cJ6_bitCount_0f7a4 47 = .ok (.istore_n 0, 1) := by decide +kernel
theorem dJ6_bitCount_0f7a4_48 : decode cJ6_bitCount_0f7a4 48 = .ok (.iload_n 0, 1) := by decide +kernel
theorem dJ6_bitCount_0f7a4_49 : decode cJ6_bitCount_0f7a4 49 = .ok (.bipush 63, 2) := by decide +kernel
theorem dJ6_bitCount_0f7a4_51 : decode cJ6_bitCount_0f7a4 51 = .ok (.iand, 1) := by decide +kernel
theorem dJ6_bitCount_0f7a4_52 : decode cJ6_bitCount_0f7a4 52 = .ok (.ireturn, 1) := by decide +kernel
theorem dX6_told_0 : decode cX6_told 0 = .ok (.aload_n 0, 1) := by decide +kernel
theorem dX6_told_1 : decode cX6_told 1 = .ok (.iload_n 1, 1) := by decide +kernel
theorem dX6_told_2 : decode cX6_told 2 = .ok (.iload_n 2, 1) := by decide +kernel
theorem dX6_told_3 : decode cX6_told 3 = .ok (.iload_n 3, 1) := by decide +kernel
theorem dX6_told_4 : decode cX6_told 4 = .ok (.invokevirtual 111, 3) := by decide +kernel
theorem dX6_told_7 : decode cX6_told 7 = .ok (.ifCond .eq 13, 3) := by decide +kernel
theorem dX6_told_10 : decode cX6_told 10 = .ok (.iload 4, 2) := by decide +kernel
theorem dX6_told_12 : decode cX6_told 12 = .ok (.iconst 0, 1) := by decide +kernel
theorem dX6_told_13 : decode cX6_told 13 = .ok (.iconst 3, 1) := by decide +kernel
theorem dX6_told_14 : decode cX6_told 14 = .ok (.invokestatic 88, 3) := by decide +kernel
theorem dX6_told_17 : decode cX6_told 17 = .ok (.ifCond .ne 9, 3) := by decide +kernel
theorem dX6_told_20 : decode cX6_told 20 = .ok (.aload_n 0, 1) := by decide +kernel
theorem dX6_told_21 : decode cX6_told 21 = .ok (.iconst 1, 1) := by decide +kernel
theorem dX6_told_22 : decode cX6_told 22 = .ok (.invokevirtual 72, 3) := by decide +kernel
theorem dX6_told_25 : decode cX6_told 25 = .ok (.ireturn, 1) := by decide +kernel
theorem dX6_told_26 : decode cX6_told 26 = .ok (.aload_n 0, 1) := by decide +kernel
theorem dX6_told_27 : decode cX6_told 27 = .ok (.iload_n 1, 1) := by decide +kernel
theorem dX6_told_28 : decode cX6_told 28 = .ok (.iload_n 2, 1) := by decide +kernel
theorem dX6_told_29 : decode cX6_told 29 = .ok (.iload_n 3, 1) := by decide +kernel
theorem dX6_told_30 : decode cX6_told 30 = .ok (.invokevirtual 114, 3) := by decide +kernel
theorem dX6_told_33 : decode cX6_told 33 = .ok (.ifCond .ne 9, 3) := by decide +kernel
theorem dX6_told_36 : decode cX6_told 36 = .ok (.aload_n 0, 1) := by decide +kernel
theorem dX6_told_37 : decode cX6_told 37 = .ok (.iconst 3, 1) := by decide +kernel
theorem dX6_told_38 : decode cX6_told 38 = .ok (.invokevirtual 72, 3) := by decide +kernel
theorem dX6_told_41 : decode cX6_told 41 = .ok (.ireturn, 1) := by decide +kernel
theorem dX6_told_42 : decode cX6_told 42 = .ok (.aload_n 0, 1) := by decide +kernel
theorem dX6_told_43 : decode cX6_told 43 = .ok (.getfield 28, 3) := by decide +kernel
theorem dX6_told_46 : decode cX6_told 46 = .ok (.iload_n 3, 1) := by decide +kernel
theorem dX6_told_47 : decode cX6_told 47 = .ok (.invokevirtual 117, 3) := by decide +kernel
theorem dX6_told_50 : decode cX6_told 50 = .ok (.iload 4, 2) := by decide +kernel
theorem dX6_told_52 : decode cX6_told 52 = .ok (.iconst 2, 1) := by decide +kernel
theorem dX6_told_53 : decode cX6_told 53 = .ok (.irem, 1) := by decide +kernel
theorem dX6_told_54 : decode cX6_told 54 = .ok (.ifCond .ne 13, 3) := by decide +kernel
theorem dX6_told_57 : decode cX6_told 57 = .ok (.aload_n 0, 1) := by decide +kernel
theorem dX6_told_58 : decode cX6_told 58 = .ok (.getfield 28, 3) := by decide +kernel
theorem dX6_told_61 : decode cX6_told 61 = .ok (.getfield 121, 3) := by decide +kernel
theorem dX6_told_64 : decode cX6_told 64 = .ok (.goto 10, 3) := by decide +kernel
theorem dX6_told_67 : decode cX6_told 67 = .ok (.aload_n 0, 1) := by decide +kernel
theorem dX6_told_68 : decode cX6_told 68 = .ok (.getfield 28, 3) := by decide +kernel
theorem dX6_told_71 : decode cX6_told 71 = .ok (.getfield 124, 3) := by decide +kernel
theorem dX6_told_74 : decode cX6_told 74 = .ok (.istore 5, 2) := by decide +kernel
theorem dX6_told_76 : decode cX6_told 76 = .ok (.iload 4, 2) := by decide +kernel
theorem dX6_told_78 : decode cX6_told 78 = .ok (.iconst 2, 1) := by decide +kernel
theorem dX6_told_79 : decode cX6_told 79 = .ok (.if_icmp .ge 11, 3) := by decide +kernel
theorem dX6_told_82 : decode cX6_told 82 = .ok (.iload 5, 2) := by decide +kernel
theorem dX6_told_84 : decode cX6_told 84 = .ok (.invokestatic 127, 3) := by decide +kernel
theorem dX6_told_87 : decode cX6_told 87 = .ok (.goto 5, 3) := by decide +kernel
theorem dX6_told_90 : decode cX6_told 90 = .ok (.iload 5, 2) := by decide +kernel
theorem dX6_told_92 : decode cX6_told 92 = .ok (.ireturn, 1) := by decide +kernel
theorem dX7_isOff_0 : decode cX7_isOff 0 = .ok (.aload_n 0, 1) := by decide +kernel
theorem dX7_isOff_1 : decode cX7_isOff 1 = .ok (.iload_n 1, 1) := by decide +kernel
theorem dX7_isOff_2 : decode cX7_isOff 2 = .ok (.iload_n 2, 1) := by decide +kernel
theorem dX7_isOff_3 : decode cX7_isOff 3 = .ok (.invokevirtual 115, 3) := by decide +kernel
theorem dX7_isOff_6 : decode cX7_isOff 6 = .ok (.istore_n 3, 1) := by decide +kernel
theorem dX7_isOff_7 : decode cX7_isOff 7 = .ok (.iload_n 3, 1) := by decide +kernel
theorem dX7_isOff_8 : decode cX7_isOff 8 = .ok (.ifCond .lt 18, 3) := by decide +kernel
theorem dX7_isOff_11 : decode cX7_isOff 11 = .ok (.aload_n 0, 1) := by decide +kernel
theorem dX7_isOff_12 : decode cX7_isOff 12 = .ok (.getfield 133, 3) := by decide +kernel
theorem dX7_isOff_15 : decode cX7_isOff 15 = .ok (.iload_n 3, 1) := by decide +kernel
theorem dX7_isOff_16 : decode cX7_isOff 16 = .ok (.invokestatic 119, 3) := by decide +kernel
theorem dX7_isOff_19 : decode cX7_isOff 19 = .ok (.ifCond .eq 7, 3) := by decide +kernel
theorem dX7_isOff_22 : decode cX7_isOff 22 = .ok (.iconst 1, 1) := by decide +kernel
theorem dX7_isOff_23 : decode cX7_isOff 23 = .ok (.goto 4, 3) := by decide +kernel
theorem dX7_isOff_26 : decode cX7_isOff 26 = .ok (.iconst 0, 1) := by decide +kernel
theorem dX7_isOff_27 : decode cX7_isOff 27 = .ok (.ireturn, 1) := by decide +kernel
theorem dX7_mustOff_0 : decode cX7_mustOff 0 = .ok (.aload_n 0, 1) := by decide +kernel
theorem dX7_mustOff_1 : decode cX7_mustOff 1 = .ok (.getfield 43, 3) := by decide +kernel
theorem dX7_mustOff_4 : decode cX7_mustOff 4 = .ok (.bipush 8, 2) := by decide +kernel
theorem dX7_mustOff_6 : decode cX7_mustOff 6 = .ok (.iload_n 1, 1) := by decide +kernel
theorem dX7_mustOff_7 : decode cX7_mustOff 7 = .ok (.imul, 1) := by decide +kernel
theorem dX7_mustOff_8 : decode cX7_mustOff 8 = .ok (.iload 4, 2) := by decide +kernel
theorem dX7_mustOff_10 : decode cX7_mustOff 10 = .ok (.iadd, 1) := by decide +kernel
theorem dX7_mustOff_11 : decode cX7_mustOff 11 = .ok (.iaload, 1) := by decide +kernel
theorem dX7_mustOff_12 : decode cX7_mustOff 12 = .ok (.istore 5, 2) := by decide +kernel
theorem dX7_mustOff_14 : decode cX7_mustOff 14 = .ok (.aload_n 0, 1) := by decide +kernel
theorem dX7_mustOff_15 : decode cX7_mustOff 15 = .ok (.iload_n 2, 1) := by decide +kernel
theorem dX7_mustOff_16 : decode cX7_mustOff 16 = .ok (.iload 5, 2) := by decide +kernel
theorem dX7_mustOff_18 : decode cX7_mustOff 18 = .ok (.invokevirtual 115, 3) := by decide +kernel
theorem dX7_mustOff_21 : decode cX7_mustOff 21 = .ok (.istore 6, 2) := by decide +kernel
theorem dX7_mustOff_23 : decode cX7_mustOff 23 = .ok (.iload 6, 2) := by decide +kernel
theorem dX7_mustOff_25 : decode cX7_mustOff 25 = .ok (.ifCond .ge 7, 3) := by decide +kernel
theorem dX7_mustOff_28 : decode cX7_mustOff 28 = .ok (.iconst 1, 1) := by decide +kernel
theorem dX7_mustOff_29 : decode cX7_mustOff 29 = .ok (.goto 4, 3) := by decide +kernel
theorem dX7_mustOff_32 : decode cX7_mustOff 32 = .ok (.iconst 0, 1) := by decide +kernel
theorem dX7_mustOff_33 : decode cX7_mustOff 33 = .ok (.istore 7, 2) := by decide +kernel
theorem dX7_mustOff_35 : decode cX7_mustOff 35 = .ok (.iconst 0, 1) := by decide +kernel
theorem dX7_mustOff_36 : decode cX7_mustOff 36 = .ok (.istore 8, 2) := by decide +kernel
theorem dX7_mustOff_38 : decode cX7_mustOff 38 = .ok (.iload 8, 2) := by decide +kernel
theorem dX7_mustOff_40 : decode cX7_mustOff 40 = .ok (.aload_n 0, 1) := by decide +kernel
theorem dX7_mustOff_41 : decode cX7_mustOff 41 = .ok (.getfield 40, 3) := by decide +kernel
theorem dX7_mustOff_44 : decode cX7_mustOff 44 = .ok (.iload_n 1, 1) := by decide +kernel
theorem dX7_mustOff_45 : decode cX7_mustOff 45 = .ok (.iaload, 1) := by decide +kernel
theorem dX7_mustOff_46 : decode cX7_mustOff 46 = .ok (.if_icmp .ge 95, 3) := by decide +kernel
theorem dX7_mustOff_49 : decode cX7_mustOff 49 = .ok (.aload_n 0, 1) := by decide +kernel
theorem dX7_mustOff_50 : decode cX7_mustOff 50 = .ok (.getfield 43, 3) := by decide +kernel
theorem dX7_mustOff_53 : decode cX7_mustOff 53 = .ok (.bipush 8, 2) := by decide +kernel
theorem dX7_mustOff_55 : decode cX7_mustOff 55 = .ok (.iload_n 1, 1) := by decide +kernel
theorem dX7_mustOff_56 : decode cX7_mustOff 56 = .ok (.imul, 1) := by decide +kernel
theorem dX7_mustOff_57 : decode cX7_mustOff 57 = .ok (.iload 8, 2) := by decide +kernel
theorem dX7_mustOff_59 : decode cX7_mustOff 59 = .ok (.iadd, 1) := by decide +kernel
theorem dX7_mustOff_60 : decode cX7_mustOff 60 = .ok (.iaload, 1) := by decide +kernel
theorem dX7_mustOff_61 : decode cX7_mustOff 61 = .ok (.istore 9, 2) := by decide +kernel
theorem dX7_mustOff_63 : decode cX7_mustOff 63 = .ok (.aload_n 0, 1) := by decide +kernel
theorem dX7_mustOff_64 : decode cX7_mustOff 64 = .ok (.iload_n 2, 1) := by decide +kernel
theorem dX7_mustOff_65 : decode cX7_mustOff 65 = .ok (.iload 9, 2) := by decide +kernel
theorem dX7_mustOff_67 : decode cX7_mustOff 67 = .ok (.invokevirtual 115, 3) := by decide +kernel
theorem dX7_mustOff_70 : decode cX7_mustOff 70 = .ok (.istore 10, 2) := by decide +kernel
theorem dX7_mustOff_72 : decode cX7_mustOff 72 = .ok (.aload_n 0, 1) := by decide +kernel
theorem dX7_mustOff_73 : decode cX7_mustOff 73 = .ok (.getfield 13, 3) := by decide +kernel
theorem dX7_mustOff_76 : decode cX7_mustOff 76 = .ok (.iload 9, 2) := by decide +kernel
theorem dX7_mustOff_78 : decode cX7_mustOff 78 = .ok (.iaload, 1) := by decide +kernel
theorem dX7_mustOff_79 : decode cX7_mustOff 79 = .ok (.aload_n 0, 1) := by decide +kernel
theorem dX7_mustOff_80 : decode cX7_mustOff 80 = .ok (.getfield 13, 3) := by decide +kernel
theorem dX7_mustOff_83 : decode cX7_mustOff 83 = .ok (.iload 5, 2) := by decide +kernel
theorem dX7_mustOff_85 : decode cX7_mustOff 85 = .ok (.iaload, 1) := by decide +kernel
theorem dX7_mustOff_86 : decode cX7_mustOff 86 = .ok (.if_icmp .ne 49, 3) := by decide +kernel
theorem dX7_mustOff_89 : decode cX7_mustOff 89 = .ok (.iload 8, 2) := by decide +kernel
theorem dX7_mustOff_91 : decode cX7_mustOff 91 = .ok (.iload 4, 2) := by decide +kernel
theorem dX7_mustOff_93 : decode cX7_mustOff 93 = .ok (.if_icmp .ge 42, 3) := by decide +kernel
theorem dX7_mustOff_96 : decode cX7_mustOff 96 = .ok (.iload 7, 2) := by decide +kernel
theorem dX7_mustOff_98 : decode cX7_mustOff 98 = .ok (.aload_n 0, 1) := by decide +kernel
theorem dX7_mustOff_99 : decode cX7_mustOff 99 = .ok (.getfield 133, 3) := by decide +kernel
