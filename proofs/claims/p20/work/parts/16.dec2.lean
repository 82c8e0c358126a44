theorem dX7_washing_14 : decode cX7_washing 14 = .ok (.getfield 34, 3) := by decide +kernel
theorem dX7_washing_17 : decode cX7_washing 17 = .ok (.iload_n 2, 1) := by decide +kernel
theorem dX7_washing_18 : decode cX7_washing 18 = .ok (.iaload, 1) := by decide +kernel
theorem dX7_washing_19 : decode cX7_washing 19 = .ok (.iconst 2, 1) := by decide +kernel
theorem dX7_washing_20 : decode cX7_washing 20 = .ok (.if_icmp .ne 7, 3) := by decide +kernel
theorem dX7_washing_23 : decode cX7_washing 23 = .ok (.iconst 1, 1) := by decide +kernel
theorem dX7_washing_24 : decode cX7_washing 24 = .ok (.goto 4, 3) := by decide +kernel
theorem dX7_washing_27 : decode cX7_washing 27 = .ok (.iconst 0, 1) := by decide +kernel
theorem dX7_washing_28 : decode cX7_washing 28 = .ok (.iadd, 1) := by decide +kernel
theorem dX7_washing_29 : decode cX7_washing 29 = .ok (.istore_n 1, 1) := by decide +kernel
theorem dX7_washing_30 : decode cX7_washing 30 = .ok (.iinc 2 1, 3) := by decide +kernel
theorem dX7_washing_33 : decode cX7_washing 33 = .ok (.goto (-29), 3) := by decide +kernel
theorem dX7_washing_36 : decode cX7_washing 36 = .ok (.iload_n 1, 1) := by decide +kernel
theorem dX7_washing_37 : decode cX7_washing 37 = .ok (.ireturn, 1) := by decide +kernel
theorem dX7_wash_0 : decode cX7_wash 0 = .ok (.aload_n 0, 1) := by decide +kernel
theorem dX7_wash_1 : decode cX7_wash 1 = .ok (.iload_n 1, 1) := by decide +kernel
theorem dX7_wash_2 : decode cX7_wash 2 = .ok (.invokevirtual 108, 3) := by decide +kernel
theorem dX7_wash_5 : decode cX7_wash 5 = .ok (.ifCond .ne 9, 3) := by decide +kernel
theorem dX7_wash_8 : decode cX7_wash 8 = .ok (.aload_n 0, 1) := by decide +kernel
theorem dX7_wash_9 : decode cX7_wash 9 = .ok (.iconst 1, 1) := by decide +kernel
theorem dX7_wash_10 : decode cX7_wash 10 = .ok (.invokevirtual 104, 3) := by decide +kernel
theorem dX7_wash_13 : decode cX7_wash 13 = .ok (.ireturn, 1) := by decide +kernel
theorem dX7_wash_14 : decode cX7_wash 14 = .ok (.aload_n 0, 1) := by decide +kernel
theorem dX7_wash_15 : decode cX7_wash 15 = .ok (.getfield 34, 3) := by decide +kernel
theorem dX7_wash_18 : decode cX7_wash 18 = .ok (.iload_n 1, 1) := by decide +kernel
theorem dX7_wash_19 : decode cX7_wash 19 = .ok (.iaload, 1) := by decide +kernel
theorem dX7_wash_20 : decode cX7_wash 20 = .ok (.iconst 1, 1) := by decide +kernel
theorem dX7_wash_21 : decode cX7_wash 21 = .ok (.if_icmp .eq 9, 3) := by decide +kernel
theorem dX7_wash_24 : decode cX7_wash 24 = .ok (.aload_n 0, 1) := by decide +kernel
theorem dX7_wash_25 : decode cX7_wash 25 = .ok (.iconst 3, 1) := by decide +kernel
theorem dX7_wash_26 : decode cX7_wash 26 = .ok (.invokevirtual 104, 3) := by decide +kernel
theorem dX7_wash_29 : decode cX7_wash 29 = .ok (.ireturn, 1) := by decide +kernel
theorem dX7_wash_30 : decode cX7_wash 30 = .ok (.aload_n 0, 1) := by decide +kernel
theorem dX7_wash_31 : decode cX7_wash 31 = .ok (.invokevirtual 178, 3) := by decide +kernel
theorem dX7_wash_34 : decode cX7_wash 34 = .ok (.bipush 6, 2) := by decide +kernel
theorem dX7_wash_36 : decode cX7_wash 36 = .ok (.if_icmp .ne 9, 3) := by decide +kernel
theorem dX7_wash_39 : decode cX7_wash 39 = .ok (.aload_n 0, 1) := by decide +kernel
theorem dX7_wash_40 : decode cX7_wash 40 = .ok (.iconst 4, 1) := by decide +kernel
theorem dX7_wash_41 : decode cX7_wash 41 = .ok (.invokevirtual 104, 3) := by decide +kernel
theorem dX7_wash_44 : decode cX7_wash 44 = .ok (.ireturn, 1) := by decide +kernel
theorem dX7_wash_45 : decode cX7_wash 45 = .ok (.aload_n 0, 1) := by decide +kernel
theorem dX7_wash_46 : decode cX7_wash 46 = .ok (.getfield 34, 3) := by decide +kernel
theorem dX7_wash_49 : decode cX7_wash 49 = .ok (.iload_n 1, 1) := by decide +kernel
theorem dX7_wash_50 : decode cX7_wash 50 = .ok (.iconst 2, 1) := by decide +kernel
theorem dX7_wash_51 : decode cX7_wash 51 = .ok (.iastore, 1) := by decide +kernel
theorem dX7_wash_52 : decode cX7_wash 52 = .ok (.aload_n 0, 1) := by decide +kernel
theorem dX7_wash_53 : decode cX7_wash 53 = .ok (.getfield 37, 3) := by decide +kernel
theorem dX7_wash_56 : decode cX7_wash 56 = .ok (.iload_n 1, 1) := by decide +kernel
theorem dX7_wash_57 : decode cX7_wash 57 = .ok (.aload_n 0, 1) := by decide +kernel
theorem dX7_wash_58 : decode cX7_wash 58 = .ok (.getfield 182, 3) := by decide +kernel
theorem dX7_wash_61 : decode cX7_wash 61 = .ok (.iconst 2, 1) := by decide +kernel
theorem dX7_wash_62 : decode cX7_wash 62 = .ok (.iadd, 1) := by decide +kernel
theorem dX7_wash_63 : decode cX7_wash 63 = .ok (.iastore, 1) := by decide +kernel
theorem dX7_wash_64 : decode cX7_wash 64 = .ok (.aload_n 0, 1) := by decide +kernel
theorem dX7_wash_65 : decode cX7_wash 65 = .ok (.getfield 182, 3) := by decide +kernel
theorem dX7_wash_68 : decode cX7_wash 68 = .ok (.iconst 2, 1) := by decide +kernel
theorem dX7_wash_69 : decode cX7_wash 69 = .ok (.iadd, 1) := by decide +kernel
theorem dX7_wash_70 : decode cX7_wash 70 = .ok (.aload_n 0, 1) := by decide +kernel
theorem dX7_wash_71 : decode cX7_wash 71 = .ok (.getfield 16, 3) := by decide +kernel
theorem dX7_wash_74 : decode cX7_wash 74 = .ok (.iload_n 1, 1) := by decide +kernel
theorem dX7_wash_75 : decode cX7_wash 75 = .ok (.iaload, 1) := by decide +kernel
theorem dX7_wash_76 : decode cX7_wash 76 = .ok (.iadd, 1) := by decide +kernel
theorem dX7_wash_77 : decode cX7_wash 77 = .ok (.ireturn, 1) := by decide +kernel
theorem dX5_dries_0 : decode cX5_dries 0 = .ok (.aload_n 0, 1) := by decide +kernel
theorem dX5_dries_1 : decode cX5_dries 1 = .ok (.iload_n 1, 1) := by decide +kernel
theorem dX5_dries_2 : decode cX5_dries 2 = .ok (.bipush 8, 2) := by decide +kernel
theorem dX5_dries_4 : decode cX5_dries 4 = .ok (.invokevirtual 55, 3) := by decide +kernel
theorem dX5_dries_7 : decode cX5_dries 7 = .ok (.iconst 2, 1) := by decide +kernel
theorem dX5_dries_8 : decode cX5_dries 8 = .ok (.if_icmp .ne 37, 3) := by decide +kernel
theorem dX5_dries_11 : decode cX5_dries 11 = .ok (.aload_n 0, 1) := by decide +kernel
theorem dX5_dries_12 : decode cX5_dries 12 = .ok (.iload_n 1, 1) := by decide +kernel
theorem dX5_dries_13 : decode cX5_dries 13 = .ok (.bipush 9, 2) := by decide +kernel
theorem dX5_dries_15 : decode cX5_dries 15 = .ok (.invokevirtual 55, 3) := by decide +kernel
theorem dX5_dries_18 : decode cX5_dries 18 = .ok (.aload_n 0, 1) := by decide +kernel
theorem dX5_dries_19 : decode cX5_dries 19 = .ok (.getfield 68, 3) := by decide +kernel
theorem dX5_dries_22 : decode cX5_dries 22 = .ok (.if_icmp .gt 23, 3) := by decide +kernel
theorem dX5_dries_25 : decode cX5_dries 25 = .ok (.aload_n 0, 1) := by decide +kernel
theorem dX5_dries_26 : decode cX5_dries 26 = .ok (.iload_n 1, 1) := by decide +kernel
theorem dX5_dries_27 : decode cX5_dries 27 = .ok (.iconst 3, 1) := by decide +kernel
theorem dX5_dries_28 : decode cX5_dries 28 = .ok (.aload_n 0, 1) := by decide +kernel
theorem dX5_dries_29 : decode cX5_dries 29 = .ok (.iload_n 1, 1) := by decide +kernel
theorem dX5_dries_30 : decode cX5_dries 30 = .ok (.bipush 9, 2) := by decide +kernel
theorem dX5_dries_32 : decode cX5_dries 32 = .ok (.invokevirtual 55, 3) := by decide +kernel
theorem dX5_dries_35 : decode cX5_dries 35 = .ok (.aload_n 0, 1) := by decide +kernel
theorem dX5_dries_36 : decode cX5_dries 36 = .ok (.iload_n 1, 1) := by decide +kernel
theorem dX5_dries_37 : decode cX5_dries 37 = .ok (.iconst 2, 1) := by decide +kernel
theorem dX5_dries_38 : decode cX5_dries 38 = .ok (.invokevirtual 55, 3) := by decide +kernel
theorem dX5_dries_41 : decode cX5_dries 41 = .ok (.iadd, 1) := by decide +kernel
theorem dX5_dries_42 : decode cX5_dries 42 = .ok (.invokevirtual 52, 3) := by decide +kernel
theorem dX5_dries_45 : decode cX5_dries 45 = .ok (.aload_n 0, 1) := by decide +kernel
theorem dX5_dries_46 : decode cX5_dries 46 = .ok (.iload_n 1, 1) := by decide +kernel
theorem dX5_dries_47 : decode cX5_dries 47 = .ok (.bipush 8, 2) := by decide +kernel
theorem dX5_dries_49 : decode cX5_dries 49 = .ok (.invokevirtual 55, 3) := by decide +kernel
theorem dX5_dries_52 : decode cX5_dries 52 = .ok (.iconst 3, 1) := by decide +kernel
theorem dX5_dries_53 : decode cX5_dries 53 = .ok (.if_icmp .ne 26, 3) := by decide +kernel
theorem dX5_dries_56 : decode cX5_dries 56 = .ok (.aload_n 0, 1) := by decide +kernel
theorem dX5_dries_57 : decode cX5_dries 57 = .ok (.iload_n 1, 1) := by decide +kernel
theorem dX5_dries_58 : decode cX5_dries 58 = .ok (.bipush 9, 2) := by decide +kernel
theorem dX5_dries_60 : decode cX5_dries 60 = .ok (.invokevirtual 55, 3) := by decide +kernel
theorem dX5_dries_63 : decode cX5_dries 63 = .ok (.aload_n 0, 1) := by decide +kernel
theorem dX5_dries_64 : decode cX5_dries 64 = .ok (.getfield 68, 3) := by decide +kernel
theorem dX5_dries_67 : decode cX5_dries 67 = .ok (.if_icmp .gt 12, 3) := by decide +kernel
theorem dX5_dries_70 : decode cX5_dries 70 = .ok (.aload_n 0, 1) := by decide +kernel
theorem dX5_dries_71 : decode cX5_dries 71 = .ok (.iload_n 1, 1) := by decide +kernel
theorem dX5_dries_72 : decode cX5_dries 72 = .ok (.iconst 0, 1) := by decide +kernel
theorem dX5_dries_73 : decode cX5_dries 73 = .ok (.iconst 0, 1) := by decide +kernel
theorem dX5_dries_74 : decode cX5_dries 74 = .ok (.invokevirtual 52, 3) := by decide +kernel
theorem dX5_dries_77 : decode cX5_dries 77 = .ok (.iconst 1, 1) := by decide +kernel
theorem dX5_dries_78 : decode cX5_dries 78 = .ok (.ireturn, 1) := by decide +kernel
theorem dX5_dries_79 : decode cX5_dries 79 = .ok (.iconst 0, 1) := by decide +kernel
theorem dX5_dries_80 : decode cX5_dries 80 = .ok (.ireturn, 1) := by decide +kernel
theorem dX5_passHours_0 : decode cX5_passHours 0 = .ok (.aload_n 0, 1) := by decide +kernel
theorem dX5_passHours_1 : decode cX5_passHours 1 = .ok (.dup, 1) := by decide +kernel
theorem dX5_passHours_2 : decode cX5_passHours 2 = .ok (.getfield 68, 3) := by decide +kernel
theorem dX5_passHours_5 : decode cX5_passHours 5 = .ok (.iload_n 1, 1) := by decide +kernel
theorem dX5_passHours_6 : decode cX5_passHours 6 = .ok (.iadd, 1) := by decide +kernel
theorem dX5_passHours_7 : decode cX5_passHours 7 = .ok (.putfield 68, 3) := by decide +kernel
theorem dX5_passHours_10 : decode cX5_passHours 10 = .ok (.iconst 0, 1) := by decide +kernel
theorem dX5_passHours_11 : decode cX5_passHours 11 = .ok (.istore_n 2, 1) := by decide +kernel
theorem dX5_passHours_12 : decode cX5_passHours 12 = .ok (.iconst 0, 1) := by decide +kernel
theorem dX5_passHours_13 : decode cX5_passHours 13 = .ok (.istore_n 3, 1) := by decide +kernel
theorem dX5_passHours_14 : decode cX5_passHours 14 = .ok (.iload_n 3, 1) := by decide +kernel
theorem dX5_passHours_15 : decode cX5_passHours 15 = .ok (.aload_n 0, 1) := by decide +kernel
theorem dX5_passHours_16 : decode cX5_passHours 16 = .ok (.getfield 15, 3) := by decide +kernel
theorem dX5_passHours_19 : decode cX5_passHours 19 = .ok (.if_icmp .ge 20, 3) := by decide +kernel
theorem dX5_passHours_22 : decode cX5_passHours 22 = .ok (.aload_n 0, 1) := by decide +kernel
theorem dX5_passHours_23 : decode cX5_passHours 23 = .ok (.iload_n 3, 1) := by decide +kernel
theorem dX5_passHours_24 : decode cX5_passHours 24 = .ok (.invokevirtual 71, 3) := by decide +kernel
theorem dX5_passHours_27 : decode cX5_passHours 27 = .ok (.ifCond .eq 6, 3) := by decide +kernel
theorem dX5_passHours_30 : decode cX5_passHours 30 = .ok (.iinc 2 1, 3) := by decide +kernel
theorem dX5_passHours_33 : decode cX5_passHours 33 = .ok (.iinc 3 1, 3) := by decide +kernel
theorem dX5_passHours_36 : decode cX5_passHours 36 = .ok (.goto (-22), 3) := by decide +kernel
theorem dX5_passHours_39 : decode cX5_passHours 39 = .ok (.iload_n 2, 1) := by decide +kernel
theorem dX5_passHours_40 : decode cX5_passHours 40 = .ok (.ireturn, 1) := by decide +kernel
theorem dX6_hours_0 : decode cX6_hours 0 = .ok (.iload_n 1, 1) := by decide +kernel
theorem dX6_hours_1 : decode cX6_hours 1 = .ok (.iconst 1, 1) := by decide +kernel
theorem dX6_hours_2 : decode cX6_hours 2 = .ok (.bipush 100, 2) := by decide +kernel
theorem dX6_hours_4 : decode cX6_hours 4 = .ok (.invokestatic 88, 3) := by decide +kernel
theorem dX6_hours_7 : decode cX6_hours 7 = .ok (.ifCond .ne 9, 3) := by decide +kernel
theorem dX6_hours_10 : decode cX6_hours 10 = .ok (.aload_n 0, 1) := by decide +kernel
theorem dX6_hours_11 : decode cX6_hours 11 = .ok (.iconst 1, 1) := by decide +kernel
theorem dX6_hours_12 : decode cX6_hours 12 = .ok (.invokevirtual 72, 3) := by decide +kernel
theorem dX6_hours_15 : decode cX6_hours 15 = .ok (.ireturn, 1) := by decide +kernel
theorem dX6_hours_16 : decode cX6_hours 16 = .ok (.aload_n 0, 1) := by decide +kernel
theorem dX6_hours_17 : decode cX6_hours 17 = .ok (.getfield 10, 3) := by decide +kernel
theorem dX6_hours_20 : decode cX6_hours 20 = .ok (.getfield 189, 3) := by decide +kernel
theorem dX6_hours_23 : decode cX6_hours 23 = .ok (.iload_n 1, 1) := by decide +kernel
theorem dX6_hours_24 : decode cX6_hours 24 = .ok (.iadd, 1) := by decide +kernel
theorem dX6_hours_25 : decode cX6_hours 25 = .ok (.ldc 192, 2) := by decide +kernel
theorem dX6_hours_27 : decode cX6_hours 27 = .ok (.if_icmp .le 9, 3) := by decide +kernel
theorem dX6_hours_30 : decode cX6_hours 30 = .ok (.aload_n 0, 1) := by decide +kernel
theorem dX6_hours_31 : decode cX6_hours 31 = .ok (.iconst 4, 1) := by decide +kernel
theorem dX6_hours_32 : decode cX6_hours 32 = .ok (.invokevirtual 72, 3) := by decide +kernel
theorem dX6_hours_35 : decode cX6_hours 35 = .ok (.ireturn, 1) := by decide +kernel
theorem dX6_hours_36 : decode cX6_hours 36 = .ok (.aload_n 0, 1) := by decide +kernel
theorem dX6_hours_37 : decode cX6_hours 37 = .ok (.getfield 10, 3) := by decide +kernel
theorem dX6_hours_40 : decode cX6_hours 40 = .ok (.iload_n 1, 1) := by decide +kernel
theorem dX6_hours_41 : decode cX6_hours 41 = .ok (.invokevirtual 193, 3) := by decide +kernel
theorem dX6_hours_44 : decode cX6_hours 44 = .ok (.ireturn, 1) := by decide +kernel
theorem dX7_hours_0 : decode cX7_hours 0 = .ok (.iload_n 1, 1) := by decide +kernel
theorem dX7_hours_1 : decode cX7_hours 1 = .ok (.iconst 1, 1) := by decide +kernel
theorem dX7_hours_2 : decode cX7_hours 2 = .ok (.bipush 100, 2) := by decide +kernel
theorem dX7_hours_4 : decode cX7_hours 4 = .ok (.invokestatic 100, 3) := by decide +kernel
theorem dX7_hours_7 : decode cX7_hours 7 = .ok (.ifCond .ne 9, 3) := by decide +kernel
theorem dX7_hours_10 : decode cX7_hours 10 = .ok (.aload_n 0, 1) := by decide +kernel
theorem dX7_hours_11 : decode cX7_hours 11 = .ok (.iconst 1, 1) := by decide +kernel
theorem dX7_hours_12 : decode cX7_hours 12 = .ok (.invokevirtual 104, 3) := by decide +kernel
theorem dX7_hours_15 : decode cX7_hours 15 = .ok (.ireturn, 1) := by decide +kernel
theorem dX7_hours_16 : decode cX7_hours 16 = .ok (.aload_n 0, 1) := by decide +kernel
theorem dX7_hours_17 : decode cX7_hours 17 = .ok (.getfield 182, 3) := by decide +kernel
theorem dX7_hours_20 : decode cX7_hours 20 = .ok (.iload_n 1, 1) := by decide +kernel
theorem dX7_hours_21 : decode cX7_hours 21 = .ok (.iadd, 1) := by decide +kernel
theorem dX7_hours_22 : decode cX7_hours 22 = .ok (.ldc 185, 2) := by decide +kernel
theorem dX7_hours_24 : decode cX7_hours 24 = .ok (.if_icmp .le 9, 3) := by decide +kernel
theorem dX7_hours_27 : decode cX7_hours 27 = .ok (.aload_n 0, 1) := by decide +kernel
theorem dX7_hours_28 : decode cX7_hours 28 = .ok (.iconst 4, 1) := by decide +kernel
theorem dX7_hours_29 : decode cX7_hours 29 = .ok (.invokevirtual 104, 3) := by decide +kernel
theorem dX7_hours_32 : decode cX7_hours 32 = .ok (.ireturn, 1) := by decide +kernel
theorem dX7_hours_33 : decode cX7_hours 33 = .ok (.aload_n 0, 1) := by decide +kernel
theorem dX7_hours_34 : decode cX7_hours 34 = .ok (.dup, 1) := by decide +kernel
theorem dX7_hours_35 : decode cX7_hours 35 = .ok (.getfield 182, 3) := by decide +kernel
theorem dX7_hours_38 : decode cX7_hours 38 = .ok (.iload_n 1, 1) := by decide +kernel
theorem dX7_hours_39 : decode cX7_hours 39 = .ok (.iadd, 1) := by decide +kernel
theorem dX7_hours_40 : decode cX7_hours 40 = .ok (.putfield 182, 3) := by decide +kernel
theorem dX7_hours_43 : decode cX7_hours 43 = .ok (.iconst 0, 1) := by decide +kernel
theorem dX7_hours_44 : decode cX7_hours 44 = .ok (.istore_n 2, 1) := by decide +kernel
theorem dX7_hours_45 : decode cX7_hours 45 = .ok (.iconst 0, 1) := by decide +kernel
theorem dX7_hours_46 : decode cX7_hours 46 = .ok (.istore_n 3, 1) := by decide +kernel
theorem dX7_hours_47 : decode cX7_hours 47 = .ok (.iload_n 3, 1) := by decide +kernel
theorem dX7_hours_48 : decode cX7_hours 48 = .ok (.aload_n 0, 1) := by decide +kernel
theorem dX7_hours_49 : decode cX7_hours 49 = .ok (.getfield 97, 3) := by decide +kernel
theorem dX7_hours_52 : decode cX7_hours 52 = .ok (.if_icmp .ge 87, 3) := by decide +kernel
theorem dX7_hours_55 : decode cX7_hours 55 = .ok (.aload_n 0, 1) := by decide +kernel
theorem dX7_hours_56 : decode cX7_hours 56 = .ok (.getfield 34, 3) := by decide +kernel
theorem dX7_hours_59 : decode cX7_hours 59 = .ok (.iload_n 3, 1) := by decide +kernel
theorem dX7_hours_60 : decode cX7_hours 60 = .ok (.iaload, 1) := by decide +kernel
theorem dX7_hours_61 : decode cX7_hours 61 = .ok (.iconst 2, 1) := by decide +kernel
theorem dX7_hours_62 : decode cX7_hours 62 = .ok (.if_icmp .ne 38, 3) := by decide +kernel
theorem dX7_hours_65 : decode cX7_hours 65 = .ok (.aload_n 0, 1) := by decide +kernel
theorem dX7_hours_66 : decode cX7_hours 66 = .ok (.getfield 37, 3) := by decide +kernel
theorem dX7_hours_69 : decode cX7_hours 69 = .ok (.iload_n 3, 1) := by decide +kernel
theorem dX7_hours_70 : decode cX7_hours 70 = .ok (.iaload, 1) := by decide +kernel
theorem dX7_hours_71 : decode cX7_hours 71 = .ok (.aload_n 0, 1) := by decide +kernel
theorem dX7_hours_72 : decode cX7_hours 72 = .ok (.getfield 182, 3) := by decide +kernel
theorem dX7_hours_75 : decode cX7_hours 75 = .ok (.if_icmp .gt 25, 3) := by decide +kernel
theorem dX7_hours_78 : decode cX7_hours 78 = .ok (.aload_n 0, 1) := by decide +kernel
theorem dX7_hours_79 : decode cX7_hours 79 = .ok (.getfield 34, 3) := by decide +kernel
theorem dX7_hours_82 : decode cX7_hours 82 = .ok (.iload_n 3, 1) := by decide +kernel
theorem dX7_hours_83 : decode cX7_hours 83 = .ok (.iconst 3, 1) := by decide +kernel
theorem dX7_hours_84 : decode cX7_hours 84 = .ok (.iastore, 1) := by decide +kernel
theorem dX7_hours_85 : decode cX7_hours 85 = .ok (.aload_n 0, 1) := by decide +kernel
theorem dX7_hours_86 : decode cX7_hours 86 = .ok (.getfield 37, 3) := by decide +kernel
theorem dX7_hours_89 : decode cX7_hours 89 = .ok (.iload_n 3, 1) := by decide +kernel
theorem dX7_hours_90 : decode cX7_hours 90 = .ok (.dup2, 1) := by decide +kernel
theorem dX7_hours_91 : decode cX7_hours 91 = .ok (.iaload, 1) := by decide +kernel
theorem dX7_hours_92 : decode cX7_hours 92 = .ok (.aload_n 0, 1) := by decide +kernel
theorem dX7_hours_93 : decode cX7_hours 93 = .ok (.getfield 16, 3) := by decide +kernel
theorem dX7_hours_96 : decode cX7_hours 96 = .ok (.iload_n 3, 1) := by decide +kernel
theorem dX7_hours_97 : decode cX7_hours 97 = .ok (.iaload, 1) := by decide +kernel
theorem dX7_hours_98 : decode cX7_hours 98 = .ok (.iadd, 1) := by decide +kernel
theorem dX7_hours_99 : decode cX7_hours 99 = .ok (.iastore, 1) := by decide +kernel
theorem dX7_hours_100 : decode cX7_hours 100 = .ok (.aload_n 0, 1) := by decide +kernel
theorem dX7_hours_101 : decode cX7_hours 101 = .ok (.getfield 34, 3) := by decide +kernel
theorem dX7_hours_104 : decode cX7_hours 104 = .ok (.iload_n 3, 1) := by decide +kernel
theorem dX7_hours_105 : decode cX7_hours 105 = .ok (.iaload, 1) := by decide +kernel
theorem dX7_hours_106 : decode cX7_hours 106 = .ok (.iconst 3, 1) := by decide +kernel
theorem dX7_hours_107 : decode cX7_hours 107 = .ok (.if_icmp .ne 26, 3) := by decide +kernel
theorem dX7_hours_110 : decode cX7_hours 110 = .ok (.aload_n 0, 1) := by decide +kernel
theorem dX7_hours_111 : decode cX7_hours 111 = .ok (.getfield 37, 3) := by decide +kernel
theorem dX7_hours_114 : decode cX7_hours 114 = .ok (.iload_n 3, 1) := by decide +kernel
theorem dX7_hours_115 : decode cX7_hours 115 = .ok (.iaload, 1) := by decide +kernel
theorem dX7_hours_116 : decode cX7_hours 116 = .ok (.aload_n 0, 1) := by decide +kernel
theorem dX7_hours_117 : decode cX7_hours 117 = .ok (.getfield 182, 3) := by decide +kernel
theorem dX7_hours_120 : decode cX7_hours 120 = .ok (.if_icmp .gt 13, 3) := by decide +kernel
theorem dX7_hours_123 : decode cX7_hours 123 = .ok (.aload_n 0, 1) := by decide +kernel
theorem dX7_hours_124 : decode cX7_hours 124 = .ok (.getfield 34, 3) := by decide +kernel
theorem dX7_hours_127 : decode cX7_hours 127 = .ok (.iload_n 3, 1) := by decide +kernel
theorem dX7_hours_128 : decode cX7_hours 128 = .ok (.iconst 0, 1) := by decide +kernel
theorem dX7_hours_129 : decode cX7_hours 129 = .ok (.iastore, 1) := by decide +kernel
theorem dX7_hours_130 : decode cX7_hours 130 = .ok (.iinc 2 1, 3) := by decide +kernel
theorem dX7_hours_133 : decode cX7_hours 133 = .ok (.iinc 3 1, 3) := by decide +kernel
theorem dX7_hours_136 : decode cX7_hours 136 = .ok (.goto (-89), 3) := by decide +kernel
theorem dX7_hours_139 : decode cX7_hours 139 = .ok (.iload_n 2, 1) := by decide +kernel
theorem dX7_hours_140 : decode cX7_hours 140 = .ok (.ireturn, 1) := by decide +kernel
theorem dX5_sizesAway_0 : decode cX5_sizesAway 0 = .ok (.aload_n 0, 1) := by decide +kernel
theorem dX5_sizesAway_1 : decode cX5_sizesAway 1 = .ok (.iload_n 1, 1) := by decide +kernel
theorem dX5_sizesAway_2 : decode cX5_sizesAway 2 = .ok (.bipush 6, 2) := by decide +kernel
theorem dX5_sizesAway_4 : decode cX5_sizesAway 4 = .ok (.invokevirtual 55, 3) := by decide +kernel
theorem dX5_sizesAway_7 : decode cX5_sizesAway 7 = .ok (.istore_n 3, 1) := by decide +kernel
theorem dX5_sizesAway_8 : decode cX5_sizesAway 8 = .ok (.iload_n 3, 1) := by decide +kernel
theorem dX5_sizesAway_9 : decode cX5_sizesAway 9 = .ok (.aload_n 0, 1) := by decide +kernel
theorem dX5_sizesAway_10 : decode cX5_sizesAway 10 = .ok (.iload_n 1, 1) := by decide +kernel
theorem dX5_sizesAway_11 : decode cX5_sizesAway 11 = .ok (.bipush 7, 2) := by decide +kernel
theorem dX5_sizesAway_13 : decode cX5_sizesAway 13 = .ok (.invokevirtual 55, 3) := by decide +kernel
theorem dX5_sizesAway_16 : decode cX5_sizesAway 16 = .ok (.iadd, 1) := by decide +kernel
theorem dX5_sizesAway_17 : decode cX5_sizesAway 17 = .ok (.istore 4, 2) := by decide +kernel
theorem dX5_sizesAway_19 : decode cX5_sizesAway 19 = .ok (.iconst 0, 1) := by decide +kernel
theorem dX5_sizesAway_20 : decode cX5_sizesAway 20 = .ok (.iload_n 3, 1) := by decide +kernel
theorem dX5_sizesAway_21 : decode cX5_sizesAway 21 = .ok (.iload_n 2, 1) := by decide +kernel
theorem dX5_sizesAway_22 : decode cX5_sizesAway 22 = .ok (.isub, 1) := by decide +kernel
theorem dX5_sizesAway_23 : decode cX5_sizesAway 23 = .ok (.iload_n 2, 1) := by decide +kernel
theorem dX5_sizesAway_24 : decode cX5_sizesAway 24 = .ok (.iload 4, 2) := by decide +kernel
theorem dX5_sizesAway_26 : decode cX5_sizesAway 26 = .ok (.isub, 1) := by decide +kernel
theorem dX5_sizesAway_27 : decode cX5_sizesAway 27 = .ok (.invokestatic 63, 3) := by decide +kernel
theorem dX5_sizesAway_30 : decode cX5_sizesAway 30 = .ok (.invokestatic 63, 3) := by decide +kernel
theorem dX5_sizesAway_33 : decode cX5_sizesAway 33 = .ok (.ireturn, 1) := by decide +kernel
theorem dX5_areAlike_0 : decode cX5_areAlike 0 = .ok (.aload_n 0, 1) := by decide +kernel
theorem dX5_areAlike_1 : decode cX5_areAlike 1 = .ok (.iload_n 1, 1) := by decide +kernel
theorem dX5_areAlike_2 : decode cX5_areAlike 2 = .ok (.iload_n 2, 1) := by decide +kernel
theorem dX5_areAlike_3 : decode cX5_areAlike 3 = .ok (.invokevirtual 59, 3) := by decide +kernel
theorem dX5_areAlike_6 : decode cX5_areAlike 6 = .ok (.ifCond .eq 22, 3) := by decide +kernel
theorem dX5_areAlike_9 : decode cX5_areAlike 9 = .ok (.aload_n 0, 1) := by decide +kernel
theorem dX5_areAlike_10 : decode cX5_areAlike 10 = .ok (.iload_n 1, 1) := by decide +kernel
theorem dX5_areAlike_11 : decode cX5_areAlike 11 = .ok (.iconst 5, 1) := by decide +kernel
theorem dX5_areAlike_12 : decode cX5_areAlike 12 = .ok (.invokevirtual 55, 3) := by decide +kernel
theorem dX5_areAlike_15 : decode cX5_areAlike 15 = .ok (.aload_n 0, 1) := by decide +kernel
theorem dX5_areAlike_16 : decode cX5_areAlike 16 = .ok (.iload_n 2, 1) := by decide +kernel
theorem dX5_areAlike_17 : decode cX5_areAlike 17 = .ok (.iconst 5, 1) := by decide +kernel
theorem dX5_areAlike_18 : decode cX5_areAlike 18 = .ok (.invokevirtual 55, 3) := by decide +kernel
theorem dX5_areAlike_21 : decode cX5_areAlike 21 = .ok (.if_icmp .ne 7, 3) := by decide +kernel
theorem dX5_areAlike_24 : decode cX5_areAlike 24 = .ok (.iconst 1, 1) := by decide +kernel
theorem dX5_areAlike_25 : decode cX5_areAlike 25 = .ok (.goto 4, 3) := by decide +kernel
theorem dX5_areAlike_28 : decode cX5_areAlike 28 = .ok (.iconst 0, 1) := by decide +kernel
theorem dX5_areAlike_29 : decode cX5_areAlike 29 = .ok (.ireturn, 1) := by decide +kernel
theorem dX6_countAheadForSwap_0 : decode cX6_countAheadForSwap 0 = .ok (.aload_n 0, 1) := by decide +kernel
theorem dX6_countAheadForSwap_1 : decode cX6_countAheadForSwap 1 = .ok (.getfield 19, 3) := by decide +kernel
theorem dX6_countAheadForSwap_4 : decode cX6_countAheadForSwap 4 = .ok (.iload_n 1, 1) := by decide +kernel
theorem dX6_countAheadForSwap_5 : decode cX6_countAheadForSwap 5 = .ok (.iload_n 2, 1) := by decide +kernel
theorem dX6_countAheadForSwap_6 : decode cX6_countAheadForSwap 6 = .ok (.invokevirtual 108, 3) := by decide +kernel
theorem dX6_countAheadForSwap_9 : decode cX6_countAheadForSwap 9 = .ok (.istore 4, 2) := by decide +kernel
theorem dX6_countAheadForSwap_11 : decode cX6_countAheadForSwap 11 = .ok (.aload_n 0, 1) := by decide +kernel
theorem dX6_countAheadForSwap_12 : decode cX6_countAheadForSwap 12 = .ok (.getfield 10, 3) := by decide +kernel
theorem dX6_countAheadForSwap_15 : decode cX6_countAheadForSwap 15 = .ok (.iload 4, 2) := by decide +kernel
theorem dX6_countAheadForSwap_17 : decode cX6_countAheadForSwap 17 = .ok (.iload_n 3, 1) := by decide +kernel
theorem dX6_countAheadForSwap_18 : decode cX6_countAheadForSwap 18 = .ok (.invokevirtual 256, 3) := by decide +kernel
theorem dX6_countAheadForSwap_21 : decode cX6_countAheadForSwap 21 = .ok (.istore 5, 2) := by decide +kernel
theorem dX6_countAheadForSwap_23 : decode cX6_countAheadForSwap 23 = .ok (.iconst 0, 1) := by decide +kernel
theorem dX6_countAheadForSwap_24 : decode cX6_countAheadForSwap 24 = .ok (.istore 6, 2) := by decide +kernel
theorem dX6_countAheadForSwap_26 : decode cX6_countAheadForSwap 26 = .ok (.aload_n 0, 1) := by decide +kernel
theorem dX6_countAheadForSwap_27 : decode cX6_countAheadForSwap 27 = .ok (.getfield 19, 3) := by decide +kernel
theorem dX6_countAheadForSwap_30 : decode cX6_countAheadForSwap 30 = .ok (.iload_n 1, 1) := by decide +kernel
theorem dX6_countAheadForSwap_31 : decode cX6_countAheadForSwap 31 = .ok (.invokevirtual 99, 3) := by decide +kernel
theorem dX6_countAheadForSwap_34 : decode cX6_countAheadForSwap 34 = .ok (.istore 7, 2) := by decide +kernel
theorem dX6_countAheadForSwap_36 : decode cX6_countAheadForSwap 36 = .ok (.iconst 0, 1) := by decide +kernel
theorem dX6_countAheadForSwap_37 : decode cX6_countAheadForSwap 37 = .ok (.istore 8, 2) := by decide +kernel
theorem dX6_countAheadForSwap_39 : decode cX6_countAheadForSwap 39 = .ok (.iload 8, 2) := by decide +kernel
theorem dX6_countAheadForSwap_41 : decode cX6_countAheadForSwap 41 = .ok (.iload 7, 2) := by decide +kernel
theorem dX6_countAheadForSwap_43 : decode cX6_countAheadForSwap 43 = .ok (.if_icmp .ge 70, 3) := by decide +kernel
theorem dX6_countAheadForSwap_46 : decode cX6_countAheadForSwap 46 = .ok (.aload_n 0, 1) := by decide +kernel
theorem dX6_countAheadForSwap_47 : decode cX6_countAheadForSwap 47 = .ok (.getfield 19, 3) := by decide +kernel
theorem dX6_countAheadForSwap_50 : decode cX6_countAheadForSwap 50 = .ok (.iload_n 1, 1) := by decide +kernel
theorem dX6_countAheadForSwap_51 : decode cX6_countAheadForSwap 51 = .ok (.iload 8, 2) := by decide +kernel
theorem dX6_countAheadForSwap_53 : decode cX6_countAheadForSwap 53 = .ok (.invokevirtual 108, 3) := by decide +kernel
theorem dX6_countAheadForSwap_56 : decode cX6_countAheadForSwap 56 = .ok (.istore 9, 2) := by decide +kernel
theorem dX6_countAheadForSwap_58 : decode cX6_countAheadForSwap 58 = .ok (.aload_n 0, 1) := by decide +kernel
theorem dX6_countAheadForSwap_59 : decode cX6_countAheadForSwap 59 = .ok (.getfield 10, 3) := by decide +kernel
theorem dX6_countAheadForSwap_62 : decode cX6_countAheadForSwap 62 = .ok (.iload 9, 2) := by decide +kernel
theorem dX6_countAheadForSwap_64 : decode cX6_countAheadForSwap 64 = .ok (.iload_n 3, 1) := by decide +kernel
theorem dX6_countAheadForSwap_65 : decode cX6_countAheadForSwap 65 = .ok (.invokevirtual 256, 3) := by decide +kernel
theorem dX6_countAheadForSwap_68 : decode cX6_countAheadForSwap 68 = .ok (.istore 10, 2) := by decide +kernel
theorem dX6_countAheadForSwap_70 : decode cX6_countAheadForSwap 70 = .ok (.aload_n 0, 1) := by decide +kernel
theorem dX6_countAheadForSwap_71 : decode cX6_countAheadForSwap 71 = .ok (.getfield 10, 3) := by decide +kernel
theorem dX6_countAheadForSwap_74 : decode cX6_countAheadForSwap 74 = .ok (.iload 4, 2) := by decide +kernel
theorem dX6_countAheadForSwap_76 : decode cX6_countAheadForSwap 76 = .ok (.iload 9, 2) := by decide +kernel
theorem dX6_countAheadForSwap_78 : decode cX6_countAheadForSwap 78 = .ok (.invokevirtual 265, 3) := by decide +kernel
theorem dX6_countAheadForSwap_81 : decode cX6_countAheadForSwap 81 = .ok (.ifCond .eq 26, 3) := by decide +kernel
theorem dX6_countAheadForSwap_84 : decode cX6_countAheadForSwap 84 = .ok (.iload 10, 2) := by decide +kernel
theorem dX6_countAheadForSwap_86 : decode cX6_countAheadForSwap 86 = .ok (.iload 5, 2) := by decide +kernel
theorem dX6_countAheadForSwap_88 : decode cX6_countAheadForSwap 88 = .ok (.if_icmp .gt 16, 3) := by decide +kernel
theorem dX6_countAheadForSwap_91 : decode cX6_countAheadForSwap 91 = .ok (.iload 10, 2) := by decide +kernel
theorem dX6_countAheadForSwap_93 : decode cX6_countAheadForSwap 93 = .ok (.iload 5, 2) := by decide +kernel
theorem dX6_countAheadForSwap_95 : decode cX6_countAheadForSwap 95 = .ok (.if_icmp .ne 12, 3) := by decide +kernel
theorem dX6_countAheadForSwap_98 : decode cX6_countAheadForSwap 98 = .ok (.iload 8, 2) := by decide +kernel
theorem dX6_countAheadForSwap_100 : decode cX6_countAheadForSwap 100 = .ok (.iload_n 2, 1) := by decide +kernel
theorem dX6_countAheadForSwap_101 : decode cX6_countAheadForSwap 101 = .ok (.if_icmp .ge 6, 3) := by decide +kernel
theorem dX6_countAheadForSwap_104 : decode cX6_countAheadForSwap 104 = .ok (.iinc 6 1, 3) := by decide +kernel
theorem dX6_countAheadForSwap_107 : decode cX6_countAheadForSwap 107 = .ok (.iinc 8 1, 3) := by decide +kernel
theorem dX6_countAheadForSwap_110 : decode cX6_countAheadForSwap 110 = .ok (.goto (-71), 3) := by decide +kernel
theorem dX6_countAheadForSwap_113 : decode cX6_countAheadForSwap 113 = .ok (.iload 6, 2) := by decide +kernel
theorem dX6_countAheadForSwap_115 : decode cX6_countAheadForSwap 115 = .ok (.ireturn, 1) := by decide +kernel
theorem dX2_isInNone_0 : decode cX2_isInNone 0 = .ok (.iload_n 1, 1) := by decide +kernel
theorem dX2_isInNone_1 : decode cX2_isInNone 1 = .ok (.iconst 0, 1) := by decide +kernel
theorem dX2_isInNone_2 : decode cX2_isInNone 2 = .ok (.bipush 31, 2) := by decide +kernel
theorem dX2_isInNone_4 : decode cX2_isInNone 4 = .ok (.invokestatic 33, 3) := by decide +kernel
theorem dX2_isInNone_7 : decode cX2_isInNone 7 = .ok (.ifCond .eq 16, 3) := by decide +kernel
theorem dX2_isInNone_10 : decode cX2_isInNone 10 = .ok (.aload_n 0, 1) := by decide +kernel
theorem dX2_isInNone_11 : decode cX2_isInNone 11 = .ok (.getfield 18, 3) := by decide +kernel
theorem dX2_isInNone_14 : decode cX2_isInNone 14 = .ok (.iload_n 1, 1) := by decide +kernel
theorem dX2_isInNone_15 : decode cX2_isInNone 15 = .ok (.iaload, 1) := by decide +kernel
theorem dX2_isInNone_16 : decode cX2_isInNone 16 = .ok (.ifCond .ne 7, 3) := by decide +kernel
theorem dX2_isInNone_19 : decode cX2_isInNone 19 = .ok (.iconst 1, 1) := by decide +kernel
theorem dX2_isInNone_20 : decode cX2_isInNone 20 = .ok (.goto 4, 3) := by decide +kernel
theorem dX2_isInNone_23 : decode cX2_isInNone 23 = .ok (.iconst 0, 1) := by decide +kernel
theorem dX2_isInNone_24 : decode cX2_isInNone 24 = .ok (.ireturn, 1) := by decide +kernel
theorem dX6_countSpares_0 : decode cX6_countSpares 0 = .ok (.iconst 0, 1) := by decide +kernel
theorem dX6_countSpares_1 : decode cX6_countSpares 1 = .ok (.istore_n 3, 1) := by decide +kernel
theorem dX6_countSpares_2 : decode cX6_countSpares 2 = .ok (.iconst 0, 1) := by decide +kernel
theorem dX6_countSpares_3 : decode cX6_countSpares 3 = .ok (.istore 4, 2) := by decide +kernel
theorem dX6_countSpares_5 : decode cX6_countSpares 5 = .ok (.iload 4, 2) := by decide +kernel
theorem dX6_countSpares_7 : decode cX6_countSpares 7 = .ok (.bipush 32, 2) := by decide +kernel
theorem dX6_countSpares_9 : decode cX6_countSpares 9 = .ok (.if_icmp .ge 76, 3) := by decide +kernel
theorem dX6_countSpares_12 : decode cX6_countSpares 12 = .ok (.aload_n 0, 1) := by decide +kernel
theorem dX6_countSpares_13 : decode cX6_countSpares 13 = .ok (.getfield 10, 3) := by decide +kernel
theorem dX6_countSpares_16 : decode cX6_countSpares 16 = .ok (.iload 4, 2) := by decide +kernel
theorem dX6_countSpares_18 : decode cX6_countSpares 18 = .ok (.invokevirtual 84, 3) := by decide +kernel
theorem dX6_countSpares_21 : decode cX6_countSpares 21 = .ok (.ifCond .eq 58, 3) := by decide +kernel
theorem dX6_countSpares_24 : decode cX6_countSpares 24 = .ok (.aload_n 0, 1) := by decide +kernel
theorem dX6_countSpares_25 : decode cX6_countSpares 25 = .ok (.getfield 10, 3) := by decide +kernel
theorem dX6_countSpares_28 : decode cX6_countSpares 28 = .ok (.iload_n 1, 1) := by decide +kernel
theorem dX6_countSpares_29 : decode cX6_countSpares 29 = .ok (.iload 4, 2) := by decide +kernel
theorem dX6_countSpares_31 : decode cX6_countSpares 31 = .ok (.invokevirtual 265, 3) := by decide +kernel
theorem dX6_countSpares_34 : decode cX6_countSpares 34 = .ok (.ifCond .eq 45, 3) := by decide +kernel
theorem dX6_countSpares_37 : decode cX6_countSpares 37 = .ok (.aload_n 0, 1) := by decide +kernel
theorem dX6_countSpares_38 : decode cX6_countSpares 38 = .ok (.getfield 10, 3) := by decide +kernel
theorem dX6_countSpares_41 : decode cX6_countSpares 41 = .ok (.iload 4, 2) := by decide +kernel
theorem dX6_countSpares_43 : decode cX6_countSpares 43 = .ok (.iload_n 2, 1) := by decide +kernel
theorem dX6_countSpares_44 : decode cX6_countSpares 44 = .ok (.invokevirtual 256, 3) := by decide +kernel
theorem dX6_countSpares_47 : decode cX6_countSpares 47 = .ok (.ifCond .ne 32, 3) := by decide +kernel
theorem dX6_countSpares_50 : decode cX6_countSpares 50 = .ok (.aload_n 0, 1) := by decide +kernel
theorem dX6_countSpares_51 : decode cX6_countSpares 51 = .ok (.getfield 10, 3) := by decide +kernel
theorem dX6_countSpares_54 : decode cX6_countSpares 54 = .ok (.iload 4, 2) := by decide +kernel
theorem dX6_countSpares_56 : decode cX6_countSpares 56 = .ok (.bipush 8, 2) := by decide +kernel
theorem dX6_countSpares_58 : decode cX6_countSpares 58 = .ok (.invokevirtual 91, 3) := by decide +kernel
theorem dX6_countSpares_61 : decode cX6_countSpares 61 = .ok (.ifCond .ne 18, 3) := by decide +kernel
theorem dX6_countSpares_64 : decode cX6_countSpares 64 = .ok (.aload_n 0, 1) := by decide +kernel
theorem dX6_countSpares_65 : decode cX6_countSpares 65 = .ok (.getfield 19, 3) := by decide +kernel
theorem dX6_countSpares_68 : decode cX6_countSpares 68 = .ok (.iload 4, 2) := by decide +kernel
theorem dX6_countSpares_70 : decode cX6_countSpares 70 = .ok (.invokevirtual 268, 3) := by decide +kernel
theorem dX6_countSpares_73 : decode cX6_countSpares 73 = .ok (.ifCond .eq 6, 3) := by decide +kernel
theorem dX6_countSpares_76 : decode cX6_countSpares 76 = .ok (.iinc 3 1, 3) := by decide +kernel
theorem dX6_countSpares_79 : decode cX6_countSpares 79 = .ok (.iinc 4 1, 3) := by decide +kernel
theorem dX6_countSpares_82 : decode cX6_countSpares 82 = .ok (.goto (-77), 3) := by decide +kernel
theorem dX6_countSpares_85 : decode cX6_countSpares 85 = .ok (.iload_n 3, 1) := by decide +kernel
theorem dX6_countSpares_86 : decode cX6_countSpares 86 = .ok (.ireturn, 1) := by decide +kernel
theorem dX6_costTonight_0 : decode cX6_costTonight 0 = .ok (.aload_n 0, 1) := by decide +kernel
theorem dX6_costTonight_1 : decode cX6_costTonight 1 = .ok (.getfield 19, 3) := by decide +kernel
theorem dX6_costTonight_4 : decode cX6_costTonight 4 = .ok (.iload_n 1, 1) := by decide +kernel
theorem dX6_costTonight_5 : decode cX6_costTonight 5 = .ok (.iload_n 2, 1) := by decide +kernel
theorem dX6_costTonight_6 : decode cX6_costTonight 6 = .ok (.invokevirtual 108, 3) := by decide +kernel
theorem dX6_costTonight_9 : decode cX6_costTonight 9 = .ok (.istore 4, 2) := by decide +kernel
theorem dX6_costTonight_11 : decode cX6_costTonight 11 = .ok (.aload_n 0, 1) := by decide +kernel
theorem dX6_costTonight_12 : decode cX6_costTonight 12 = .ok (.getfield 10, 3) := by decide +kernel
theorem dX6_costTonight_15 : decode cX6_costTonight 15 = .ok (.iload 4, 2) := by decide +kernel
theorem dX6_costTonight_17 : decode cX6_costTonight 17 = .ok (.iload_n 3, 1) := by decide +kernel
theorem dX6_costTonight_18 : decode cX6_costTonight 18 = .ok (.invokevirtual 256, 3) := by decide +kernel
theorem dX6_costTonight_21 : decode cX6_costTonight 21 = .ok (.istore 5, 2) := by decide +kernel
theorem dX6_costTonight_23 : decode cX6_costTonight 23 = .ok (.iload 5, 2) := by decide +kernel
theorem dX6_costTonight_25 : decode cX6_costTonight 25 = .ok (.ifCond .ne 5, 3) := by decide +kernel
theorem dX6_costTonight_28 : decode cX6_costTonight 28 = .ok (.iconst 0, 1) := by decide +kernel
theorem dX6_costTonight_29 : decode cX6_costTonight 29 = .ok (.ireturn, 1) := by decide +kernel
theorem dX6_costTonight_30 : decode cX6_costTonight 30 = .ok (.aload_n 0, 1) := by decide +kernel
theorem dX6_costTonight_31 : decode cX6_costTonight 31 = .ok (.iload_n 1, 1) := by decide +kernel
theorem dX6_costTonight_32 : decode cX6_costTonight 32 = .ok (.iload_n 2, 1) := by decide +kernel
theorem dX6_costTonight_33 : decode cX6_costTonight 33 = .ok (.iload_n 3, 1) := by decide +kernel
theorem dX6_costTonight_34 : decode cX6_costTonight 34 = .ok (.invokevirtual 259, 3) := by decide +kernel
theorem dX6_costTonight_37 : decode cX6_costTonight 37 = .ok (.aload_n 0, 1) := by decide +kernel
theorem dX6_costTonight_38 : decode cX6_costTonight 38 = .ok (.iload 4, 2) := by decide +kernel
theorem dX6_costTonight_40 : decode cX6_costTonight 40 = .ok (.iload_n 3, 1) := by decide +kernel
theorem dX6_costTonight_41 : decode cX6_costTonight 41 = .ok (.invokevirtual 262, 3) := by decide +kernel
theorem dX6_costTonight_44 : decode cX6_costTonight 44 = .ok (.if_icmp .ge 7, 3) := by decide +kernel
theorem dX6_costTonight_47 : decode cX6_costTonight 47 = .ok (.iconst 1, 1) := by decide +kernel
theorem dX6_costTonight_48 : decode cX6_costTonight 48 = .ok (.goto 8, 3) := by decide +kernel
theorem dX6_costTonight_51 : decode cX6_costTonight 51 = .ok (.bipush 10, 2) := by decide +kernel
theorem dX6_costTonight_53 : decode cX6_costTonight 53 = .ok (.iload 5, 2) := by decide +kernel
theorem dX6_costTonight_55 : decode cX6_costTonight 55 = .ok (.imul, 1) := by decide +kernel
theorem dX6_costTonight_56 : decode cX6_costTonight 56 = .ok (.ireturn, 1) := by decide +kernel
theorem dX6_tonight_0 : decode cX6_tonight 0 = .ok (.aload_n 0, 1) := by decide +kernel
theorem dX6_tonight_1 : decode cX6_tonight 1 = .ok (.getfield 19, 3) := by decide +kernel
theorem dX6_tonight_4 : decode cX6_tonight 4 = .ok (.iload_n 1, 1) := by decide +kernel
theorem dX6_tonight_5 : decode cX6_tonight 5 = .ok (.invokevirtual 95, 3) := by decide +kernel
theorem dX6_tonight_8 : decode cX6_tonight 8 = .ok (.ifCond .eq 14, 3) := by decide +kernel
theorem dX6_tonight_11 : decode cX6_tonight 11 = .ok (.iload_n 2, 1) := by decide +kernel
theorem dX6_tonight_12 : decode cX6_tonight 12 = .ok (.bipush 30, 2) := by decide +kernel
theorem dX6_tonight_14 : decode cX6_tonight 14 = .ok (.bipush 66, 2) := by decide +kernel
theorem dX6_tonight_16 : decode cX6_tonight 16 = .ok (.invokestatic 88, 3) := by decide +kernel
theorem dX6_tonight_19 : decode cX6_tonight 19 = .ok (.ifCond .ne 9, 3) := by decide +kernel
theorem dX6_tonight_22 : decode cX6_tonight 22 = .ok (.aload_n 0, 1) := by decide +kernel
theorem dX6_tonight_23 : decode cX6_tonight 23 = .ok (.iconst 1, 1) := by decide +kernel
theorem dX6_tonight_24 : decode cX6_tonight 24 = .ok (.invokevirtual 72, 3) := by decide +kernel
theorem dX6_tonight_27 : decode cX6_tonight 27 = .ok (.ireturn, 1) := by decide +kernel
theorem dX6_tonight_28 : decode cX6_tonight 28 = .ok (.iconst 0, 1) := by decide +kernel
theorem dX6_tonight_29 : decode cX6_tonight 29 = .ok (.istore_n 3, 1) := by decide +kernel
theorem dX6_tonight_30 : decode cX6_tonight 30 = .ok (.aload_n 0, 1) := by decide +kernel
theorem dX6_tonight_31 : decode cX6_tonight 31 = .ok (.getfield 19, 3) := by decide +kernel
theorem dX6_tonight_34 : decode cX6_tonight 34 = .ok (.iload_n 1, 1) := by decide +kernel
theorem dX6_tonight_35 : decode cX6_tonight 35 = .ok (.invokevirtual 99, 3) := by decide +kernel
theorem dX6_tonight_38 : decode cX6_tonight 38 = .ok (.istore 4, 2) := by decide +kernel
theorem dX6_tonight_40 : decode cX6_tonight 40 = .ok (.iconst 0, 1) := by decide +kernel
theorem dX6_tonight_41 : decode cX6_tonight 41 = .ok (.istore 5, 2) := by decide +kernel
theorem dX6_tonight_43 : decode cX6_tonight 43 = .ok (.iload 5, 2) := by decide +kernel
theorem dX6_tonight_45 : decode cX6_tonight 45 = .ok (.iload 4, 2) := by decide +kernel
theorem dX6_tonight_47 : decode cX6_tonight 47 = .ok (.if_icmp .ge 20, 3) := by decide +kernel
theorem dX6_tonight_50 : decode cX6_tonight 50 = .ok (.iload_n 3, 1) := by decide +kernel
theorem dX6_tonight_51 : decode cX6_tonight 51 = .ok (.aload_n 0, 1) := by decide +kernel
theorem dX6_tonight_52 : decode cX6_tonight 52 = .ok (.iload_n 1, 1) := by decide +kernel
theorem dX6_tonight_53 : decode cX6_tonight 53 = .ok (.iload 5, 2) := by decide +kernel
theorem dX6_tonight_55 : decode cX6_tonight 55 = .ok (.iload_n 2, 1) := by decide +kernel
theorem dX6_tonight_56 : decode cX6_tonight 56 = .ok (.invokevirtual 196, 3) := by decide +kernel
theorem dX6_tonight_59 : decode cX6_tonight 59 = .ok (.iadd, 1) := by decide +kernel
theorem dX6_tonight_60 : decode cX6_tonight 60 = .ok (.istore_n 3, 1) := by decide +kernel
theorem dX6_tonight_61 : decode cX6_tonight 61 = .ok (.iinc 5 1, 3) := by decide +kernel
theorem dX6_tonight_64 : decode cX6_tonight 64 = .ok (.goto (-21), 3) := by decide +kernel
theorem dX6_tonight_67 : decode cX6_tonight 67 = .ok (.iload_n 3, 1) := by decide +kernel
theorem dX6_tonight_68 : decode cX6_tonight 68 = .ok (.ireturn, 1) := by decide +kernel
theorem dX7_away_0 : decode cX7_away 0 = .ok (.iload_n 2, 1) := by decide +kernel
theorem dX7_away_1 : decode cX7_away 1 = .ok (.aload_n 0, 1) := by decide +kernel
theorem dX7_away_2 : decode cX7_away 2 = .ok (.getfield 28, 3) := by decide +kernel
theorem dX7_away_5 : decode cX7_away 5 = .ok (.iload_n 1, 1) := by decide +kernel
theorem dX7_away_6 : decode cX7_away 6 = .ok (.iaload, 1) := by decide +kernel
theorem dX7_away_7 : decode cX7_away 7 = .ok (.if_icmp .ge 14, 3) := by decide +kernel
theorem dX7_away_10 : decode cX7_away 10 = .ok (.aload_n 0, 1) := by decide +kernel
theorem dX7_away_11 : decode cX7_away 11 = .ok (.getfield 28, 3) := by decide +kernel
theorem dX7_away_14 : decode cX7_away 14 = .ok (.iload_n 1, 1) := by decide +kernel
theorem dX7_away_15 : decode cX7_away 15 = .ok (.iaload, 1) := by decide +kernel
theorem dX7_away_16 : decode cX7_away 16 = .ok (.iload_n 2, 1) := by decide +kernel
theorem dX7_away_17 : decode cX7_away 17 = .ok (.isub, 1) := by decide +kernel
theorem dX7_away_18 : decode cX7_away 18 = .ok (.goto 39, 3) := by decide +kernel
theorem dX7_away_21 : decode cX7_away 21 = .ok (.iload_n 2, 1) := by decide +kernel
theorem dX7_away_22 : decode cX7_away 22 = .ok (.aload_n 0, 1) := by decide +kernel
theorem dX7_away_23 : decode cX7_away 23 = .ok (.getfield 28, 3) := by decide +kernel
theorem dX7_away_26 : decode cX7_away 26 = .ok (.iload_n 1, 1) := by decide +kernel
theorem dX7_away_27 : decode cX7_away 27 = .ok (.iaload, 1) := by decide +kernel
theorem dX7_away_28 : decode cX7_away 28 = .ok (.aload_n 0, 1) := by decide +kernel
theorem dX7_away_29 : decode cX7_away 29 = .ok (.getfield 31, 3) := by decide +kernel
theorem dX7_away_32 : decode cX7_away 32 = .ok (.iload_n 1, 1) := by decide +kernel
theorem dX7_away_33 : decode cX7_away 33 = .ok (.iaload, 1) := by decide +kernel
theorem dX7_away_34 : decode cX7_away 34 = .ok (.iadd, 1) := by decide +kernel
theorem dX7_away_35 : decode cX7_away 35 = .ok (.if_icmp .le 21, 3) := by decide +kernel
theorem dX7_away_38 : decode cX7_away 38 = .ok (.iload_n 2, 1) := by decide +kernel
theorem dX7_away_39 : decode cX7_away 39 = .ok (.aload_n 0, 1) := by decide +kernel
theorem dX7_away_40 : decode cX7_away 40 = .ok (.getfield 28, 3) := by decide +kernel
theorem dX7_away_43 : decode cX7_away 43 = .ok (.iload_n 1, 1) := by decide +kernel
theorem dX7_away_44 : decode cX7_away 44 = .ok (.iaload, 1) := by decide +kernel
theorem dX7_away_45 : decode cX7_away 45 = .ok (.isub, 1) := by decide +kernel
theorem dX7_away_46 : decode cX7_away 46 = .ok (.aload_n 0, 1) := by decide +kernel
theorem dX7_away_47 : decode cX7_away 47 = .ok (.getfield 31, 3) := by decide +kernel
theorem dX7_away_50 : decode cX7_away 50 = .ok (.iload_n 1, 1) := by decide +kernel
theorem dX7_away_51 : decode cX7_away 51 = .ok (.iaload, 1) := by decide +kernel
theorem dX7_away_52 : decode cX7_away 52 = .ok (.isub, 1) := by decide +kernel
theorem dX7_away_53 : decode cX7_away 53 = .ok (.goto 4, 3) := by decide +kernel
theorem dX7_away_56 : decode cX7_away 56 = .ok (.iconst 0, 1) := by decide +kernel
theorem dX7_away_57 : decode cX7_away 57 = .ok (.ireturn, 1) := by decide +kernel
theorem dX7_isInLook_0 : decode cX7_isInLook 0 = .ok (.iconst 0, 1) := by decide +kernel
theorem dX7_isInLook_1 : decode cX7_isInLook 1 = .ok (.istore_n 2, 1) := by decide +kernel
theorem dX7_isInLook_2 : decode cX7_isInLook 2 = .ok (.iconst 0, 1) := by decide +kernel
theorem dX7_isInLook_3 : decode cX7_isInLook 3 = .ok (.istore_n 3, 1) := by decide +kernel
theorem dX7_isInLook_4 : decode cX7_isInLook 4 = .ok (.iload_n 3, 1) := by decide +kernel
theorem dX7_isInLook_5 : decode cX7_isInLook 5 = .ok (.bipush 12, 2) := by decide +kernel
theorem dX7_isInLook_7 : decode cX7_isInLook 7 = .ok (.if_icmp .ge 26, 3) := by decide +kernel
theorem dX7_isInLook_10 : decode cX7_isInLook 10 = .ok (.iload_n 2, 1) := by decide +kernel
theorem dX7_isInLook_11 : decode cX7_isInLook 11 = .ok (.aload_n 0, 1) := by decide +kernel
theorem dX7_isInLook_12 : decode cX7_isInLook 12 = .ok (.iload_n 3, 1) := by decide +kernel
theorem dX7_isInLook_13 : decode cX7_isInLook 13 = .ok (.iload_n 1, 1) := by decide +kernel
theorem dX7_isInLook_14 : decode cX7_isInLook 14 = .ok (.invokevirtual 115, 3) := by decide +kernel
theorem dX7_isInLook_17 : decode cX7_isInLook 17 = .ok (.ifCond .lt 7, 3) := by decide +kernel
theorem dX7_isInLook_20 : decode cX7_isInLook 20 = .ok (.iconst 1, 1) := by decide +kernel
theorem dX7_isInLook_21 : decode cX7_isInLook 21 = .ok (.goto 4, 3) := by decide +kernel
theorem dX7_isInLook_24 : decode cX7_isInLook 24 = .ok (.iconst 0, 1) := by decide +kernel
theorem dX7_isInLook_25 : decode cX7_isInLook 25 = .ok (.ior, 1) := by decide +kernel
theorem dX7_isInLook_26 : decode cX7_isInLook 26 = .ok (.istore_n 2, 1) := by decide +kernel
theorem dX7_isInLook_27 : decode cX7_isInLook 27 = .ok (.iinc 3 1, 3) := by decide +kernel
theorem dX7_isInLook_30 : decode cX7_isInLook 30 = .ok (.goto (-26), 3) := by decide +kernel
theorem dX7_isInLook_33 : decode cX7_isInLook 33 = .ok (.iload_n 2, 1) := by decide +kernel
theorem dX7_isInLook_34 : decode cX7_isInLook 34 = .ok (.ireturn, 1) := by decide +kernel
theorem dX7_isFor_0 : decode cX7_isFor 0 = .ok (.aload_n 0, 1) := by decide +kernel
theorem dX7_isFor_1 : decode cX7_isFor 1 = .ok (.getfield 25, 3) := by decide +kernel
theorem dX7_isFor_4 : decode cX7_isFor 4 = .ok (.iload_n 1, 1) := by decide +kernel
theorem dX7_isFor_5 : decode cX7_isFor 5 = .ok (.iaload, 1) := by decide +kernel
theorem dX7_isFor_6 : decode cX7_isFor 6 = .ok (.aload_n 0, 1) := by decide +kernel
theorem dX7_isFor_7 : decode cX7_isFor 7 = .ok (.getfield 25, 3) := by decide +kernel
theorem dX7_isFor_10 : decode cX7_isFor 10 = .ok (.iload_n 2, 1) := by decide +kernel
theorem dX7_isFor_11 : decode cX7_isFor 11 = .ok (.iaload, 1) := by decide +kernel
theorem dX7_isFor_12 : decode cX7_isFor 12 = .ok (.if_icmp .ne 48, 3) := by decide +kernel
theorem dX7_isFor_15 : decode cX7_isFor 15 = .ok (.aload_n 0, 1) := by decide +kernel
theorem dX7_isFor_16 : decode cX7_isFor 16 = .ok (.getfield 13, 3) := by decide +kernel
theorem dX7_isFor_19 : decode cX7_isFor 19 = .ok (.iload_n 1, 1) := by decide +kernel
theorem dX7_isFor_20 : decode cX7_isFor 20 = .ok (.iaload, 1) := by decide +kernel
theorem dX7_isFor_21 : decode cX7_isFor 21 = .ok (.aload_n 0, 1) := by decide +kernel
theorem dX7_isFor_22 : decode cX7_isFor 22 = .ok (.getfield 13, 3) := by decide +kernel
theorem dX7_isFor_25 : decode cX7_isFor 25 = .ok (.iload_n 2, 1) := by decide +kernel
theorem dX7_isFor_26 : decode cX7_isFor 26 = .ok (.iaload, 1) := by decide +kernel
theorem dX7_isFor_27 : decode cX7_isFor 27 = .ok (.if_icmp .ne 33, 3) := by decide +kernel
theorem dX7_isFor_30 : decode cX7_isFor 30 = .ok (.aload_n 0, 1) := by decide +kernel
theorem dX7_isFor_31 : decode cX7_isFor 31 = .ok (.iload_n 1, 1) := by decide +kernel
theorem dX7_isFor_32 : decode cX7_isFor 32 = .ok (.iload_n 3, 1) := by decide +kernel
theorem dX7_isFor_33 : decode cX7_isFor 33 = .ok (.invokevirtual 186, 3) := by decide +kernel
theorem dX7_isFor_36 : decode cX7_isFor 36 = .ok (.ifCond .ne 24, 3) := by decide +kernel
theorem dX7_isFor_39 : decode cX7_isFor 39 = .ok (.aload_n 0, 1) := by decide +kernel
theorem dX7_isFor_40 : decode cX7_isFor 40 = .ok (.getfield 34, 3) := by decide +kernel
theorem dX7_isFor_43 : decode cX7_isFor 43 = .ok (.iload_n 1, 1) := by decide +kernel
theorem dX7_isFor_44 : decode cX7_isFor 44 = .ok (.iaload, 1) := by decide +kernel
theorem dX7_isFor_45 : decode cX7_isFor 45 = .ok (.ifCond .ne 15, 3) := by decide +kernel
theorem dX7_isFor_48 : decode cX7_isFor 48 = .ok (.aload_n 0, 1) := by decide +kernel
theorem dX7_isFor_49 : decode cX7_isFor 49 = .ok (.iload_n 1, 1) := by decide +kernel
theorem dX7_isFor_50 : decode cX7_isFor 50 = .ok (.invokevirtual 189, 3) := by decide +kernel
theorem dX7_isFor_53 : decode cX7_isFor 53 = .ok (.ifCond .ne 7, 3) := by decide +kernel
theorem dX7_isFor_56 : decode cX7_isFor 56 = .ok (.iconst 1, 1) := by decide +kernel
theorem dX7_isFor_57 : decode cX7_isFor 57 = .ok (.goto 4, 3) := by decide +kernel
theorem dX7_isFor_60 : decode cX7_isFor 60 = .ok (.iconst 0, 1) := by decide +kernel
theorem dX7_isFor_61 : decode cX7_isFor 61 = .ok (.ireturn, 1) := by decide +kernel
theorem dX7_tonight_0 : decode cX7_tonight 0 = .ok (.iload_n 1, 1) := by decide +kernel
theorem dX7_tonight_1 : decode cX7_tonight 1 = .ok (.invokestatic 112, 3) := by decide +kernel
theorem dX7_tonight_4 : decode cX7_tonight 4 = .ok (.ifCond .eq 14, 3) := by decide +kernel
theorem dX7_tonight_7 : decode cX7_tonight 7 = .ok (.iload_n 2, 1) := by decide +kernel
theorem dX7_tonight_8 : decode cX7_tonight 8 = .ok (.bipush 30, 2) := by decide +kernel
theorem dX7_tonight_10 : decode cX7_tonight 10 = .ok (.bipush 66, 2) := by decide +kernel
theorem dX7_tonight_12 : decode cX7_tonight 12 = .ok (.invokestatic 100, 3) := by decide +kernel
theorem dX7_tonight_15 : decode cX7_tonight 15 = .ok (.ifCond .ne 9, 3) := by decide +kernel
theorem dX7_tonight_18 : decode cX7_tonight 18 = .ok (.aload_n 0, 1) := by decide +kernel
theorem dX7_tonight_19 : decode cX7_tonight 19 = .ok (.iconst 1, 1) := by decide +kernel
theorem dX7_tonight_20 : decode cX7_tonight 20 = .ok (.invokevirtual 104, 3) := by decide +kernel
theorem dX7_tonight_23 : decode cX7_tonight 23 = .ok (.ireturn, 1) := by decide +kernel
theorem dX7_tonight_24 : decode cX7_tonight 24 = .ok (.iconst 0, 1) := by decide +kernel
theorem dX7_tonight_25 : decode cX7_tonight 25 = .ok (.istore_n 3, 1) := by decide +kernel
theorem dX7_tonight_26 : decode cX7_tonight 26 = .ok (.iconst 0, 1) := by decide +kernel
theorem dX7_tonight_27 : decode cX7_tonight 27 = .ok (.istore 4, 2) := by decide +kernel
theorem dX7_tonight_29 : decode cX7_tonight 29 = .ok (.iload 4, 2) := by decide +kernel
theorem dX7_tonight_31 : decode cX7_tonight 31 = .ok (.aload_n 0, 1) := by decide +kernel
theorem dX7_tonight_32 : decode cX7_tonight 32 = .ok (.getfield 40, 3) := by decide +kernel
theorem dX7_tonight_35 : decode cX7_tonight 35 = .ok (.iload_n 1, 1) := by decide +kernel
theorem dX7_tonight_36 : decode cX7_tonight 36 = .ok (.iaload, 1) := by decide +kernel
theorem dX7_tonight_37 : decode cX7_tonight 37 = .ok (.if_icmp .ge 238, 3) := by decide +kernel
theorem dX7_tonight_40 : decode cX7_tonight 40 = .ok (.aload_n 0, 1) := by decide +kernel
theorem dX7_tonight_41 : decode cX7_tonight 41 = .ok (.getfield 43, 3) := by decide +kernel
theorem dX7_tonight_44 : decode cX7_tonight 44 = .ok (.bipush 8, 2) := by decide +kernel
theorem dX7_tonight_46 : decode cX7_tonight 46 = .ok (.iload_n 1, 1) := by decide +kernel
theorem dX7_tonight_47 : decode cX7_tonight 47 = .ok (.imul, 1) := by decide +kernel
theorem dX7_tonight_48 : decode cX7_tonight 48 = .ok (.iload 4, 2) := by decide +kernel
theorem dX7_tonight_50 : decode cX7_tonight 50 = .ok (.iadd, 1) := by decide +kernel
theorem dX7_tonight_51 : decode cX7_tonight 51 = .ok (.iaload, 1) := by decide +kernel
theorem dX7_tonight_52 : decode cX7_tonight 52 = .ok (.istore 5, 2) := by decide +kernel
theorem dX7_tonight_54 : decode cX7_tonight 54 = .ok (.iconst 0, 1) := by decide +kernel
theorem dX7_tonight_55 : decode cX7_tonight 55 = .ok (.istore 6, 2) := by decide +kernel
theorem dX7_tonight_57 : decode cX7_tonight 57 = .ok (.iconst 0, 1) := by decide +kernel
theorem dX7_tonight_58 : decode cX7_tonight 58 = .ok (.istore 7, 2) := by decide +kernel
theorem dX7_tonight_60 : decode cX7_tonight 60 = .ok (.iload 7, 2) := by decide +kernel
theorem dX7_tonight_62 : decode cX7_tonight 62 = .ok (.aload_n 0, 1) := by decide +kernel
theorem dX7_tonight_63 : decode cX7_tonight 63 = .ok (.getfield 40, 3) := by decide +kernel
theorem dX7_tonight_66 : decode cX7_tonight 66 = .ok (.iload_n 1, 1) := by decide +kernel
theorem dX7_tonight_67 : decode cX7_tonight 67 = .ok (.iaload, 1) := by decide +kernel
theorem dX7_tonight_68 : decode cX7_tonight 68 = .ok (.if_icmp .ge 120, 3) := by decide +kernel
theorem dX7_tonight_71 : decode cX7_tonight 71 = .ok (.aload_n 0, 1) := by decide +kernel
theorem dX7_tonight_72 : decode cX7_tonight 72 = .ok (.getfield 43, 3) := by decide +kernel
theorem dX7_tonight_75 : decode cX7_tonight 75 = .ok (.bipush 8, 2) := by decide +kernel
theorem dX7_tonight_77 : decode cX7_tonight 77 = .ok (.iload_n 1, 1) := by decide +kernel
theorem dX7_tonight_78 : decode cX7_tonight 78 = .ok (.imul, 1) := by decide +kernel
theorem dX7_tonight_79 : decode cX7_tonight 79 = .ok (.iload 7, 2) := by decide +kernel
theorem dX7_tonight_81 : decode cX7_tonight 81 = .ok (.iadd, 1) := by decide +kernel
theorem dX7_tonight_82 : decode cX7_tonight 82 = .ok (.iaload, 1) := by decide +kernel
theorem dX7_tonight_83 : decode cX7_tonight 83 = .ok (.istore 8, 2) := by decide +kernel
theorem dX7_tonight_85 : decode cX7_tonight 85 = .ok (.aload_n 0, 1) := by decide +kernel
theorem dX7_tonight_86 : decode cX7_tonight 86 = .ok (.getfield 25, 3) := by decide +kernel
theorem dX7_tonight_89 : decode cX7_tonight 89 = .ok (.iload 8, 2) := by decide +kernel
theorem dX7_tonight_91 : decode cX7_tonight 91 = .ok (.iaload, 1) := by decide +kernel
theorem dX7_tonight_92 : decode cX7_tonight 92 = .ok (.aload_n 0, 1) := by decide +kernel
theorem dX7_tonight_93 : decode cX7_tonight 93 = .ok (.getfield 25, 3) := by decide +kernel
theorem dX7_tonight_96 : decode cX7_tonight 96 = .ok (.iload 5, 2) := by decide +kernel
theorem dX7_tonight_98 : decode cX7_tonight 98 = .ok (.iaload, 1) := by decide +kernel
theorem dX7_tonight_99 : decode cX7_tonight 99 = .ok (.if_icmp .ne 24, 3) := by decide +kernel
theorem dX7_tonight_102 : decode cX7_tonight 102 = .ok (.aload_n 0, 1) := by decide +kernel
theorem dX7_tonight_103 : decode cX7_tonight 103 = .ok (.getfield 13, 3) := by decide +kernel
theorem dX7_tonight_106 : decode cX7_tonight 106 = .ok (.iload 8, 2) := by decide +kernel
theorem dX7_tonight_108 : decode cX7_tonight 108 = .ok (.iaload, 1) := by decide +kernel
theorem dX7_tonight_109 : decode cX7_tonight 109 = .ok (.aload_n 0, 1) := by decide +kernel
theorem dX7_tonight_110 : decode cX7_tonight 110 = .ok (.getfield 13, 3) := by decide +kernel
theorem dX7_tonight_113 : decode cX7_tonight 113 = .ok (.iload 5, 2) := by decide +kernel
theorem dX7_tonight_115 : decode cX7_tonight 115 = .ok (.iaload, 1) := by decide +kernel
theorem dX7_tonight_116 : decode cX7_tonight 116 = .ok (.if_icmp .ne 7, 3) := by decide +kernel
theorem dX7_tonight_119 : decode cX7_tonight 119 = .ok (.iconst 1, 1) := by decide +kernel
theorem dX7_tonight_120 : decode cX7_tonight 120 = .ok (.goto 4, 3) := by decide +kernel
theorem dX7_tonight_123 : decode cX7_tonight 123 = .ok (.iconst 0, 1) := by decide +kernel
theorem dX7_tonight_124 : decode cX7_tonight 124 = .ok (.istore 9, 2) := by decide +kernel
theorem dX7_tonight_126 : decode cX7_tonight 126 = .ok (.iload 6, 2) := by decide +kernel
theorem dX7_tonight_128 : decode cX7_tonight 128 = .ok (.iload 9, 2) := by decide +kernel
theorem dX7_tonight_130 : decode cX7_tonight 130 = .ok (.ifCond .eq 48, 3) := by decide +kernel
theorem dX7_tonight_133 : decode cX7_tonight 133 = .ok (.aload_n 0, 1) := by decide +kernel
theorem dX7_tonight_134 : decode cX7_tonight 134 = .ok (.iload 8, 2) := by decide +kernel
theorem dX7_tonight_136 : decode cX7_tonight 136 = .ok (.iload_n 2, 1) := by decide +kernel
theorem dX7_tonight_137 : decode cX7_tonight 137 = .ok (.invokevirtual 186, 3) := by decide +kernel
theorem dX7_tonight_140 : decode cX7_tonight 140 = .ok (.aload_n 0, 1) := by decide +kernel
theorem dX7_tonight_141 : decode cX7_tonight 141 = .ok (.iload 5, 2) := by decide +kernel
theorem dX7_tonight_143 : decode cX7_tonight 143 = .ok (.iload_n 2, 1) := by decide +kernel
theorem dX7_tonight_144 : decode cX7_tonight 144 = .ok (.invokevirtual 186, 3) := by decide +kernel
theorem dX7_tonight_147 : decode cX7_tonight 147 = .ok (.if_icmp .gt 27, 3) := by decide +kernel
theorem dX7_tonight_150 : decode cX7_tonight 150 = .ok (.aload_n 0, 1) := by decide +kernel
theorem dX7_tonight_151 : decode cX7_tonight 151 = .ok (.iload 8, 2) := by decide +kernel
theorem dX7_tonight_153 : decode cX7_tonight 153 = .ok (.iload_n 2, 1) := by decide +kernel
theorem dX7_tonight_154 : decode cX7_tonight 154 = .ok (.invokevirtual 186, 3) := by decide +kernel
theorem dX7_tonight_157 : decode cX7_tonight 157 = .ok (.aload_n 0, 1) := by decide +kernel
theorem dX7_tonight_158 : decode cX7_tonight 158 = .ok (.iload 5, 2) := by decide +kernel
theorem dX7_tonight_160 : decode cX7_tonight 160 = .ok (.iload_n 2, 1) := by decide +kernel
theorem dX7_tonight_161 : decode cX7_tonight 161 = .ok (.invokevirtual 186, 3) := by decide +kernel
theorem dX7_tonight_164 : decode cX7_tonight 164 = .ok (.if_icmp .ne 14, 3) := by decide +kernel
theorem dX7_tonight_167 : decode cX7_tonight 167 = .ok (.iload 7, 2) := by decide +kernel
theorem dX7_tonight_169 : decode cX7_tonight 169 = .ok (.iload 4, 2) := by decide +kernel
theorem dX7_tonight_171 : decode cX7_tonight 171 = .ok (.if_icmp .ge 7, 3) := by decide +kernel
theorem dX7_tonight_174 : decode cX7_tonight 174 = .ok (.iconst 1, 1) := by decide +kernel
theorem dX7_tonight_175 : decode cX7_tonight 175 = .ok (.goto 4, 3) := by decide +kernel
theorem dX7_tonight_178 : decode cX7_tonight 178 = .ok (.iconst 0, 1) := by decide +kernel
theorem dX7_tonight_179 : decode cX7_tonight 179 = .ok (.iadd, 1) := by decide +kernel
theorem dX7_tonight_180 : decode cX7_tonight 180 = .ok (.istore 6, 2) := by decide +kernel
theorem dX7_tonight_182 : decode cX7_tonight 182 = .ok (.iinc 7 1, 3) := by decide +kernel
theorem dX7_tonight_185 : decode cX7_tonight 185 = .ok (.goto (-125), 3) := by decide +kernel
theorem dX7_tonight_188 : decode cX7_tonight 188 = .ok (.iconst 0, 1) := by decide +kernel
theorem dX7_tonight_189 : decode cX7_tonight 189 = .ok (.istore 7, 2) := by decide +kernel
theorem dX7_tonight_191 : decode cX7_tonight 191 = .ok (.iconst 0, 1) := by decide +kernel
theorem dX7_tonight_192 : decode cX7_tonight 192 = .ok (.istore 8, 2) := by decide +kernel
theorem dX7_tonight_194 : decode cX7_tonight 194 = .ok (.iload 8, 2) := by decide +kernel
theorem dX7_tonight_196 : decode cX7_tonight 196 = .ok (.aload_n 0, 1) := by decide +kernel
theorem dX7_tonight_197 : decode cX7_tonight 197 = .ok (.getfield 97, 3) := by decide +kernel
theorem dX7_tonight_200 : decode cX7_tonight 200 = .ok (.if_icmp .ge 31, 3) := by decide +kernel
theorem dX7_tonight_203 : decode cX7_tonight 203 = .ok (.iload 7, 2) := by decide +kernel
theorem dX7_tonight_205 : decode cX7_tonight 205 = .ok (.aload_n 0, 1) := by decide +kernel
theorem dX7_tonight_206 : decode cX7_tonight 206 = .ok (.iload 8, 2) := by decide +kernel
theorem dX7_tonight_208 : decode cX7_tonight 208 = .ok (.iload 5, 2) := by decide +kernel
theorem dX7_tonight_210 : decode cX7_tonight 210 = .ok (.iload_n 2, 1) := by decide +kernel
theorem dX7_tonight_211 : decode cX7_tonight 211 = .ok (.invokevirtual 192, 3) := by decide +kernel
theorem dX7_tonight_214 : decode cX7_tonight 214 = .ok (.ifCond .eq 7, 3) := by decide +kernel
theorem dX7_tonight_217 : decode cX7_tonight 217 = .ok (.iconst 1, 1) := by decide +kernel
theorem dX7_tonight_218 : decode cX7_tonight 218 = .ok (.goto 4, 3) := by decide +kernel
theorem dX7_tonight_221 : decode cX7_tonight 221 = .ok (.iconst 0, 1) := by decide +kernel
theorem dX7_tonight_222 : decode cX7_tonight 222 = .ok (.iadd, 1) := by decide +kernel
theorem dX7_tonight_223 : decode cX7_tonight 223 = .ok (.istore 7, 2) := by decide +kernel
theorem dX7_tonight_225 : decode cX7_tonight 225 = .ok (.iinc 8 1, 3) := by decide +kernel
theorem dX7_tonight_228 : decode cX7_tonight 228 = .ok (.goto (-34), 3) := by decide +kernel
theorem dX7_tonight_231 : decode cX7_tonight 231 = .ok (.iload_n 3, 1) := by decide +kernel
theorem dX7_tonight_232 : decode cX7_tonight 232 = .ok (.aload_n 0, 1) := by decide +kernel
theorem dX7_tonight_233 : decode cX7_tonight 233 = .ok (.iload 5, 2) := by decide +kernel
theorem dX7_tonight_235 : decode cX7_tonight 235 = .ok (.iload_n 2, 1) := by decide +kernel
theorem dX7_tonight_236 : decode cX7_tonight 236 = .ok (.invokevirtual 186, 3) := by decide +kernel
theorem dX7_tonight_239 : decode cX7_tonight 239 = .ok (.ifCond .ne 7, 3) := by decide +kernel
theorem dX7_tonight_242 : decode cX7_tonight 242 = .ok (.iconst 0, 1) := by decide +kernel
theorem dX7_tonight_243 : decode cX7_tonight 243 = .ok (.goto 24, 3) := by decide +kernel
theorem dX7_tonight_246 : decode cX7_tonight 246 = .ok (.iload 6, 2) := by decide +kernel
theorem dX7_tonight_248 : decode cX7_tonight 248 = .ok (.iload 7, 2) := by decide +kernel
theorem dX7_tonight_250 : decode cX7_tonight 250 = .ok (.if_icmp .ge 7, 3) := by decide +kernel
theorem dX7_tonight_253 : decode cX7_tonight 253 = .ok (.iconst 1, 1) := by decide +kernel
theorem dX7_tonight_254 : decode cX7_tonight 254 = .ok (.goto 13, 3) := by decide +kernel
theorem dX7_tonight_257 : decode cX7_tonight 257 = .ok (.bipush 10, 2) := by decide +kernel
theorem dX7_tonight_259 : decode cX7_tonight 259 = .ok (.aload_n 0, 1) := by decide +kernel
theorem dX7_tonight_260 : decode cX7_tonight 260 = .ok (.iload 5, 2) := by decide +kernel
theorem dX7_tonight_262 : decode cX7_tonight 262 = .ok (.iload_n 2, 1) := by decide +kernel
theorem dX7_tonight_263 : decode cX7_tonight 263 = .ok (.invokevirtual 186, 3) := by decide +kernel
theorem dX7_tonight_266 : decode cX7_tonight 266 = .ok (.imul, 1) := by decide +kernel
theorem dX7_tonight_267 : decode cX7_tonight 267 = .ok (.iadd, 1) := by decide +kernel
theorem dX7_tonight_268 : decode cX7_tonight 268 = .ok (.istore_n 3, 1) := by decide +kernel
theorem dX7_tonight_269 : decode cX7_tonight 269 = .ok (.iinc 4 1, 3) := by decide +kernel
theorem dX7_tonight_272 : decode cX7_tonight 272 = .ok (.goto (-243), 3) := by decide +kernel
theorem dX7_tonight_275 : decode cX7_tonight 275 = .ok (.iload_n 3, 1) := by decide +kernel
theorem dX7_tonight_276 : decode cX7_tonight 276 = .ok (.ireturn, 1) := by decide +kernel
theorem dX6_tell_0 : decode cX6_tell 0 = .ok (.aload_n 0, 1) := by decide +kernel
theorem dX6_tell_1 : decode cX6_tell 1 = .ok (.getfield 199, 3) := by decide +kernel
theorem dX6_tell_4 : decode cX6_tell 4 = .ok (.bipush 30, 2) := by decide +kernel
theorem dX6_tell_6 : decode cX6_tell 6 = .ok (.if_icmp .lt 9, 3) := by decide +kernel
theorem dX6_tell_9 : decode cX6_tell 9 = .ok (.aload_n 0, 1) := by decide +kernel
theorem dX6_tell_10 : decode cX6_tell 10 = .ok (.iconst 4, 1) := by decide +kernel
theorem dX6_tell_11 : decode cX6_tell 11 = .ok (.invokevirtual 72, 3) := by decide +kernel
theorem dX6_tell_14 : decode cX6_tell 14 = .ok (.ireturn, 1) := by decide +kernel
theorem dX6_tell_15 : decode cX6_tell 15 = .ok (.aload_n 0, 1) := by decide +kernel
theorem dX6_tell_16 : decode cX6_tell 16 = .ok (.getfield 57, 3) := by decide +kernel
theorem dX6_tell_19 : decode cX6_tell 19 = .ok (.aload_n 0, 1) := by decide +kernel
theorem dX6_tell_20 : decode cX6_tell 20 = .ok (.getfield 199, 3) := by decide +kernel
theorem dX6_tell_23 : decode cX6_tell 23 = .ok (.iload_n 1, 1) := by decide +kernel
theorem dX6_tell_24 : decode cX6_tell 24 = .ok (.iastore, 1) := by decide +kernel
theorem dX6_tell_25 : decode cX6_tell 25 = .ok (.aload_n 0, 1) := by decide +kernel
theorem dX6_tell_26 : decode cX6_tell 26 = .ok (.dup, 1) := by decide +kernel
theorem dX6_tell_27 : decode cX6_tell 27 = .ok (.getfield 199, 3) := by decide +kernel
theorem dX6_tell_30 : decode cX6_tell 30 = .ok (.iconst 1, 1) := by decide +kernel
theorem dX6_tell_31 : decode cX6_tell 31 = .ok (.iadd, 1) := by decide +kernel
theorem dX6_tell_32 : decode cX6_tell 32 = .ok (.putfield 199, 3) := by decide +kernel
theorem dX6_tell_35 : decode cX6_tell 35 = .ok (.aload_n 0, 1) := by decide +kernel
theorem dX6_tell_36 : decode cX6_tell 36 = .ok (.getfield 199, 3) := by decide +kernel
theorem dX6_tell_39 : decode cX6_tell 39 = .ok (.ireturn, 1) := by decide +kernel
theorem dX7_tell__0 : decode cX7_tell_ 0 = .ok (.aload_n 0, 1) := by decide +kernel
theorem dX7_tell__1 : decode cX7_tell_ 1 = .ok (.getfield 195, 3) := by decide +kernel
theorem dX7_tell__4 : decode cX7_tell_ 4 = .ok (.bipush 30, 2) := by decide +kernel
theorem dX7_tell__6 : decode cX7_tell_ 6 = .ok (.if_icmp .ne 9, 3) := by decide +kernel
theorem dX7_tell__9 : decode cX7_tell_ 9 = .ok (.aload_n 0, 1) := by decide +kernel
theorem dX7_tell__10 : decode cX7_tell_ 10 = .ok (.iconst 4, 1) := by decide +kernel
theorem dX7_tell__11 : decode cX7_tell_ 11 = .ok (.invokevirtual 104, 3) := by decide +kernel
theorem dX7_tell__14 : decode cX7_tell_ 14 = .ok (.ireturn, 1) := by decide +kernel
theorem dX7_tell__15 : decode cX7_tell_ 15 = .ok (.aload_n 0, 1) := by decide +kernel
theorem dX7_tell__16 : decode cX7_tell_ 16 = .ok (.getfield 71, 3) := by decide +kernel
theorem dX7_tell__19 : decode cX7_tell_ 19 = .ok (.aload_n 0, 1) := by decide +kernel
theorem dX7_tell__20 : decode cX7_tell_ 20 = .ok (.getfield 195, 3) := by decide +kernel
theorem dX7_tell__23 : decode cX7_tell_ 23 = .ok (.iload_n 1, 1) := by decide +kernel
theorem dX7_tell__24 : decode cX7_tell_ 24 = .ok (.iastore, 1) := by decide +kernel
theorem dX7_tell__25 : decode cX7_tell_ 25 = .ok (.aload_n 0, 1) := by decide +kernel
theorem dX7_tell__26 : decode cX7_tell_ 26 = .ok (.dup, 1) := by decide +kernel
theorem dX7_tell__27 : decode cX7_tell_ 27 = .ok (.getfield 195, 3) := by decide +kernel
theorem dX7_tell__30 : decode cX7_tell_ 30 = .ok (.iconst 1, 1) := by decide +kernel
theorem dX7_tell__31 : decode cX7_tell_ 31 = .ok (.iadd, 1) := by decide +kernel
theorem dX7_tell__32 : decode cX7_tell_ 32 = .ok (.putfield 195, 3) := by decide +kernel
theorem dX7_tell__35 : decode cX7_tell_ 35 = .ok (.aload_n 0, 1) := by decide +kernel
theorem dX7_tell__36 : decode cX7_tell_ 36 = .ok (.getfield 195, 3) := by decide +kernel
theorem dX7_tell__39 : decode cX7_tell_ 39 = .ok (.ireturn, 1) := by decide +kernel
theorem dX0_undress_0 : decode cX0_undress 0 = .ok (.aload_n 0, 1) := by decide +kernel
theorem dX0_undress_1 : decode cX0_undress 1 = .ok (.getfield 9, 3) := by decide +kernel
theorem dX0_undress_4 : decode cX0_undress 4 = .ok (.iconst 0, 1) := by decide +kernel
theorem dX0_undress_5 : decode cX0_undress 5 = .ok (.invokestatic 19, 3) := by decide +kernel
theorem dX0_undress_8 : decode cX0_undress 8 = .ok (.aload_n 0, 1) := by decide +kernel
theorem dX0_undress_9 : decode cX0_undress 9 = .ok (.iconst 0, 1) := by decide +kernel
theorem dX0_undress_10 : decode cX0_undress 10 = .ok (.putfield 25, 3) := by decide +kernel
theorem dX0_undress_13 : decode cX0_undress 13 = .ok (.return_, 1) := by decide +kernel
theorem dX0_hasOn_0 : decode cX0_hasOn 0 = .ok (.aload_n 0, 1) := by decide +kernel
theorem dX0_hasOn_1 : decode cX0_hasOn 1 = .ok (.getfield 15, 3) := by decide +kernel
theorem dX0_hasOn_4 : decode cX0_hasOn 4 = .ok (.iload_n 1, 1) := by decide +kernel
theorem dX0_hasOn_5 : decode cX0_hasOn 5 = .ok (.invokevirtual 29, 3) := by decide +kernel
theorem dX0_hasOn_8 : decode cX0_hasOn 8 = .ok (.ifCond .eq 22, 3) := by decide +kernel
theorem dX0_hasOn_11 : decode cX0_hasOn 11 = .ok (.iload_n 1, 1) := by decide +kernel
theorem dX0_hasOn_12 : decode cX0_hasOn 12 = .ok (.bipush 32, 2) := by decide +kernel
theorem dX0_hasOn_14 : decode cX0_hasOn 14 = .ok (.if_icmp .ge 16, 3) := by decide +kernel
theorem dX0_hasOn_17 : decode cX0_hasOn 17 = .ok (.aload_n 0, 1) := by decide +kernel
theorem dX0_hasOn_18 : decode cX0_hasOn 18 = .ok (.getfield 9, 3) := by decide +kernel
theorem dX0_hasOn_21 : decode cX0_hasOn 21 = .ok (.iload_n 1, 1) := by decide +kernel
theorem dX0_hasOn_22 : decode cX0_hasOn 22 = .ok (.iaload, 1) := by decide +kernel
theorem dX0_hasOn_23 : decode cX0_hasOn 23 = .ok (.ifCond .le 7, 3) := by decide +kernel
theorem dX0_hasOn_26 : decode cX0_hasOn 26 = .ok (.iconst 1, 1) := by decide +kernel
theorem dX0_hasOn_27 : decode cX0_hasOn 27 = .ok (.goto 4, 3) := by decide +kernel
theorem dX0_hasOn_30 : decode cX0_hasOn 30 = .ok (.iconst 0, 1) := by decide +kernel
theorem dX0_hasOn_31 : decode cX0_hasOn 31 = .ok (.ireturn, 1) := by decide +kernel
theorem dX0_putOn_0 : decode cX0_putOn 0 = .ok (.aload_n 0, 1) := by decide +kernel
theorem dX0_putOn_1 : decode cX0_putOn 1 = .ok (.getfield 15, 3) := by decide +kernel
theorem dX0_putOn_4 : decode cX0_putOn 4 = .ok (.iload_n 1, 1) := by decide +kernel
theorem dX0_putOn_5 : decode cX0_putOn 5 = .ok (.invokevirtual 29, 3) := by decide +kernel
theorem dX0_putOn_8 : decode cX0_putOn 8 = .ok (.ifCond .eq 11, 3) := by decide +kernel
theorem dX0_putOn_11 : decode cX0_putOn 11 = .ok (.aload_n 0, 1) := by decide +kernel
theorem dX0_putOn_12 : decode cX0_putOn 12 = .ok (.iload_n 1, 1) := by decide +kernel
theorem dX0_putOn_13 : decode cX0_putOn 13 = .ok (.invokevirtual 35, 3) := by decide +kernel
theorem dX0_putOn_16 : decode cX0_putOn 16 = .ok (.ifCond .eq 5, 3) := by decide +kernel
theorem dX0_putOn_19 : decode cX0_putOn 19 = .ok (.iconst 0, 1) := by decide +kernel
theorem dX0_putOn_20 : decode cX0_putOn 20 = .ok (.ireturn, 1) := by decide +kernel
theorem dX0_putOn_21 : decode cX0_putOn 21 = .ok (.aload_n 0, 1) := by decide +kernel
theorem dX0_putOn_22 : decode cX0_putOn 22 = .ok (.dup, 1) := by decide +kernel
theorem dX0_putOn_23 : decode cX0_putOn 23 = .ok (.getfield 25, 3) := by decide +kernel
theorem dX0_putOn_26 : decode cX0_putOn 26 = .ok (.iconst 1, 1) := by decide +kernel
theorem dX0_putOn_27 : decode cX0_putOn 27 = .ok (.iadd, 1) := by decide +kernel
theorem dX0_putOn_28 : decode cX0_putOn 28 = .ok (.putfield 25, 3) := by decide +kernel
theorem dX0_putOn_31 : decode cX0_putOn 31 = .ok (.aload_n 0, 1) := by decide +kernel
theorem dX0_putOn_32 : decode cX0_putOn 32 = .ok (.getfield 9, 3) := by decide +kernel
theorem dX0_putOn_35 : decode cX0_putOn 35 = .ok (.iload_n 1, 1) := by decide +kernel
theorem dX0_putOn_36 : decode cX0_putOn 36 = .ok (.aload_n 0, 1) := by decide +kernel
theorem dX0_putOn_37 : decode cX0_putOn 37 = .ok (.getfield 25, 3) := by decide +kernel
theorem dX0_putOn_40 : decode cX0_putOn 40 = .ok (.iastore, 1) := by decide +kernel
theorem dX0_putOn_41 : decode cX0_putOn 41 = .ok (.iconst 1, 1) := by decide +kernel
theorem dX0_putOn_42 : decode cX0_putOn 42 = .ok (.ireturn, 1) := by decide +kernel
theorem dX6_dressForChange_0 : decode cX6_dressForChange 0 = .ok (.aload_n 0, 1) := by decide +kernel
theorem dX6_dressForChange_1 : decode cX6_dressForChange 1 = .ok (.getfield 19, 3) := by decide +kernel
theorem dX6_dressForChange_4 : decode cX6_dressForChange 4 = .ok (.iload_n 1, 1) := by decide +kernel
theorem dX6_dressForChange_5 : decode cX6_dressForChange 5 = .ok (.invokevirtual 99, 3) := by decide +kernel
theorem dX6_dressForChange_8 : decode cX6_dressForChange 8 = .ok (.istore 4, 2) := by decide +kernel
theorem dX6_dressForChange_10 : decode cX6_dressForChange 10 = .ok (.aload_n 0, 1) := by decide +kernel
theorem dX6_dressForChange_11 : decode cX6_dressForChange 11 = .ok (.getfield 19, 3) := by decide +kernel
theorem dX6_dressForChange_14 : decode cX6_dressForChange 14 = .ok (.iload_n 2, 1) := by decide +kernel
theorem dX6_dressForChange_15 : decode cX6_dressForChange 15 = .ok (.invokevirtual 99, 3) := by decide +kernel
theorem dX6_dressForChange_18 : decode cX6_dressForChange 18 = .ok (.istore 5, 2) := by decide +kernel
theorem dX6_dressForChange_20 : decode cX6_dressForChange 20 = .ok (.aload_n 0, 1) := by decide +kernel
theorem dX6_dressForChange_21 : decode cX6_dressForChange 21 = .ok (.getfield 53, 3) := by decide +kernel
theorem dX6_dressForChange_24 : decode cX6_dressForChange 24 = .ok (.invokevirtual 271, 3) := by decide +kernel
theorem dX6_dressForChange_27 : decode cX6_dressForChange 27 = .ok (.iconst 0, 1) := by decide +kernel
theorem dX6_dressForChange_28 : decode cX6_dressForChange 28 = .ok (.istore 6, 2) := by decide +kernel
theorem dX6_dressForChange_30 : decode cX6_dressForChange 30 = .ok (.iload 6, 2) := by decide +kernel
theorem dX6_dressForChange_32 : decode cX6_dressForChange 32 = .ok (.iload 5, 2) := by decide +kernel
theorem dX6_dressForChange_34 : decode cX6_dressForChange 34 = .ok (.if_icmp .ge 36, 3) := by decide +kernel
theorem dX6_dressForChange_37 : decode cX6_dressForChange 37 = .ok (.iload_n 3, 1) := by decide +kernel
theorem dX6_dressForChange_38 : decode cX6_dressForChange 38 = .ok (.iload 6, 2) := by decide +kernel
theorem dX6_dressForChange_40 : decode cX6_dressForChange 40 = .ok (.invokestatic 274, 3) := by decide +kernel
theorem dX6_dressForChange_43 : decode cX6_dressForChange 43 = .ok (.ifCond .eq 21, 3) := by decide +kernel
theorem dX6_dressForChange_46 : decode cX6_dressForChange 46 = .ok (.aload_n 0, 1) := by decide +kernel
theorem dX6_dressForChange_47 : decode cX6_dressForChange 47 = .ok (.getfield 53, 3) := by decide +kernel
theorem dX6_dressForChange_50 : decode cX6_dressForChange 50 = .ok (.aload_n 0, 1) := by decide +kernel
theorem dX6_dressForChange_51 : decode cX6_dressForChange 51 = .ok (.getfield 19, 3) := by decide +kernel
theorem dX6_dressForChange_54 : decode cX6_dressForChange 54 = .ok (.iload_n 2, 1) := by decide +kernel
theorem dX6_dressForChange_55 : decode cX6_dressForChange 55 = .ok (.iload 6, 2) := by decide +kernel
theorem dX6_dressForChange_57 : decode cX6_dressForChange 57 = .ok (.invokevirtual 108, 3) := by decide +kernel
theorem dX6_dressForChange_60 : decode cX6_dressForChange 60 = .ok (.invokevirtual 277, 3) := by decide +kernel
theorem dX6_dressForChange_63 : decode cX6_dressForChange 63 = .ok (.pop, 1) := by decide +kernel
theorem dX6_dressForChange_64 : decode cX6_dressForChange 64 = .ok (.iinc 6 1, 3) := by decide +kernel
theorem dX6_dressForChange_67 : decode cX6_dressForChange 67 = .ok (.goto (-37), 3) := by decide +kernel
theorem dX6_dressForChange_70 : decode cX6_dressForChange 70 = .ok (.iconst 0, 1) := by decide +kernel
theorem dX6_dressForChange_71 : decode cX6_dressForChange 71 = .ok (.istore 6, 2) := by decide +kernel
theorem dX6_dressForChange_73 : decode cX6_dressForChange 73 = .ok (.iload 6, 2) := by decide +kernel
theorem dX6_dressForChange_75 : decode cX6_dressForChange 75 = .ok (.iload 4, 2) := by decide +kernel
theorem dX6_dressForChange_77 : decode cX6_dressForChange 77 = .ok (.if_icmp .ge 27, 3) := by decide +kernel
theorem dX6_dressForChange_80 : decode cX6_dressForChange 80 = .ok (.aload_n 0, 1) := by decide +kernel
theorem dX6_dressForChange_81 : decode cX6_dressForChange 81 = .ok (.getfield 53, 3) := by decide +kernel
theorem dX6_dressForChange_84 : decode cX6_dressForChange 84 = .ok (.aload_n 0, 1) := by decide +kernel
theorem dX6_dressForChange_85 : decode cX6_dressForChange 85 = .ok (.getfield 19, 3) := by decide +kernel
theorem dX6_dressForChange_88 : decode cX6_dressForChange 88 = .ok (.iload_n 1, 1) := by decide +kernel
theorem dX6_dressForChange_89 : decode cX6_dressForChange 89 = .ok (.iload 6, 2) := by decide +kernel
theorem dX6_dressForChange_91 : decode cX6_dressForChange 91 = .ok (.invokevirtual 108, 3) := by decide +kernel
theorem dX6_dressForChange_94 : decode cX6_dressForChange 94 = .ok (.invokevirtual 277, 3) := by decide +kernel
theorem dX6_dressForChange_97 : decode cX6_dressForChange 97 = .ok (.pop, 1) := by decide +kernel
theorem dX6_dressForChange_98 : decode cX6_dressForChange 98 = .ok (.iinc 6 1, 3) := by decide +kernel
theorem dX6_dressForChange_101 : decode cX6_dressForChange 101 = .ok (.goto (-28), 3) := by decide +kernel
theorem dX6_dressForChange_104 : decode cX6_dressForChange 104 = .ok (.return_, 1) := by decide +kernel
theorem dX0_liesOver_0 : decode cX0_liesOver 0 = .ok (.aload_n 0, 1) := by decide +kernel
theorem dX0_liesOver_1 : decode cX0_liesOver 1 = .ok (.iload_n 1, 1) := by decide +kernel
theorem dX0_liesOver_2 : decode cX0_liesOver 2 = .ok (.invokevirtual 35, 3) := by decide +kernel
theorem dX0_liesOver_5 : decode cX0_liesOver 5 = .ok (.ifCond .eq 42, 3) := by decide +kernel
theorem dX0_liesOver_8 : decode cX0_liesOver 8 = .ok (.aload_n 0, 1) := by decide +kernel
theorem dX0_liesOver_9 : decode cX0_liesOver 9 = .ok (.iload_n 2, 1) := by decide +kernel
theorem dX0_liesOver_10 : decode cX0_liesOver 10 = .ok (.invokevirtual 35, 3) := by decide +kernel
theorem dX0_liesOver_13 : decode cX0_liesOver 13 = .ok (.ifCond .eq 34, 3) := by decide +kernel
theorem dX0_liesOver_16 : decode cX0_liesOver 16 = .ok (.aload_n 0, 1) := by decide +kernel
theorem dX0_liesOver_17 : decode cX0_liesOver 17 = .ok (.getfield 9, 3) := by decide +kernel
theorem dX0_liesOver_20 : decode cX0_liesOver 20 = .ok (.iload_n 1, 1) := by decide +kernel
theorem dX0_liesOver_21 : decode cX0_liesOver 21 = .ok (.iaload, 1) := by decide +kernel
theorem dX0_liesOver_22 : decode cX0_liesOver 22 = .ok (.aload_n 0, 1) := by decide +kernel
theorem dX0_liesOver_23 : decode cX0_liesOver 23 = .ok (.getfield 9, 3) := by decide +kernel
theorem dX0_liesOver_26 : decode cX0_liesOver 26 = .ok (.iload_n 2, 1) := by decide +kernel
theorem dX0_liesOver_27 : decode cX0_liesOver 27 = .ok (.iaload, 1) := by decide +kernel
theorem dX0_liesOver_28 : decode cX0_liesOver 28 = .ok (.if_icmp .le 19, 3) := by decide +kernel
theorem dX0_liesOver_31 : decode cX0_liesOver 31 = .ok (.aload_n 0, 1) := by decide +kernel
theorem dX0_liesOver_32 : decode cX0_liesOver 32 = .ok (.getfield 15, 3) := by decide +kernel
theorem dX0_liesOver_35 : decode cX0_liesOver 35 = .ok (.iload_n 1, 1) := by decide +kernel
theorem dX0_liesOver_36 : decode cX0_liesOver 36 = .ok (.iload_n 2, 1) := by decide +kernel
theorem dX0_liesOver_37 : decode cX0_liesOver 37 = .ok (.invokevirtual 38, 3) := by decide +kernel
theorem dX0_liesOver_40 : decode cX0_liesOver 40 = .ok (.ifCond .eq 7, 3) := by decide +kernel
theorem dX0_liesOver_43 : decode cX0_liesOver 43 = .ok (.iconst 1, 1) := by decide +kernel
theorem dX0_liesOver_44 : decode cX0_liesOver 44 = .ok (.goto 4, 3) := by decide +kernel
theorem dX0_liesOver_47 : decode cX0_liesOver 47 = .ok (.iconst 0, 1) := by decide +kernel
theorem dX0_liesOver_48 : decode cX0_liesOver 48 = .ok (.ireturn, 1) := by decide +kernel
theorem dX0_takeOff_0 : decode cX0_takeOff 0 = .ok (.aload_n 0, 1) := by decide +kernel
theorem dX0_takeOff_1 : decode cX0_takeOff 1 = .ok (.iload_n 1, 1) := by decide +kernel
theorem dX0_takeOff_2 : decode cX0_takeOff 2 = .ok (.invokevirtual 35, 3) := by decide +kernel
theorem dX0_takeOff_5 : decode cX0_takeOff 5 = .ok (.ifCond .ne 5, 3) := by decide +kernel
theorem dX0_takeOff_8 : decode cX0_takeOff 8 = .ok (.iconst 0, 1) := by decide +kernel
theorem dX0_takeOff_9 : decode cX0_takeOff 9 = .ok (.ireturn, 1) := by decide +kernel
theorem dX0_takeOff_10 : decode cX0_takeOff 10 = .ok (.iconst 0, 1) := by decide +kernel
theorem dX0_takeOff_11 : decode cX0_takeOff 11 = .ok (.istore_n 2, 1) := by decide +kernel
theorem dX0_takeOff_12 : decode cX0_takeOff 12 = .ok (.iload_n 2, 1) := by decide +kernel
theorem dX0_takeOff_13 : decode cX0_takeOff 13 = .ok (.bipush 32, 2) := by decide +kernel
theorem dX0_takeOff_15 : decode cX0_takeOff 15 = .ok (.if_icmp .ge 20, 3) := by decide +kernel
theorem dX0_takeOff_18 : decode cX0_takeOff 18 = .ok (.aload_n 0, 1) := by decide +kernel
theorem dX0_takeOff_19 : decode cX0_takeOff 19 = .ok (.iload_n 2, 1) := by decide +kernel
theorem dX0_takeOff_20 : decode cX0_takeOff 20 = .ok (.iload_n 1, 1) := by decide +kernel
theorem dX0_takeOff_21 : decode cX0_takeOff 21 = .ok (.invokevirtual 48, 3) := by decide +kernel
theorem dX0_takeOff_24 : decode cX0_takeOff 24 = .ok (.ifCond .eq 5, 3) := by decide +kernel
theorem dX0_takeOff_27 : decode cX0_takeOff 27 = .ok (.iconst 0, 1) := by decide +kernel
theorem dX0_takeOff_28 : decode cX0_takeOff 28 = .ok (.ireturn, 1) := by decide +kernel
theorem dX0_takeOff_29 : decode cX0_takeOff 29 = .ok (.iinc 2 1, 3) := by decide +kernel
theorem dX0_takeOff_32 : decode cX0_takeOff 32 = .ok (.goto (-20), 3) := by decide +kernel
theorem dX0_takeOff_35 : decode cX0_takeOff 35 = .ok (.aload_n 0, 1) := by decide +kernel
theorem dX0_takeOff_36 : decode cX0_takeOff 36 = .ok (.getfield 9, 3) := by decide +kernel
theorem dX0_takeOff_39 : decode cX0_takeOff 39 = .ok (.iload_n 1, 1) := by decide +kernel
theorem dX0_takeOff_40 : decode cX0_takeOff 40 = .ok (.iconst 0, 1) := by decide +kernel
theorem dX0_takeOff_41 : decode cX0_takeOff 41 = .ok (.iastore, 1) := by decide +kernel
theorem dX0_takeOff_42 : decode cX0_takeOff 42 = .ok (.iconst 1, 1) := by decide +kernel
theorem dX0_takeOff_43 : decode cX0_takeOff 43 = .ok (.ireturn, 1) := by decide +kernel
theorem dX0_handle_0 : decode cX0_handle 0 = .ok (.iload_n 1, 1) := by decide +kernel
theorem dX0_handle_1 : decode cX0_handle 1 = .ok (.ifCond .lt 11, 3) := by decide +kernel
theorem dX0_handle_4 : decode cX0_handle 4 = .ok (.aload_n 0, 1) := by decide +kernel
theorem dX0_handle_5 : decode cX0_handle 5 = .ok (.iload_n 1, 1) := by decide +kernel
theorem dX0_handle_6 : decode cX0_handle 6 = .ok (.invokevirtual 42, 3) := by decide +kernel
theorem dX0_handle_9 : decode cX0_handle 9 = .ok (.goto 10, 3) := by decide +kernel
theorem dX0_handle_12 : decode cX0_handle 12 = .ok (.aload_n 0, 1) := by decide +kernel
theorem dX0_handle_13 : decode cX0_handle 13 = .ok (.iconst (-1), 1) := by decide +kernel
theorem dX0_handle_14 : decode cX0_handle 14 = .ok (.iload_n 1, 1) := by decide +kernel
theorem dX0_handle_15 : decode cX0_handle 15 = .ok (.isub, 1) := by decide +kernel
theorem dX0_handle_16 : decode cX0_handle 16 = .ok (.invokevirtual 45, 3) := by decide +kernel
theorem dX0_handle_19 : decode cX0_handle 19 = .ok (.ireturn, 1) := by decide +kernel
theorem dX0_countWorn_0 : decode cX0_countWorn 0 = .ok (.iconst 0, 1) := by decide +kernel
theorem dX0_countWorn_1 : decode cX0_countWorn 1 = .ok (.istore_n 1, 1) := by decide +kernel
theorem dX0_countWorn_2 : decode cX0_countWorn 2 = .ok (.iconst 0, 1) := by decide +kernel
theorem dX0_countWorn_3 : decode cX0_countWorn 3 = .ok (.istore_n 2, 1) := by decide +kernel
theorem dX0_countWorn_4 : decode cX0_countWorn 4 = .ok (.iload_n 2, 1) := by decide +kernel
theorem dX0_countWorn_5 : decode cX0_countWorn 5 = .ok (.bipush 32, 2) := by decide +kernel
theorem dX0_countWorn_7 : decode cX0_countWorn 7 = .ok (.if_icmp .ge 21, 3) := by decide +kernel
theorem dX0_countWorn_10 : decode cX0_countWorn 10 = .ok (.aload_n 0, 1) := by decide +kernel
theorem dX0_countWorn_11 : decode cX0_countWorn 11 = .ok (.getfield 9, 3) := by decide +kernel
theorem dX0_countWorn_14 : decode cX0_countWorn 14 = .ok (.iload_n 2, 1) := by decide +kernel
theorem dX0_countWorn_15 : decode cX0_countWorn 15 = .ok (.iaload, 1) := by decide +kernel
theorem dX0_countWorn_16 : decode cX0_countWorn 16 = .ok (.ifCond .le 6, 3) := by decide +kernel
theorem dX0_countWorn_19 : decode cX0_countWorn 19 = .ok (.iinc 1 1, 3) := by decide +kernel
theorem dX0_countWorn_22 : decode cX0_countWorn 22 = .ok (.iinc 2 1, 3) := by decide +kernel
theorem dX0_countWorn_25 : decode cX0_countWorn 25 = .ok (.goto (-21), 3) := by decide +kernel
theorem dX0_countWorn_28 : decode cX0_countWorn 28 = .ok (.iload_n 1, 1) := by decide +kernel
theorem dX0_countWorn_29 : decode cX0_countWorn 29 = .ok (.ireturn, 1) := by decide +kernel
theorem dX6_isJustWorn_0 : decode cX6_isJustWorn 0 = .ok (.aload_n 0, 1) := by decide +kernel
theorem dX6_isJustWorn_1 : decode cX6_isJustWorn 1 = .ok (.getfield 19, 3) := by decide +kernel
theorem dX6_isJustWorn_4 : decode cX6_isJustWorn 4 = .ok (.iload_n 1, 1) := by decide +kernel
theorem dX6_isJustWorn_5 : decode cX6_isJustWorn 5 = .ok (.invokevirtual 99, 3) := by decide +kernel
theorem dX6_isJustWorn_8 : decode cX6_isJustWorn 8 = .ok (.istore_n 2, 1) := by decide +kernel
theorem dX6_isJustWorn_9 : decode cX6_isJustWorn 9 = .ok (.aload_n 0, 1) := by decide +kernel
theorem dX6_isJustWorn_10 : decode cX6_isJustWorn 10 = .ok (.getfield 53, 3) := by decide +kernel
theorem dX6_isJustWorn_13 : decode cX6_isJustWorn 13 = .ok (.invokevirtual 280, 3) := by decide +kernel
theorem dX6_isJustWorn_16 : decode cX6_isJustWorn 16 = .ok (.iload_n 2, 1) := by decide +kernel
theorem dX6_isJustWorn_17 : decode cX6_isJustWorn 17 = .ok (.if_icmp .eq 5, 3) := by decide +kernel
theorem dX6_isJustWorn_20 : decode cX6_isJustWorn 20 = .ok (.iconst 0, 1) := by decide +kernel
theorem dX6_isJustWorn_21 : decode cX6_isJustWorn 21 = .ok (.ireturn, 1) := by decide +kernel
theorem dX6_isJustWorn_22 : decode cX6_isJustWorn 22 = .ok (.iconst 0, 1) := by decide +kernel
theorem dX6_isJustWorn_23 : decode cX6_isJustWorn 23 = .ok (.istore_n 3, 1) := by decide +kernel
theorem dX6_isJustWorn_24 : decode cX6_isJustWorn 24 = .ok (.iload_n 3, 1) := by decide +kernel
theorem dX6_isJustWorn_25 : decode cX6_isJustWorn 25 = .ok (.iload_n 2, 1) := by decide +kernel
theorem dX6_isJustWorn_26 : decode cX6_isJustWorn 26 = .ok (.if_icmp .ge 73, 3) := by decide +kernel
theorem dX6_isJustWorn_29 : decode cX6_isJustWorn 29 = .ok (.aload_n 0, 1) := by decide +kernel
theorem dX6_isJustWorn_30 : decode cX6_isJustWorn 30 = .ok (.getfield 19, 3) := by decide +kernel
theorem dX6_isJustWorn_33 : decode cX6_isJustWorn 33 = .ok (.iload_n 1, 1) := by decide +kernel
theorem dX6_isJustWorn_34 : decode cX6_isJustWorn 34 = .ok (.iload_n 3, 1) := by decide +kernel
theorem dX6_isJustWorn_35 : decode cX6_isJustWorn 35 = .ok (.invokevirtual 108, 3) := by decide +kernel
theorem dX6_isJustWorn_38 : decode cX6_isJustWorn 38 = .ok (.istore 4, 2) := by decide +kernel
theorem dX6_isJustWorn_40 : decode cX6_isJustWorn 40 = .ok (.aload_n 0, 1) := by decide +kernel
theorem dX6_isJustWorn_41 : decode cX6_isJustWorn 41 = .ok (.getfield 53, 3) := by decide +kernel
theorem dX6_isJustWorn_44 : decode cX6_isJustWorn 44 = .ok (.iload 4, 2) := by decide +kernel
theorem dX6_isJustWorn_46 : decode cX6_isJustWorn 46 = .ok (.invokevirtual 283, 3) := by decide +kernel
theorem dX6_isJustWorn_49 : decode cX6_isJustWorn 49 = .ok (.ifCond .ne 5, 3) := by decide +kernel
theorem dX6_isJustWorn_52 : decode cX6_isJustWorn 52 = .ok (.iconst 0, 1) := by decide +kernel
theorem dX6_isJustWorn_53 : decode cX6_isJustWorn 53 = .ok (.ireturn, 1) := by decide +kernel
theorem dX6_isJustWorn_54 : decode cX6_isJustWorn 54 = .ok (.iconst 0, 1) := by decide +kernel
theorem dX6_isJustWorn_55 : decode cX6_isJustWorn 55 = .ok (.istore 5, 2) := by decide +kernel
theorem dX6_isJustWorn_57 : decode cX6_isJustWorn 57 = .ok (.iload 5, 2) := by decide +kernel
theorem dX6_isJustWorn_59 : decode cX6_isJustWorn 59 = .ok (.iload_n 3, 1) := by decide +kernel
theorem dX6_isJustWorn_60 : decode cX6_isJustWorn 60 = .ok (.if_icmp .ge 33, 3) := by decide +kernel
theorem dX6_isJustWorn_63 : decode cX6_isJustWorn 63 = .ok (.aload_n 0, 1) := by decide +kernel
theorem dX6_isJustWorn_64 : decode cX6_isJustWorn 64 = .ok (.getfield 53, 3) := by decide +kernel
theorem dX6_isJustWorn_67 : decode cX6_isJustWorn 67 = .ok (.aload_n 0, 1) := by decide +kernel
theorem dX6_isJustWorn_68 : decode cX6_isJustWorn 68 = .ok (.getfield 19, 3) := by decide +kernel
theorem dX6_isJustWorn_71 : decode cX6_isJustWorn 71 = .ok (.iload_n 1, 1) := by decide +kernel
theorem dX6_isJustWorn_72 : decode cX6_isJustWorn 72 = .ok (.iload 5, 2) := by decide +kernel
theorem dX6_isJustWorn_74 : decode cX6_isJustWorn 74 = .ok (.invokevirtual 108, 3) := by decide +kernel
theorem dX6_isJustWorn_77 : decode cX6_isJustWorn 77 = .ok (.iload 4, 2) := by decide +kernel
theorem dX6_isJustWorn_79 : decode cX6_isJustWorn 79 = .ok (.invokevirtual 286, 3) := by decide +kernel
theorem dX6_isJustWorn_82 : decode cX6_isJustWorn 82 = .ok (.ifCond .eq 5, 3) := by decide +kernel
theorem dX6_isJustWorn_85 : decode cX6_isJustWorn 85 = .ok (.iconst 0, 1) := by decide +kernel
theorem dX6_isJustWorn_86 : decode cX6_isJustWorn 86 = .ok (.ireturn, 1) := by decide +kernel
theorem dX6_isJustWorn_87 : decode cX6_isJustWorn 87 = .ok (.iinc 5 1, 3) := by decide +kernel
theorem dX6_isJustWorn_90 : decode cX6_isJustWorn 90 = .ok (.goto (-33), 3) := by decide +kernel
theorem dX6_isJustWorn_93 : decode cX6_isJustWorn 93 = .ok (.iinc 3 1, 3) := by decide +kernel
theorem dX6_isJustWorn_96 : decode cX6_isJustWorn 96 = .ok (.goto (-72), 3) := by decide +kernel
theorem dX6_isJustWorn_99 : decode cX6_isJustWorn 99 = .ok (.iconst 1, 1) := by decide +kernel
theorem dX6_isJustWorn_100 : decode cX6_isJustWorn 100 = .ok (.ireturn, 1) := by decide +kernel
theorem dX6_check_0 : decode cX6_check 0 = .ok (.aload_n 0, 1) := by decide +kernel
theorem dX6_check_1 : decode cX6_check 1 = .ok (.iload_n 1, 1) := by decide +kernel
theorem dX6_check_2 : decode cX6_check 2 = .ok (.iload_n 2, 1) := by decide +kernel
theorem dX6_check_3 : decode cX6_check 3 = .ok (.iload_n 3, 1) := by decide +kernel
theorem dX6_check_4 : decode cX6_check 4 = .ok (.invokevirtual 111, 3) := by decide +kernel
theorem dX6_check_7 : decode cX6_check 7 = .ok (.ifCond .ne 9, 3) := by decide +kernel
theorem dX6_check_10 : decode cX6_check 10 = .ok (.aload_n 0, 1) := by decide +kernel
theorem dX6_check_11 : decode cX6_check 11 = .ok (.iconst 1, 1) := by decide +kernel
theorem dX6_check_12 : decode cX6_check 12 = .ok (.invokevirtual 72, 3) := by decide +kernel
theorem dX6_check_15 : decode cX6_check 15 = .ok (.ireturn, 1) := by decide +kernel
theorem dX6_check_16 : decode cX6_check 16 = .ok (.aload_n 0, 1) := by decide +kernel
theorem dX6_check_17 : decode cX6_check 17 = .ok (.getfield 199, 3) := by decide +kernel
theorem dX6_check_20 : decode cX6_check 20 = .ok (.istore 4, 2) := by decide +kernel
theorem dX6_check_22 : decode cX6_check 22 = .ok (.aload_n 0, 1) := by decide +kernel
theorem dX6_check_23 : decode cX6_check 23 = .ok (.iconst 0, 1) := by decide +kernel
theorem dX6_check_24 : decode cX6_check 24 = .ok (.putfield 199, 3) := by decide +kernel
theorem dX6_check_27 : decode cX6_check 27 = .ok (.aload_n 0, 1) := by decide +kernel
theorem dX6_check_28 : decode cX6_check 28 = .ok (.iload_n 1, 1) := by decide +kernel
theorem dX6_check_29 : decode cX6_check 29 = .ok (.iload_n 2, 1) := by decide +kernel
theorem dX6_check_30 : decode cX6_check 30 = .ok (.iload_n 3, 1) := by decide +kernel
theorem dX6_check_31 : decode cX6_check 31 = .ok (.invokevirtual 114, 3) := by decide +kernel
theorem dX6_check_34 : decode cX6_check 34 = .ok (.ifCond .ne 9, 3) := by decide +kernel
theorem dX6_check_37 : decode cX6_check 37 = .ok (.aload_n 0, 1) := by decide +kernel
theorem dX6_check_38 : decode cX6_check 38 = .ok (.iconst 3, 1) := by decide +kernel
theorem dX6_check_39 : decode cX6_check 39 = .ok (.invokevirtual 72, 3) := by decide +kernel
theorem dX6_check_42 : decode cX6_check 42 = .ok (.ireturn, 1) := by decide +kernel
theorem dX6_check_43 : decode cX6_check 43 = .ok (.aload_n 0, 1) := by decide +kernel
theorem dX6_check_44 : decode cX6_check 44 = .ok (.iload_n 1, 1) := by decide +kernel
theorem dX6_check_45 : decode cX6_check 45 = .ok (.iload_n 2, 1) := by decide +kernel
theorem dX6_check_46 : decode cX6_check 46 = .ok (.iload_n 3, 1) := by decide +kernel
theorem dX6_check_47 : decode cX6_check 47 = .ok (.invokevirtual 202, 3) := by decide +kernel
theorem dX6_check_50 : decode cX6_check 50 = .ok (.iconst 0, 1) := by decide +kernel
theorem dX6_check_51 : decode cX6_check 51 = .ok (.istore 5, 2) := by decide +kernel
theorem dX6_check_53 : decode cX6_check 53 = .ok (.iload 5, 2) := by decide +kernel
theorem dX6_check_55 : decode cX6_check 55 = .ok (.iload 4, 2) := by decide +kernel
theorem dX6_check_57 : decode cX6_check 57 = .ok (.if_icmp .ge 38, 3) := by decide +kernel
theorem dX6_check_60 : decode cX6_check 60 = .ok (.iload 5, 2) := by decide +kernel
theorem dX6_check_62 : decode cX6_check 62 = .ok (.bipush 30, 2) := by decide +kernel
theorem dX6_check_64 : decode cX6_check 64 = .ok (.if_icmp .ge 31, 3) := by decide +kernel
theorem dX6_check_67 : decode cX6_check 67 = .ok (.aload_n 0, 1) := by decide +kernel
theorem dX6_check_68 : decode cX6_check 68 = .ok (.getfield 53, 3) := by decide +kernel
theorem dX6_check_71 : decode cX6_check 71 = .ok (.aload_n 0, 1) := by decide +kernel
theorem dX6_check_72 : decode cX6_check 72 = .ok (.getfield 57, 3) := by decide +kernel
theorem dX6_check_75 : decode cX6_check 75 = .ok (.iload 5, 2) := by decide +kernel
theorem dX6_check_77 : decode cX6_check 77 = .ok (.iaload, 1) := by decide +kernel
theorem dX6_check_78 : decode cX6_check 78 = .ok (.invokevirtual 205, 3) := by decide +kernel
theorem dX6_check_81 : decode cX6_check 81 = .ok (.ifCond .ne 8, 3) := by decide +kernel
theorem dX6_check_84 : decode cX6_check 84 = .ok (.iconst 1, 1) := by decide +kernel
theorem dX6_check_85 : decode cX6_check 85 = .ok (.iload 5, 2) := by decide +kernel
theorem dX6_check_87 : decode cX6_check 87 = .ok (.iadd, 1) := by decide +kernel
theorem dX6_check_88 : decode cX6_check 88 = .ok (.ireturn, 1) := by decide +kernel
theorem dX6_check_89 : decode cX6_check 89 = .ok (.iinc 5 1, 3) := by decide +kernel
theorem dX6_check_92 : decode cX6_check 92 = .ok (.goto (-39), 3) := by decide +kernel
theorem dX6_check_95 : decode cX6_check 95 = .ok (.aload_n 0, 1) := by decide +kernel
theorem dX6_check_96 : decode cX6_check 96 = .ok (.iload_n 2, 1) := by decide +kernel
theorem dX6_check_97 : decode cX6_check 97 = .ok (.invokevirtual 207, 3) := by decide +kernel
theorem dX6_check_100 : decode cX6_check 100 = .ok (.ifCond .eq 7, 3) := by decide +kernel
theorem dX6_check_103 : decode cX6_check 103 = .ok (.iconst 0, 1) := by decide +kernel
theorem dX6_check_104 : decode cX6_check 104 = .ok (.goto 5, 3) := by decide +kernel
theorem dX6_check_107 : decode cX6_check 107 = .ok (.bipush 99, 2) := by decide +kernel
theorem dX6_check_109 : decode cX6_check 109 = .ok (.ireturn, 1) := by decide +kernel
theorem dX7_bodyPlace_0 : decode cX7_bodyPlace 0 = .ok (.iconst (-1), 1) := by decide +kernel
theorem dX7_bodyPlace_1 : decode cX7_bodyPlace 1 = .ok (.istore_n 2, 1) := by decide +kernel
theorem dX7_bodyPlace_2 : decode cX7_bodyPlace 2 = .ok (.iconst 0, 1) := by decide +kernel
theorem dX7_bodyPlace_3 : decode cX7_bodyPlace 3 = .ok (.istore_n 3, 1) := by decide +kernel
theorem dX7_bodyPlace_4 : decode cX7_bodyPlace 4 = .ok (.iload_n 3, 1) := by decide +kernel
theorem dX7_bodyPlace_5 : decode cX7_bodyPlace 5 = .ok (.aload_n 0, 1) := by decide +kernel
theorem dX7_bodyPlace_6 : decode cX7_bodyPlace 6 = .ok (.getfield 198, 3) := by decide +kernel
theorem dX7_bodyPlace_9 : decode cX7_bodyPlace 9 = .ok (.if_icmp .ge 25, 3) := by decide +kernel
theorem dX7_bodyPlace_12 : decode cX7_bodyPlace 12 = .ok (.aload_n 0, 1) := by decide +kernel
theorem dX7_bodyPlace_13 : decode cX7_bodyPlace 13 = .ok (.getfield 93, 3) := by decide +kernel
theorem dX7_bodyPlace_16 : decode cX7_bodyPlace 16 = .ok (.iload_n 3, 1) := by decide +kernel
theorem dX7_bodyPlace_17 : decode cX7_bodyPlace 17 = .ok (.iaload, 1) := by decide +kernel
theorem dX7_bodyPlace_18 : decode cX7_bodyPlace 18 = .ok (.iload_n 1, 1) := by decide +kernel
theorem dX7_bodyPlace_19 : decode cX7_bodyPlace 19 = .ok (.if_icmp .ne 7, 3) := by decide +kernel
theorem dX7_bodyPlace_22 : decode cX7_bodyPlace 22 = .ok (.iload_n 3, 1) := by decide +kernel
theorem dX7_bodyPlace_23 : decode cX7_bodyPlace 23 = .ok (.goto 4, 3) := by decide +kernel
theorem dX7_bodyPlace_26 : decode cX7_bodyPlace 26 = .ok (.iload_n 2, 1) := by decide +kernel
theorem dX7_bodyPlace_27 : decode cX7_bodyPlace 27 = .ok (.istore_n 2, 1) := by decide +kernel
theorem dX7_bodyPlace_28 : decode cX7_bodyPlace 28 = .ok (.iinc 3 1, 3) := by decide +kernel
theorem dX7_bodyPlace_31 : decode cX7_bodyPlace 31 = .ok (.goto (-27), 3) := by decide +kernel
theorem dX7_bodyPlace_34 : decode cX7_bodyPlace 34 = .ok (.iload_n 2, 1) := by decide +kernel
theorem dX7_bodyPlace_35 : decode cX7_bodyPlace 35 = .ok (.ireturn, 1) := by decide +kernel
theorem dX7_handles_0 : decode cX7_handles 0 = .ok (.iload_n 1, 1) := by decide +kernel
theorem dX7_handles_1 : decode cX7_handles 1 = .ok (.ifCond .lt 7, 3) := by decide +kernel
theorem dX7_handles_4 : decode cX7_handles 4 = .ok (.iload_n 1, 1) := by decide +kernel
theorem dX7_handles_5 : decode cX7_handles 5 = .ok (.goto 6, 3) := by decide +kernel
theorem dX7_handles_8 : decode cX7_handles 8 = .ok (.iconst (-1), 1) := by decide +kernel
theorem dX7_handles_9 : decode cX7_handles 9 = .ok (.iload_n 1, 1) := by decide +kernel
theorem dX7_handles_10 : decode cX7_handles 10 = .ok (.isub, 1) := by decide +kernel
theorem dX7_handles_11 : decode cX7_handles 11 = .ok (.istore_n 2, 1) := by decide +kernel
theorem dX7_handles_12 : decode cX7_handles 12 = .ok (.aload_n 0, 1) := by decide +kernel
theorem dX7_handles_13 : decode cX7_handles 13 = .ok (.iload_n 2, 1) := by decide +kernel
theorem dX7_handles_14 : decode cX7_handles 14 = .ok (.invokevirtual 108, 3) := by decide +kernel
theorem dX7_handles_17 : decode cX7_handles 17 = .ok (.ifCond .ne 5, 3) := by decide +kernel
theorem dX7_handles_20 : decode cX7_handles 20 = .ok (.iconst 0, 1) := by decide +kernel
theorem dX7_handles_21 : decode cX7_handles 21 = .ok (.ireturn, 1) := by decide +kernel
theorem dX7_handles_22 : decode cX7_handles 22 = .ok (.aload_n 0, 1) := by decide +kernel
theorem dX7_handles_23 : decode cX7_handles 23 = .ok (.iload_n 2, 1) := by decide +kernel
theorem dX7_handles_24 : decode cX7_handles 24 = .ok (.invokevirtual 201, 3) := by decide +kernel
theorem dX7_handles_27 : decode cX7_handles 27 = .ok (.istore_n 3, 1) := by decide +kernel
theorem dX7_handles_28 : decode cX7_handles 28 = .ok (.iload_n 1, 1) := by decide +kernel
theorem dX7_handles_29 : decode cX7_handles 29 = .ok (.ifCond .lt 37, 3) := by decide +kernel
theorem dX7_handles_32 : decode cX7_handles 32 = .ok (.iload_n 3, 1) := by decide +kernel
theorem dX7_handles_33 : decode cX7_handles 33 = .ok (.ifCond .ge 23, 3) := by decide +kernel
theorem dX7_handles_36 : decode cX7_handles 36 = .ok (.aload_n 0, 1) := by decide +kernel
theorem dX7_handles_37 : decode cX7_handles 37 = .ok (.getfield 93, 3) := by decide +kernel
theorem dX7_handles_40 : decode cX7_handles 40 = .ok (.aload_n 0, 1) := by decide +kernel
theorem dX7_handles_41 : decode cX7_handles 41 = .ok (.getfield 198, 3) := by decide +kernel
theorem dX7_handles_44 : decode cX7_handles 44 = .ok (.iload_n 2, 1) := by decide +kernel
theorem dX7_handles_45 : decode cX7_handles 45 = .ok (.iastore, 1) := by decide +kernel
theorem dX7_handles_46 : decode cX7_handles 46 = .ok (.aload_n 0, 1) := by decide +kernel
theorem dX7_handles_47 : decode cX7_handles 47 = .ok (.dup, 1) := by decide +kernel
theorem dX7_handles_48 : decode cX7_handles 48 = .ok (.getfield 198, 3) := by decide +kernel
theorem dX7_handles_51 : decode cX7_handles 51 = .ok (.iconst 1, 1) := by decide +kernel
theorem dX7_handles_52 : decode cX7_handles 52 = .ok (.iadd, 1) := by decide +kernel
theorem dX7_handles_53 : decode cX7_handles 53 = .ok (.putfield 198, 3) := by decide +kernel
theorem dX7_handles_56 : decode cX7_handles 56 = .ok (.iload_n 3, 1) := by decide +kernel
theorem dX7_handles_57 : decode cX7_handles 57 = .ok (.ifCond .ge 7, 3) := by decide +kernel
theorem dX7_handles_60 : decode cX7_handles 60 = .ok (.iconst 1, 1) := by decide +kernel
theorem dX7_handles_61 : decode cX7_handles 61 = .ok (.goto 4, 3) := by decide +kernel
theorem dX7_handles_64 : decode cX7_handles 64 = .ok (.iconst 0, 1) := by decide +kernel
theorem dX7_handles_65 : decode cX7_handles 65 = .ok (.ireturn, 1) := by decide +kernel
theorem dX7_handles_66 : decode cX7_handles 66 = .ok (.iload_n 3, 1) := by decide +kernel
theorem dX7_handles_67 : decode cX7_handles 67 = .ok (.ifCond .lt 7, 3) := by decide +kernel
theorem dX7_handles_70 : decode cX7_handles 70 = .ok (.iconst 1, 1) := by decide +kernel
theorem dX7_handles_71 : decode cX7_handles 71 = .ok (.goto 4, 3) := by decide +kernel
theorem dX7_handles_74 : decode cX7_handles 74 = .ok (.iconst 0, 1) := by decide +kernel
theorem dX7_handles_75 : decode cX7_handles 75 = .ok (.istore 4, 2) := by decide +kernel
theorem dX7_handles_77 : decode cX7_handles 77 = .ok (.iload_n 3, 1) := by decide +kernel
theorem dX7_handles_78 : decode cX7_handles 78 = .ok (.iconst 1, 1) := by decide +kernel
theorem dX7_handles_79 : decode cX7_handles 79 = .ok (.iadd, 1) := by decide +kernel
theorem dX7_handles_80 : decode cX7_handles 80 = .ok (.istore 5, 2) := by decide +kernel
theorem dX7_handles_82 : decode cX7_handles 82 = .ok (.iload 5, 2) := by decide +kernel
theorem dX7_handles_84 : decode cX7_handles 84 = .ok (.aload_n 0, 1) := by decide +kernel
theorem dX7_handles_85 : decode cX7_handles 85 = .ok (.getfield 198, 3) := by decide +kernel
theorem dX7_handles_88 : decode cX7_handles 88 = .ok (.if_icmp .ge 42, 3) := by decide +kernel
theorem dX7_handles_91 : decode cX7_handles 91 = .ok (.iload 4, 2) := by decide +kernel
theorem dX7_handles_93 : decode cX7_handles 93 = .ok (.ifCond .eq 37, 3) := by decide +kernel
theorem dX7_handles_96 : decode cX7_handles 96 = .ok (.aload_n 0, 1) := by decide +kernel
theorem dX7_handles_97 : decode cX7_handles 97 = .ok (.getfield 13, 3) := by decide +kernel
theorem dX7_handles_100 : decode cX7_handles 100 = .ok (.aload_n 0, 1) := by decide +kernel
theorem dX7_handles_101 : decode cX7_handles 101 = .ok (.getfield 93, 3) := by decide +kernel
theorem dX7_handles_104 : decode cX7_handles 104 = .ok (.iload 5, 2) := by decide +kernel
theorem dX7_handles_106 : decode cX7_handles 106 = .ok (.iaload, 1) := by decide +kernel
theorem dX7_handles_107 : decode cX7_handles 107 = .ok (.iaload, 1) := by decide +kernel
theorem dX7_handles_108 : decode cX7_handles 108 = .ok (.aload_n 0, 1) := by decide +kernel
theorem dX7_handles_109 : decode cX7_handles 109 = .ok (.getfield 13, 3) := by decide +kernel
theorem dX7_handles_112 : decode cX7_handles 112 = .ok (.iload_n 2, 1) := by decide +kernel
theorem dX7_handles_113 : decode cX7_handles 113 = .ok (.iaload, 1) := by decide +kernel
theorem dX7_handles_114 : decode cX7_handles 114 = .ok (.if_icmp .eq 7, 3) := by decide +kernel
theorem dX7_handles_117 : decode cX7_handles 117 = .ok (.iconst 1, 1) := by decide +kernel
theorem dX7_handles_118 : decode cX7_handles 118 = .ok (.goto 4, 3) := by decide +kernel
theorem dX7_handles_121 : decode cX7_handles 121 = .ok (.iconst 0, 1) := by decide +kernel
theorem dX7_handles_122 : decode cX7_handles 122 = .ok (.istore 4, 2) := by decide +kernel
theorem dX7_handles_124 : decode cX7_handles 124 = .ok (.iinc 5 1, 3) := by decide +kernel
theorem dX7_handles_127 : decode cX7_handles 127 = .ok (.goto (-45), 3) := by decide +kernel
theorem dX7_handles_130 : decode cX7_handles 130 = .ok (.iload 4, 2) := by decide +kernel
theorem dX7_handles_132 : decode cX7_handles 132 = .ok (.ifCond .eq 47, 3) := by decide +kernel
theorem dX7_handles_135 : decode cX7_handles 135 = .ok (.aload_n 0, 1) := by decide +kernel
theorem dX7_handles_136 : decode cX7_handles 136 = .ok (.dup, 1) := by decide +kernel
theorem dX7_handles_137 : decode cX7_handles 137 = .ok (.getfield 198, 3) := by decide +kernel
theorem dX7_handles_140 : decode cX7_handles 140 = .ok (.iconst 1, 1) := by decide +kernel
theorem dX7_handles_141 : decode cX7_handles 141 = .ok (.isub, 1) := by decide +kernel
theorem dX7_handles_142 : decode cX7_handles 142 = .ok (.putfield 198, 3) := by decide +kernel
theorem dX7_handles_145 : decode cX7_handles 145 = .ok (.iload_n 3, 1) := by decide +kernel
theorem dX7_handles_146 : decode cX7_handles 146 = .ok (.istore 5, 2) := by decide +kernel
theorem dX7_handles_148 : decode cX7_handles 148 = .ok (.iload 5, 2) := by decide +kernel
theorem dX7_handles_150 : decode cX7_handles 150 = .ok (.aload_n 0, 1) := by decide +kernel
theorem dX7_handles_151 : decode cX7_handles 151 = .ok (.getfield 198, 3) := by decide +kernel
theorem dX7_handles_154 : decode cX7_handles 154 = .ok (.if_icmp .ge 25, 3) := by decide +kernel
theorem dX7_handles_157 : decode cX7_handles 157 = .ok (.aload_n 0, 1) := by decide +kernel
theorem dX7_handles_158 : decode cX7_handles 158 = .ok (.getfield 93, 3) := by decide +kernel
theorem dX7_handles_161 : decode cX7_handles 161 = .ok (.iload 5, 2) := by decide +kernel
theorem dX7_handles_163 : decode cX7_handles 163 = .ok (.aload_n 0, 1) := by decide +kernel
theorem dX7_handles_164 : decode cX7_handles 164 = .ok (.getfield 93, 3) := by decide +kernel
theorem dX7_handles_167 : decode cX7_handles 167 = .ok (.iload 5, 2) := by decide +kernel
theorem dX7_handles_169 : decode cX7_handles 169 = .ok (.iconst 1, 1) := by decide +kernel
theorem dX7_handles_170 : decode cX7_handles 170 = .ok (.iadd, 1) := by decide +kernel
theorem dX7_handles_171 : decode cX7_handles 171 = .ok (.iaload, 1) := by decide +kernel
theorem dX7_handles_172 : decode cX7_handles 172 = .ok (.iastore, 1) := by decide +kernel
theorem dX7_handles_173 : decode cX7_handles 173 = .ok (.iinc 5 1, 3) := by decide +kernel
theorem dX7_handles_176 : decode cX7_handles 176 = .ok (.goto (-28), 3) := by decide +kernel
theorem dX7_handles_179 : decode cX7_handles 179 = .ok (.iload 4, 2) := by decide +kernel
theorem dX7_handles_181 : decode cX7_handles 181 = .ok (.ireturn, 1) := by decide +kernel
theorem dX7_isWorn_0 : decode cX7_isWorn 0 = .ok (.aload_n 0, 1) := by decide +kernel
theorem dX7_isWorn_1 : decode cX7_isWorn 1 = .ok (.getfield 198, 3) := by decide +kernel
theorem dX7_isWorn_4 : decode cX7_isWorn 4 = .ok (.aload_n 0, 1) := by decide +kernel
theorem dX7_isWorn_5 : decode cX7_isWorn 5 = .ok (.getfield 40, 3) := by decide +kernel
theorem dX7_isWorn_8 : decode cX7_isWorn 8 = .ok (.iload_n 1, 1) := by decide +kernel
theorem dX7_isWorn_9 : decode cX7_isWorn 9 = .ok (.iaload, 1) := by decide +kernel
theorem dX7_isWorn_10 : decode cX7_isWorn 10 = .ok (.if_icmp .ne 7, 3) := by decide +kernel
theorem dX7_isWorn_13 : decode cX7_isWorn 13 = .ok (.iconst 1, 1) := by decide +kernel
theorem dX7_isWorn_14 : decode cX7_isWorn 14 = .ok (.goto 4, 3) := by decide +kernel
theorem dX7_isWorn_17 : decode cX7_isWorn 17 = .ok (.iconst 0, 1) := by decide +kernel
theorem dX7_isWorn_18 : decode cX7_isWorn 18 = .ok (.istore_n 2, 1) := by decide +kernel
theorem dX7_isWorn_19 : decode cX7_isWorn 19 = .ok (.iconst 0, 1) := by decide +kernel
theorem dX7_isWorn_20 : decode cX7_isWorn 20 = .ok (.istore_n 3, 1) := by decide +kernel
theorem dX7_isWorn_21 : decode cX7_isWorn 21 = .ok (.iload_n 3, 1) := by decide +kernel
theorem dX7_isWorn_22 : decode cX7_isWorn 22 = .ok (.aload_n 0, 1) := by decide +kernel
theorem dX7_isWorn_23 : decode cX7_isWorn 23 = .ok (.getfield 40, 3) := by decide +kernel
theorem dX7_isWorn_26 : decode cX7_isWorn 26 = .ok (.iload_n 1, 1) := by decide +kernel
theorem dX7_isWorn_27 : decode cX7_isWorn 27 = .ok (.iaload, 1) := by decide +kernel
theorem dX7_isWorn_28 : decode cX7_isWorn 28 = .ok (.if_icmp .ge 121, 3) := by decide +kernel
theorem dX7_isWorn_31 : decode cX7_isWorn 31 = .ok (.iload_n 2, 1) := by decide +kernel
theorem dX7_isWorn_32 : decode cX7_isWorn 32 = .ok (.ifCond .eq 117, 3) := by decide +kernel
theorem dX7_isWorn_35 : decode cX7_isWorn 35 = .ok (.aload_n 0, 1) := by decide +kernel
theorem dX7_isWorn_36 : decode cX7_isWorn 36 = .ok (.aload_n 0, 1) := by decide +kernel
theorem dX7_isWorn_37 : decode cX7_isWorn 37 = .ok (.getfield 43, 3) := by decide +kernel
theorem dX7_isWorn_40 : decode cX7_isWorn 40 = .ok (.bipush 8, 2) := by decide +kernel
theorem dX7_isWorn_42 : decode cX7_isWorn 42 = .ok (.iload_n 1, 1) := by decide +kernel
theorem dX7_isWorn_43 : decode cX7_isWorn 43 = .ok (.imul, 1) := by decide +kernel
theorem dX7_isWorn_44 : decode cX7_isWorn 44 = .ok (.iload_n 3, 1) := by decide +kernel
theorem dX7_isWorn_45 : decode cX7_isWorn 45 = .ok (.iadd, 1) := by decide +kernel
theorem dX7_isWorn_46 : decode cX7_isWorn 46 = .ok (.iaload, 1) := by decide +kernel
theorem dX7_isWorn_47 : decode cX7_isWorn 47 = .ok (.invokevirtual 201, 3) := by decide +kernel
theorem dX7_isWorn_50 : decode cX7_isWorn 50 = .ok (.ifCond .lt 7, 3) := by decide +kernel
theorem dX7_isWorn_53 : decode cX7_isWorn 53 = .ok (.iconst 1, 1) := by decide +kernel
theorem dX7_isWorn_54 : decode cX7_isWorn 54 = .ok (.goto 4, 3) := by decide +kernel
theorem dX7_isWorn_57 : decode cX7_isWorn 57 = .ok (.iconst 0, 1) := by decide +kernel
theorem dX7_isWorn_58 : decode cX7_isWorn 58 = .ok (.istore_n 2, 1) := by decide +kernel
theorem dX7_isWorn_59 : decode cX7_isWorn 59 = .ok (.iconst 0, 1) := by decide +kernel
theorem dX7_isWorn_60 : decode cX7_isWorn 60 = .ok (.istore 4, 2) := by decide +kernel
theorem dX7_isWorn_62 : decode cX7_isWorn 62 = .ok (.iload 4, 2) := by decide +kernel
theorem dX7_isWorn_64 : decode cX7_isWorn 64 = .ok (.iload_n 3, 1) := by decide +kernel
theorem dX7_isWorn_65 : decode cX7_isWorn 65 = .ok (.if_icmp .ge 78, 3) := by decide +kernel
theorem dX7_isWorn_68 : decode cX7_isWorn 68 = .ok (.iload_n 2, 1) := by decide +kernel
theorem dX7_isWorn_69 : decode cX7_isWorn 69 = .ok (.ifCond .eq 74, 3) := by decide +kernel
theorem dX7_isWorn_72 : decode cX7_isWorn 72 = .ok (.aload_n 0, 1) := by decide +kernel
theorem dX7_isWorn_73 : decode cX7_isWorn 73 = .ok (.getfield 43, 3) := by decide +kernel
theorem dX7_isWorn_76 : decode cX7_isWorn 76 = .ok (.bipush 8, 2) := by decide +kernel
theorem dX7_isWorn_78 : decode cX7_isWorn 78 = .ok (.iload_n 1, 1) := by decide +kernel
theorem dX7_isWorn_79 : decode cX7_isWorn 79 = .ok (.imul, 1) := by decide +kernel
theorem dX7_isWorn_80 : decode cX7_isWorn 80 = .ok (.iload_n 3, 1) := by decide +kernel
theorem dX7_isWorn_81 : decode cX7_isWorn 81 = .ok (.iadd, 1) := by decide +kernel
theorem dX7_isWorn_82 : decode cX7_isWorn 82 = .ok (.iaload, 1) := by decide +kernel
theorem dX7_isWorn_83 : decode cX7_isWorn 83 = .ok (.istore 5, 2) := by decide +kernel
theorem dX7_isWorn_85 : decode cX7_isWorn 85 = .ok (.aload_n 0, 1) := by decide +kernel
theorem dX7_isWorn_86 : decode cX7_isWorn 86 = .ok (.getfield 43, 3) := by decide +kernel
theorem dX7_isWorn_89 : decode cX7_isWorn 89 = .ok (.bipush 8, 2) := by decide +kernel
theorem dX7_isWorn_91 : decode cX7_isWorn 91 = .ok (.iload_n 1, 1) := by decide +kernel
theorem dX7_isWorn_92 : decode cX7_isWorn 92 = .ok (.imul, 1) := by decide +kernel
theorem dX7_isWorn_93 : decode cX7_isWorn 93 = .ok (.iload 4, 2) := by decide +kernel
theorem dX7_isWorn_95 : decode cX7_isWorn 95 = .ok (.iadd, 1) := by decide +kernel
theorem dX7_isWorn_96 : decode cX7_isWorn 96 = .ok (.iaload, 1) := by decide +kernel
theorem dX7_isWorn_97 : decode cX7_isWorn 97 = .ok (.istore 6, 2) := by decide +kernel
theorem dX7_isWorn_99 : decode cX7_isWorn 99 = .ok (.aload_n 0, 1) := by decide +kernel
theorem dX7_isWorn_100 : decode cX7_isWorn 100 = .ok (.getfield 13, 3) := by decide +kernel
theorem dX7_isWorn_103 : decode cX7_isWorn 103 = .ok (.iload 5, 2) := by decide +kernel
theorem dX7_isWorn_105 : decode cX7_isWorn 105 = .ok (.iaload, 1) := by decide +kernel
theorem dX7_isWorn_106 : decode cX7_isWorn 106 = .ok (.aload_n 0, 1) := by decide +kernel
theorem dX7_isWorn_107 : decode cX7_isWorn 107 = .ok (.getfield 13, 3) := by decide +kernel
theorem dX7_isWorn_110 : decode cX7_isWorn 110 = .ok (.iload 6, 2) := by decide +kernel
theorem dX7_isWorn_112 : decode cX7_isWorn 112 = .ok (.iaload, 1) := by decide +kernel
theorem dX7_isWorn_113 : decode cX7_isWorn 113 = .ok (.if_icmp .ne 18, 3) := by decide +kernel
theorem dX7_isWorn_116 : decode cX7_isWorn 116 = .ok (.aload_n 0, 1) := by decide +kernel
theorem dX7_isWorn_117 : decode cX7_isWorn 117 = .ok (.iload 6, 2) := by decide +kernel
theorem dX7_isWorn_119 : decode cX7_isWorn 119 = .ok (.invokevirtual 201, 3) := by decide +kernel
theorem dX7_isWorn_122 : decode cX7_isWorn 122 = .ok (.aload_n 0, 1) := by decide +kernel
theorem dX7_isWorn_123 : decode cX7_isWorn 123 = .ok (.iload 5, 2) := by decide +kernel
theorem dX7_isWorn_125 : decode cX7_isWorn 125 = .ok (.invokevirtual 201, 3) := by decide +kernel
theorem dX7_isWorn_128 : decode cX7_isWorn 128 = .ok (.if_icmp .ge 7, 3) := by decide +kernel
theorem dX7_isWorn_131 : decode cX7_isWorn 131 = .ok (.iconst 1, 1) := by decide +kernel
theorem dX7_isWorn_132 : decode cX7_isWorn 132 = .ok (.goto 4, 3) := by decide +kernel
theorem dX7_isWorn_135 : decode cX7_isWorn 135 = .ok (.iconst 0, 1) := by decide +kernel
theorem dX7_isWorn_136 : decode cX7_isWorn 136 = .ok (.istore_n 2, 1) := by decide +kernel
theorem dX7_isWorn_137 : decode cX7_isWorn 137 = .ok (.iinc 4 1, 3) := by decide +kernel
theorem dX7_isWorn_140 : decode cX7_isWorn 140 = .ok (.goto (-78), 3) := by decide +kernel
theorem dX7_isWorn_143 : decode cX7_isWorn 143 = .ok (.iinc 3 1, 3) := by decide +kernel
theorem dX7_isWorn_146 : decode cX7_isWorn 146 = .ok (.goto (-125), 3) := by decide +kernel
theorem dX7_isWorn_149 : decode cX7_isWorn 149 = .ok (.iload_n 2, 1) := by decide +kernel
theorem dX7_isWorn_150 : decode cX7_isWorn 150 = .ok (.ireturn, 1) := by decide +kernel
theorem dX7_check_0 : decode cX7_check 0 = .ok (.aload_n 0, 1) := by decide +kernel
theorem dX7_check_1 : decode cX7_check 1 = .ok (.getfield 195, 3) := by decide +kernel
theorem dX7_check_4 : decode cX7_check 4 = .ok (.istore 4, 2) := by decide +kernel
theorem dX7_check_6 : decode cX7_check 6 = .ok (.aload_n 0, 1) := by decide +kernel
theorem dX7_check_7 : decode cX7_check 7 = .ok (.iconst 0, 1) := by decide +kernel
theorem dX7_check_8 : decode cX7_check 8 = .ok (.putfield 195, 3) := by decide +kernel
theorem dX7_check_11 : decode cX7_check 11 = .ok (.aload_n 0, 1) := by decide +kernel
theorem dX7_check_12 : decode cX7_check 12 = .ok (.iload_n 1, 1) := by decide +kernel
theorem dX7_check_13 : decode cX7_check 13 = .ok (.iload_n 2, 1) := by decide +kernel
theorem dX7_check_14 : decode cX7_check 14 = .ok (.iload_n 3, 1) := by decide +kernel
theorem dX7_check_15 : decode cX7_check 15 = .ok (.invokevirtual 127, 3) := by decide +kernel
theorem dX7_check_18 : decode cX7_check 18 = .ok (.ifCond .ne 9, 3) := by decide +kernel
theorem dX7_check_21 : decode cX7_check 21 = .ok (.aload_n 0, 1) := by decide +kernel
theorem dX7_check_22 : decode cX7_check 22 = .ok (.iconst 1, 1) := by decide +kernel
theorem dX7_check_23 : decode cX7_check 23 = .ok (.invokevirtual 104, 3) := by decide +kernel
theorem dX7_check_26 : decode cX7_check 26 = .ok (.ireturn, 1) := by decide +kernel
theorem dX7_check_27 : decode cX7_check 27 = .ok (.aload_n 0, 1) := by decide +kernel
theorem dX7_check_28 : decode cX7_check 28 = .ok (.iload_n 1, 1) := by decide +kernel
theorem dX7_check_29 : decode cX7_check 29 = .ok (.iload_n 2, 1) := by decide +kernel
theorem dX7_check_30 : decode cX7_check 30 = .ok (.iload_n 3, 1) := by decide +kernel
theorem dX7_check_31 : decode cX7_check 31 = .ok (.invokevirtual 130, 3) := by decide +kernel
theorem dX7_check_34 : decode cX7_check 34 = .ok (.ifCond .ne 9, 3) := by decide +kernel
theorem dX7_check_37 : decode cX7_check 37 = .ok (.aload_n 0, 1) := by decide +kernel
theorem dX7_check_38 : decode cX7_check 38 = .ok (.iconst 3, 1) := by decide +kernel
theorem dX7_check_39 : decode cX7_check 39 = .ok (.invokevirtual 104, 3) := by decide +kernel
theorem dX7_check_42 : decode cX7_check 42 = .ok (.ireturn, 1) := by decide +kernel
theorem dX7_check_43 : decode cX7_check 43 = .ok (.aload_n 0, 1) := by decide +kernel
theorem dX7_check_44 : decode cX7_check 44 = .ok (.iconst 0, 1) := by decide +kernel
theorem dX7_check_45 : decode cX7_check 45 = .ok (.putfield 198, 3) := by decide +kernel
theorem dX7_check_48 : decode cX7_check 48 = .ok (.iconst 0, 1) := by decide +kernel
theorem dX7_check_49 : decode cX7_check 49 = .ok (.istore 5, 2) := by decide +kernel
theorem dX7_check_51 : decode cX7_check 51 = .ok (.iload 5, 2) := by decide +kernel
theorem dX7_check_53 : decode cX7_check 53 = .ok (.aload_n 0, 1) := by decide +kernel
theorem dX7_check_54 : decode cX7_check 54 = .ok (.getfield 40, 3) := by decide +kernel
theorem dX7_check_57 : decode cX7_check 57 = .ok (.iload_n 2, 1) := by decide +kernel
theorem dX7_check_58 : decode cX7_check 58 = .ok (.iaload, 1) := by decide +kernel
theorem dX7_check_59 : decode cX7_check 59 = .ok (.if_icmp .ge 49, 3) := by decide +kernel
theorem dX7_check_62 : decode cX7_check 62 = .ok (.iload_n 3, 1) := by decide +kernel
theorem dX7_check_63 : decode cX7_check 63 = .ok (.iload 5, 2) := by decide +kernel
theorem dX7_check_65 : decode cX7_check 65 = .ok (.invokestatic 119, 3) := by decide +kernel
theorem dX7_check_68 : decode cX7_check 68 = .ok (.ifCond .eq 34, 3) := by decide +kernel
theorem dX7_check_71 : decode cX7_check 71 = .ok (.aload_n 0, 1) := by decide +kernel
theorem dX7_check_72 : decode cX7_check 72 = .ok (.getfield 93, 3) := by decide +kernel
theorem dX7_check_75 : decode cX7_check 75 = .ok (.aload_n 0, 1) := by decide +kernel
theorem dX7_check_76 : decode cX7_check 76 = .ok (.getfield 198, 3) := by decide +kernel
theorem dX7_check_79 : decode cX7_check 79 = .ok (.aload_n 0, 1) := by decide +kernel
theorem dX7_check_80 : decode cX7_check 80 = .ok (.getfield 43, 3) := by decide +kernel
theorem dX7_check_83 : decode cX7_check 83 = .ok (.bipush 8, 2) := by decide +kernel
theorem dX7_check_85 : decode cX7_check 85 = .ok (.iload_n 2, 1) := by decide +kernel
theorem dX7_check_86 : decode cX7_check 86 = .ok (.imul, 1) := by decide +kernel
theorem dX7_check_87 : decode cX7_check 87 = .ok (.iload 5, 2) := by decide +kernel
theorem dX7_check_89 : decode cX7_check 89 = .ok (.iadd, 1) := by decide +kernel
theorem dX7_check_90 : decode cX7_check 90 = .ok (.iaload, 1) := by decide +kernel
theorem dX7_check_91 : decode cX7_check 91 = .ok (.iastore, 1) := by decide +kernel
theorem dX7_check_92 : decode cX7_check 92 = .ok (.aload_n 0, 1) := by decide +kernel
theorem dX7_check_93 : decode cX7_check 93 = .ok (.dup, 1) := by decide +kernel
theorem dX7_check_94 : decode cX7_check 94 = .ok (.getfield 198, 3) := by decide +kernel
theorem dX7_check_97 : decode cX7_check 97 = .ok (.iconst 1, 1) := by decide +kernel
theorem dX7_check_98 : decode cX7_check 98 = .ok (.iadd, 1) := by decide +kernel
theorem dX7_check_99 : decode cX7_check 99 = .ok (.putfield 198, 3) := by decide +kernel
theorem dX7_check_102 : decode cX7_check 102 = .ok (.iinc 5 1, 3) := by decide +kernel
theorem dX7_check_105 : decode cX7_check 105 = .ok (.goto (-54), 3) := by decide +kernel
theorem dX7_check_108 : decode cX7_check 108 = .ok (.iconst 0, 1) := by decide +kernel
theorem dX7_check_109 : decode cX7_check 109 = .ok (.istore 5, 2) := by decide +kernel
theorem dX7_check_111 : decode cX7_check 111 = .ok (.iload 5, 2) := by decide +kernel
theorem dX7_check_113 : decode cX7_check 113 = .ok (.aload_n 0, 1) := by decide +kernel
theorem dX7_check_114 : decode cX7_check 114 = .ok (.getfield 40, 3) := by decide +kernel
theorem dX7_check_117 : decode cX7_check 117 = .ok (.iload_n 1, 1) := by decide +kernel
theorem dX7_check_118 : decode cX7_check 118 = .ok (.iaload, 1) := by decide +kernel
theorem dX7_check_119 : decode cX7_check 119 = .ok (.if_icmp .ge 40, 3) := by decide +kernel
theorem dX7_check_122 : decode cX7_check 122 = .ok (.aload_n 0, 1) := by decide +kernel
theorem dX7_check_123 : decode cX7_check 123 = .ok (.getfield 93, 3) := by decide +kernel
theorem dX7_check_126 : decode cX7_check 126 = .ok (.aload_n 0, 1) := by decide +kernel
theorem dX7_check_127 : decode cX7_check 127 = .ok (.getfield 198, 3) := by decide +kernel
theorem dX7_check_130 : decode cX7_check 130 = .ok (.aload_n 0, 1) := by decide +kernel
theorem dX7_check_131 : decode cX7_check 131 = .ok (.getfield 43, 3) := by decide +kernel
theorem dX7_check_134 : decode cX7_check 134 = .ok (.bipush 8, 2) := by decide +kernel
theorem dX7_check_136 : decode cX7_check 136 = .ok (.iload_n 1, 1) := by decide +kernel
theorem dX7_check_137 : decode cX7_check 137 = .ok (.imul, 1) := by decide +kernel
theorem dX7_check_138 : decode cX7_check 138 = .ok (.iload 5, 2) := by decide +kernel
theorem dX7_check_140 : decode cX7_check 140 = .ok (.iadd, 1) := by decide +kernel
theorem dX7_check_141 : decode cX7_check 141 = .ok (.iaload, 1) := by decide +kernel
theorem dX7_check_142 : decode cX7_check 142 = .ok (.iastore, 1) := by decide +kernel
theorem dX7_check_143 : decode cX7_check 143 = .ok (.aload_n 0, 1) := by decide +kernel
theorem dX7_check_144 : decode cX7_check 144 = .ok (.dup, 1) := by decide +kernel
theorem dX7_check_145 : decode cX7_check 145 = .ok (.getfield 198, 3) := by decide +kernel
theorem dX7_check_148 : decode cX7_check 148 = .ok (.iconst 1, 1) := by decide +kernel
theorem dX7_check_149 : decode cX7_check 149 = .ok (.iadd, 1) := by decide +kernel
theorem dX7_check_150 : decode cX7_check 150 = .ok (.putfield 198, 3) := by decide +kernel
theorem dX7_check_153 : decode cX7_check 153 = .ok (.iinc 5 1, 3) := by decide +kernel
theorem dX7_check_156 : decode cX7_check 156 = .ok (.goto (-45), 3) := by decide +kernel
theorem dX7_check_159 : decode cX7_check 159 = .ok (.iconst 0, 1) := by decide +kernel
theorem dX7_check_160 : decode cX7_check 160 = .ok (.istore 5, 2) := by decide +kernel
theorem dX7_check_162 : decode cX7_check 162 = .ok (.iload 5, 2) := by decide +kernel
theorem dX7_check_164 : decode cX7_check 164 = .ok (.iload 4, 2) := by decide +kernel
theorem dX7_check_166 : decode cX7_check 166 = .ok (.if_icmp .ge 28, 3) := by decide +kernel
theorem dX7_check_169 : decode cX7_check 169 = .ok (.aload_n 0, 1) := by decide +kernel
theorem dX7_check_170 : decode cX7_check 170 = .ok (.aload_n 0, 1) := by decide +kernel
theorem dX7_check_171 : decode cX7_check 171 = .ok (.getfield 71, 3) := by decide +kernel
theorem dX7_check_174 : decode cX7_check 174 = .ok (.iload 5, 2) := by decide +kernel
theorem dX7_check_176 : decode cX7_check 176 = .ok (.iaload, 1) := by decide +kernel
theorem dX7_check_177 : decode cX7_check 177 = .ok (.invokevirtual 204, 3) := by decide +kernel
theorem dX7_check_180 : decode cX7_check 180 = .ok (.ifCond .ne 8, 3) := by decide +kernel
theorem dX7_check_183 : decode cX7_check 183 = .ok (.iconst 1, 1) := by decide +kernel
theorem dX7_check_184 : decode cX7_check 184 = .ok (.iload 5, 2) := by decide +kernel
theorem dX7_check_186 : decode cX7_check 186 = .ok (.iadd, 1) := by decide +kernel
theorem dX7_check_187 : decode cX7_check 187 = .ok (.ireturn, 1) := by decide +kernel
theorem dX7_check_188 : decode cX7_check 188 = .ok (.iinc 5 1, 3) := by decide +kernel
theorem dX7_check_191 : decode cX7_check 191 = .ok (.goto (-29), 3) := by decide +kernel
theorem dX7_check_194 : decode cX7_check 194 = .ok (.aload_n 0, 1) := by decide +kernel
theorem dX7_check_195 : decode cX7_check 195 = .ok (.iload_n 2, 1) := by decide +kernel
theorem dX7_check_196 : decode cX7_check 196 = .ok (.invokevirtual 207, 3) := by decide +kernel
theorem dX7_check_199 : decode cX7_check 199 = .ok (.ifCond .eq 7, 3) := by decide +kernel
theorem dX7_check_202 : decode cX7_check 202 = .ok (.iconst 0, 1) := by decide +kernel
theorem dX7_check_203 : decode cX7_check 203 = .ok (.goto 5, 3) := by decide +kernel
theorem dX7_check_206 : decode cX7_check 206 = .ok (.bipush 99, 2) := by decide +kernel
theorem dX7_check_208 : decode cX7_check 208 = .ok (.ireturn, 1) := by decide +kernel
theorem dX6_count_0 : decode cX6_count 0 = .ok (.iload_n 1, 1) := by decide +kernel
theorem dX6_count_1 : decode cX6_count 1 = .ok (.tableswitch 81 0 5 #[39, 47, 55, 63, 68, 76], 39) := by decide +kernel
theorem dX6_count_40 : decode cX6_count 40 = .ok (.aload_n 0, 1) := by decide +kernel
theorem dX6_count_41 : decode cX6_count 41 = .ok (.getfield 10, 3) := by decide +kernel
theorem dX6_count_44 : decode cX6_count 44 = .ok (.getfield 210, 3) := by decide +kernel
theorem dX6_count_47 : decode cX6_count 47 = .ok (.ireturn, 1) := by decide +kernel
theorem dX6_count_48 : decode cX6_count 48 = .ok (.aload_n 0, 1) := by decide +kernel
theorem dX6_count_49 : decode cX6_count 49 = .ok (.getfield 35, 3) := by decide +kernel
theorem dX6_count_52 : decode cX6_count 52 = .ok (.getfield 153, 3) := by decide +kernel
theorem dX6_count_55 : decode cX6_count 55 = .ok (.ireturn, 1) := by decide +kernel
theorem dX6_count_56 : decode cX6_count 56 = .ok (.aload_n 0, 1) := by decide +kernel
theorem dX6_count_57 : decode cX6_count 57 = .ok (.getfield 10, 3) := by decide +kernel
theorem dX6_count_60 : decode cX6_count 60 = .ok (.getfield 189, 3) := by decide +kernel
theorem dX6_count_63 : decode cX6_count 63 = .ok (.ireturn, 1) := by decide +kernel
theorem dX6_count_64 : decode cX6_count 64 = .ok (.aload_n 0, 1) := by decide +kernel
theorem dX6_count_65 : decode cX6_count 65 = .ok (.getfield 199, 3) := by decide +kernel
theorem dX6_count_68 : decode cX6_count 68 = .ok (.ireturn, 1) := by decide +kernel
theorem dX6_count_69 : decode cX6_count 69 = .ok (.aload_n 0, 1) := by decide +kernel
theorem dX6_count_70 : decode cX6_count 70 = .ok (.getfield 10, 3) := by decide +kernel
theorem dX6_count_73 : decode cX6_count 73 = .ok (.invokevirtual 183, 3) := by decide +kernel
theorem dX6_count_76 : decode cX6_count 76 = .ok (.ireturn, 1) := by decide +kernel
theorem dX6_count_77 : decode cX6_count 77 = .ok (.aload_n 0, 1) := by decide +kernel
theorem dX6_count_78 : decode cX6_count 78 = .ok (.getfield 64, 3) := by decide +kernel
theorem dX6_count_81 : decode cX6_count 81 = .ok (.ireturn, 1) := by decide +kernel
theorem dX6_count_82 : decode cX6_count 82 = .ok (.aload_n 0, 1) := by decide +kernel
theorem dX6_count_83 : decode cX6_count 83 = .ok (.iconst 1, 1) := by decide +kernel
theorem dX6_count_84 : decode cX6_count 84 = .ok (.invokevirtual 72, 3) := by decide +kernel
theorem dX6_count_87 : decode cX6_count 87 = .ok (.ireturn, 1) := by decide +kernel
theorem dX7_count_0 : decode cX7_count 0 = .ok (.iload_n 1, 1) := by decide +kernel
theorem dX7_count_1 : decode cX7_count 1 = .ok (.tableswitch 69 0 5 #[39, 44, 49, 54, 59, 64], 39) := by decide +kernel
theorem dX7_count_40 : decode cX7_count 40 = .ok (.aload_n 0, 1) := by decide +kernel
theorem dX7_count_41 : decode cX7_count 41 = .ok (.getfield 97, 3) := by decide +kernel
theorem dX7_count_44 : decode cX7_count 44 = .ok (.ireturn, 1) := by decide +kernel
theorem dX7_count_45 : decode cX7_count 45 = .ok (.aload_n 0, 1) := by decide +kernel
theorem dX7_count_46 : decode cX7_count 46 = .ok (.getfield 166, 3) := by decide +kernel
theorem dX7_count_49 : decode cX7_count 49 = .ok (.ireturn, 1) := by decide +kernel
theorem dX7_count_50 : decode cX7_count 50 = .ok (.aload_n 0, 1) := by decide +kernel
theorem dX7_count_51 : decode cX7_count 51 = .ok (.getfield 182, 3) := by decide +kernel
theorem dX7_count_54 : decode cX7_count 54 = .ok (.ireturn, 1) := by decide +kernel
theorem dX7_count_55 : decode cX7_count 55 = .ok (.aload_n 0, 1) := by decide +kernel
theorem dX7_count_56 : decode cX7_count 56 = .ok (.getfield 195, 3) := by decide +kernel
theorem dX7_count_59 : decode cX7_count 59 = .ok (.ireturn, 1) := by decide +kernel
theorem dX7_count_60 : decode cX7_count 60 = .ok (.aload_n 0, 1) := by decide +kernel
theorem dX7_count_61 : decode cX7_count 61 = .ok (.invokevirtual 178, 3) := by decide +kernel
theorem dX7_count_64 : decode cX7_count 64 = .ok (.ireturn, 1) := by decide +kernel
theorem dX7_count_65 : decode cX7_count 65 = .ok (.aload_n 0, 1) := by decide +kernel
theorem dX7_count_66 : decode cX7_count 66 = .ok (.getfield 46, 3) := by decide +kernel
theorem dX7_count_69 : decode cX7_count 69 = .ok (.ireturn, 1) := by decide +kernel
theorem dX7_count_70 : decode cX7_count 70 = .ok (.aload_n 0, 1) := by decide +kernel
theorem dX7_count_71 : decode cX7_count 71 = .ok (.iconst 1, 1) := by decide +kernel
theorem dX7_count_72 : decode cX7_count 72 = .ok (.invokevirtual 104, 3) := by decide +kernel
theorem dX7_count_75 : decode cX7_count 75 = .ok (.ireturn, 1) := by decide +kernel
theorem dX6_found_0 : decode cX6_found 0 = .ok (.iload_n 1, 1) := by decide +kernel
theorem dX6_found_1 : decode cX6_found 1 = .ok (.iconst 1, 1) := by decide +kernel
theorem dX6_found_2 : decode cX6_found 2 = .ok (.iconst 5, 1) := by decide +kernel
theorem dX6_found_3 : decode cX6_found 3 = .ok (.invokestatic 88, 3) := by decide +kernel
theorem dX6_found_6 : decode cX6_found 6 = .ok (.ifCond .eq 12, 3) := by decide +kernel
theorem dX6_found_9 : decode cX6_found 9 = .ok (.aload_n 0, 1) := by decide +kernel
theorem dX6_found_10 : decode cX6_found 10 = .ok (.getfield 61, 3) := by decide +kernel
theorem dX6_found_13 : decode cX6_found 13 = .ok (.iload_n 1, 1) := by decide +kernel
theorem dX6_found_14 : decode cX6_found 14 = .ok (.iaload, 1) := by decide +kernel
theorem dX6_found_15 : decode cX6_found 15 = .ok (.goto 8, 3) := by decide +kernel
theorem dX6_found_18 : decode cX6_found 18 = .ok (.aload_n 0, 1) := by decide +kernel
theorem dX6_found_19 : decode cX6_found 19 = .ok (.iconst 1, 1) := by decide +kernel
theorem dX6_found_20 : decode cX6_found 20 = .ok (.invokevirtual 72, 3) := by decide +kernel
theorem dX6_found_23 : decode cX6_found 23 = .ok (.ireturn, 1) := by decide +kernel
theorem dX7_found_0 : decode cX7_found 0 = .ok (.iload_n 1, 1) := by decide +kernel
theorem dX7_found_1 : decode cX7_found 1 = .ok (.iconst 1, 1) := by decide +kernel
theorem dX7_found_2 : decode cX7_found 2 = .ok (.iconst 5, 1) := by decide +kernel
theorem dX7_found_3 : decode cX7_found 3 = .ok (.invokestatic 100, 3) := by decide +kernel
theorem dX7_found_6 : decode cX7_found 6 = .ok (.ifCond .eq 12, 3) := by decide +kernel
theorem dX7_found_9 : decode cX7_found 9 = .ok (.aload_n 0, 1) := by decide +kernel
theorem dX7_found_10 : decode cX7_found 10 = .ok (.getfield 74, 3) := by decide +kernel
theorem dX7_found_13 : decode cX7_found 13 = .ok (.iload_n 1, 1) := by decide +kernel
theorem dX7_found_14 : decode cX7_found 14 = .ok (.iaload, 1) := by decide +kernel
theorem dX7_found_15 : decode cX7_found 15 = .ok (.goto 8, 3) := by decide +kernel
theorem dX7_found_18 : decode cX7_found 18 = .ok (.aload_n 0, 1) := by decide +kernel
theorem dX7_found_19 : decode cX7_found 19 = .ok (.iconst 1, 1) := by decide +kernel
theorem dX7_found_20 : decode cX7_found 20 = .ok (.invokevirtual 104, 3) := by decide +kernel
theorem dX7_found_23 : decode cX7_found 23 = .ok (.ireturn, 1) := by decide +kernel
