theorem dX7_threatens_25 : decode cX7_threatens 25 = .ok (.iaload, 1) := by decide +kernel
theorem dX7_threatens_26 : decode cX7_threatens 26 = .ok (.iload_n 1, 1) := by decide +kernel
theorem dX7_threatens_27 : decode cX7_threatens 27 = .ok (.ior, 1) := by decide +kernel
theorem dX7_threatens_28 : decode cX7_threatens 28 = .ok (.invokevirtual 48, 3) := by decide +kernel
theorem dX7_threatens_31 : decode cX7_threatens 31 = .ok (.ifCond .eq 7, 3) := by decide +kernel
theorem dX7_threatens_34 : decode cX7_threatens 34 = .ok (.iconst 1, 1) := by decide +kernel
theorem dX7_threatens_35 : decode cX7_threatens 35 = .ok (.goto 4, 3) := by decide +kernel
theorem dX7_threatens_38 : decode cX7_threatens 38 = .ok (.iconst 0, 1) := by decide +kernel
theorem dX7_threatens_39 : decode cX7_threatens 39 = .ok (.ireturn, 1) := by decide +kernel
theorem dX7_findThreat_0 : decode cX7_findThreat 0 = .ok (.iconst 0, 1) := by decide +kernel
theorem dX7_findThreat_1 : decode cX7_findThreat 1 = .ok (.istore_n 1, 1) := by decide +kernel
theorem dX7_findThreat_2 : decode cX7_findThreat 2 = .ok (.iconst 0, 1) := by decide +kernel
theorem dX7_findThreat_3 : decode cX7_findThreat 3 = .ok (.istore_n 2, 1) := by decide +kernel
theorem dX7_findThreat_4 : decode cX7_findThreat 4 = .ok (.iload_n 2, 1) := by decide +kernel
theorem dX7_findThreat_5 : decode cX7_findThreat 5 = .ok (.sipush 128, 3) := by decide +kernel
theorem dX7_findThreat_8 : decode cX7_findThreat 8 = .ok (.if_icmp .ge 52, 3) := by decide +kernel
theorem dX7_findThreat_11 : decode cX7_findThreat 11 = .ok (.iload_n 1, 1) := by decide +kernel
theorem dX7_findThreat_12 : decode cX7_findThreat 12 = .ok (.ifCond .eq 17, 3) := by decide +kernel
theorem dX7_findThreat_15 : decode cX7_findThreat 15 = .ok (.iload_n 2, 1) := by decide +kernel
theorem dX7_findThreat_16 : decode cX7_findThreat 16 = .ok (.invokestatic 52, 3) := by decide +kernel
theorem dX7_findThreat_19 : decode cX7_findThreat 19 = .ok (.aload_n 0, 1) := by decide +kernel
theorem dX7_findThreat_20 : decode cX7_findThreat 20 = .ok (.getfield 9, 3) := by decide +kernel
theorem dX7_findThreat_23 : decode cX7_findThreat 23 = .ok (.invokestatic 52, 3) := by decide +kernel
theorem dX7_findThreat_26 : decode cX7_findThreat 26 = .ok (.if_icmp .ge 7, 3) := by decide +kernel
theorem dX7_findThreat_29 : decode cX7_findThreat 29 = .ok (.iconst 1, 1) := by decide +kernel
theorem dX7_findThreat_30 : decode cX7_findThreat 30 = .ok (.goto 4, 3) := by decide +kernel
theorem dX7_findThreat_33 : decode cX7_findThreat 33 = .ok (.iconst 0, 1) := by decide +kernel
theorem dX7_findThreat_34 : decode cX7_findThreat 34 = .ok (.istore_n 3, 1) := by decide +kernel
theorem dX7_findThreat_35 : decode cX7_findThreat 35 = .ok (.iload_n 3, 1) := by decide +kernel
theorem dX7_findThreat_36 : decode cX7_findThreat 36 = .ok (.ifCond .eq 18, 3) := by decide +kernel
theorem dX7_findThreat_39 : decode cX7_findThreat 39 = .ok (.aload_n 0, 1) := by decide +kernel
theorem dX7_findThreat_40 : decode cX7_findThreat 40 = .ok (.iload_n 2, 1) := by decide +kernel
theorem dX7_findThreat_41 : decode cX7_findThreat 41 = .ok (.invokevirtual 57, 3) := by decide +kernel
theorem dX7_findThreat_44 : decode cX7_findThreat 44 = .ok (.ifCond .eq 10, 3) := by decide +kernel
theorem dX7_findThreat_47 : decode cX7_findThreat 47 = .ok (.iconst 1, 1) := by decide +kernel
theorem dX7_findThreat_48 : decode cX7_findThreat 48 = .ok (.istore_n 1, 1) := by decide +kernel
theorem dX7_findThreat_49 : decode cX7_findThreat 49 = .ok (.aload_n 0, 1) := by decide +kernel
theorem dX7_findThreat_50 : decode cX7_findThreat 50 = .ok (.iload_n 2, 1) := by decide +kernel
theorem dX7_findThreat_51 : decode cX7_findThreat 51 = .ok (.putfield 9, 3) := by decide +kernel
theorem dX7_findThreat_54 : decode cX7_findThreat 54 = .ok (.iinc 2 1, 3) := by decide +kernel
theorem dX7_findThreat_57 : decode cX7_findThreat 57 = .ok (.goto (-53), 3) := by decide +kernel
theorem dX7_findThreat_60 : decode cX7_findThreat 60 = .ok (.iload_n 1, 1) := by decide +kernel
theorem dX7_findThreat_61 : decode cX7_findThreat 61 = .ok (.ireturn, 1) := by decide +kernel
theorem dX7_countThreats_0 : decode cX7_countThreats 0 = .ok (.iconst 0, 1) := by decide +kernel
theorem dX7_countThreats_1 : decode cX7_countThreats 1 = .ok (.istore_n 1, 1) := by decide +kernel
theorem dX7_countThreats_2 : decode cX7_countThreats 2 = .ok (.iconst 0, 1) := by decide +kernel
theorem dX7_countThreats_3 : decode cX7_countThreats 3 = .ok (.istore_n 2, 1) := by decide +kernel
theorem dX7_countThreats_4 : decode cX7_countThreats 4 = .ok (.iload_n 2, 1) := by decide +kernel
theorem dX7_countThreats_5 : decode cX7_countThreats 5 = .ok (.sipush 128, 3) := by decide +kernel
theorem dX7_countThreats_8 : decode cX7_countThreats 8 = .ok (.if_icmp .ge 25, 3) := by decide +kernel
theorem dX7_countThreats_11 : decode cX7_countThreats 11 = .ok (.iload_n 1, 1) := by decide +kernel
theorem dX7_countThreats_12 : decode cX7_countThreats 12 = .ok (.aload_n 0, 1) := by decide +kernel
theorem dX7_countThreats_13 : decode cX7_countThreats 13 = .ok (.iload_n 2, 1) := by decide +kernel
theorem dX7_countThreats_14 : decode cX7_countThreats 14 = .ok (.invokevirtual 57, 3) := by decide +kernel
theorem dX7_countThreats_17 : decode cX7_countThreats 17 = .ok (.ifCond .eq 7, 3) := by decide +kernel
theorem dX7_countThreats_20 : decode cX7_countThreats 20 = .ok (.iconst 1, 1) := by decide +kernel
theorem dX7_countThreats_21 : decode cX7_countThreats 21 = .ok (.goto 4, 3) := by decide +kernel
theorem dX7_countThreats_24 : decode cX7_countThreats 24 = .ok (.iconst 0, 1) := by decide +kernel
theorem dX7_countThreats_25 : decode cX7_countThreats 25 = .ok (.iadd, 1) := by decide +kernel
theorem dX7_countThreats_26 : decode cX7_countThreats 26 = .ok (.istore_n 1, 1) := by decide +kernel
theorem dX7_countThreats_27 : decode cX7_countThreats 27 = .ok (.iinc 2 1, 3) := by decide +kernel
theorem dX7_countThreats_30 : decode cX7_countThreats 30 = .ok (.goto (-26), 3) := by decide +kernel
theorem dX7_countThreats_33 : decode cX7_countThreats 33 = .ok (.iload_n 1, 1) := by decide +kernel
theorem dX7_countThreats_34 : decode cX7_countThreats 34 = .ok (.ireturn, 1) := by decide +kernel
theorem dX7_oddsOf_0 : decode cX7_oddsOf 0 = .ok (.aload_n 0, 1) := by decide +kernel
theorem dX7_oddsOf_1 : decode cX7_oddsOf 1 = .ok (.invokevirtual 60, 3) := by decide +kernel
theorem dX7_oddsOf_4 : decode cX7_oddsOf 4 = .ok (.aload_n 0, 1) := by decide +kernel
theorem dX7_oddsOf_5 : decode cX7_oddsOf 5 = .ok (.iload_n 1, 1) := by decide +kernel
theorem dX7_oddsOf_6 : decode cX7_oddsOf 6 = .ok (.iconst 0, 1) := by decide +kernel
theorem dX7_oddsOf_7 : decode cX7_oddsOf 7 = .ok (.invokevirtual 63, 3) := by decide +kernel
theorem dX7_oddsOf_10 : decode cX7_oddsOf 10 = .ok (.iload_n 1, 1) := by decide +kernel
theorem dX7_oddsOf_11 : decode cX7_oddsOf 11 = .ok (.invokestatic 67, 3) := by decide +kernel
theorem dX7_oddsOf_14 : decode cX7_oddsOf 14 = .ok (.iload_n 2, 1) := by decide +kernel
theorem dX7_oddsOf_15 : decode cX7_oddsOf 15 = .ok (.invokestatic 70, 3) := by decide +kernel
theorem dX7_oddsOf_18 : decode cX7_oddsOf 18 = .ok (.ireturn, 1) := by decide +kernel
theorem dX7_perilOf_0 : decode cX7_perilOf 0 = .ok (.aload_n 0, 1) := by decide +kernel
theorem dX7_perilOf_1 : decode cX7_perilOf 1 = .ok (.invokevirtual 60, 3) := by decide +kernel
theorem dX7_perilOf_4 : decode cX7_perilOf 4 = .ok (.iconst 0, 1) := by decide +kernel
theorem dX7_perilOf_5 : decode cX7_perilOf 5 = .ok (.istore_n 3, 1) := by decide +kernel
theorem dX7_perilOf_6 : decode cX7_perilOf 6 = .ok (.iconst 0, 1) := by decide +kernel
theorem dX7_perilOf_7 : decode cX7_perilOf 7 = .ok (.istore 4, 2) := by decide +kernel
theorem dX7_perilOf_9 : decode cX7_perilOf 9 = .ok (.iload 4, 2) := by decide +kernel
theorem dX7_perilOf_11 : decode cX7_perilOf 11 = .ok (.sipush 128, 3) := by decide +kernel
theorem dX7_perilOf_14 : decode cX7_perilOf 14 = .ok (.if_icmp .ge 47, 3) := by decide +kernel
theorem dX7_perilOf_17 : decode cX7_perilOf 17 = .ok (.iload 4, 2) := by decide +kernel
theorem dX7_perilOf_19 : decode cX7_perilOf 19 = .ok (.iload_n 1, 1) := by decide +kernel
theorem dX7_perilOf_20 : decode cX7_perilOf 20 = .ok (.iconst (-1), 1) := by decide +kernel
theorem dX7_perilOf_21 : decode cX7_perilOf 21 = .ok (.ixor, 1) := by decide +kernel
theorem dX7_perilOf_22 : decode cX7_perilOf 22 = .ok (.iand, 1) := by decide +kernel
theorem dX7_perilOf_23 : decode cX7_perilOf 23 = .ok (.ifCond .ne 32, 3) := by decide +kernel
theorem dX7_perilOf_26 : decode cX7_perilOf 26 = .ok (.aload_n 0, 1) := by decide +kernel
theorem dX7_perilOf_27 : decode cX7_perilOf 27 = .ok (.aload_n 0, 1) := by decide +kernel
theorem dX7_perilOf_28 : decode cX7_perilOf 28 = .ok (.getfield 23, 3) := by decide +kernel
theorem dX7_perilOf_31 : decode cX7_perilOf 31 = .ok (.getfield 43, 3) := by decide +kernel
theorem dX7_perilOf_34 : decode cX7_perilOf 34 = .ok (.iconst 2, 1) := by decide +kernel
theorem dX7_perilOf_35 : decode cX7_perilOf 35 = .ok (.iaload, 1) := by decide +kernel
theorem dX7_perilOf_36 : decode cX7_perilOf 36 = .ok (.iload 4, 2) := by decide +kernel
theorem dX7_perilOf_38 : decode cX7_perilOf 38 = .ok (.ior, 1) := by decide +kernel
theorem dX7_perilOf_39 : decode cX7_perilOf 39 = .ok (.invokevirtual 48, 3) := by decide +kernel
theorem dX7_perilOf_42 : decode cX7_perilOf 42 = .ok (.ifCond .eq 13, 3) := by decide +kernel
theorem dX7_perilOf_45 : decode cX7_perilOf 45 = .ok (.iload_n 3, 1) := by decide +kernel
theorem dX7_perilOf_46 : decode cX7_perilOf 46 = .ok (.aload_n 0, 1) := by decide +kernel
theorem dX7_perilOf_47 : decode cX7_perilOf 47 = .ok (.iload_n 1, 1) := by decide +kernel
theorem dX7_perilOf_48 : decode cX7_perilOf 48 = .ok (.iload 4, 2) := by decide +kernel
theorem dX7_perilOf_50 : decode cX7_perilOf 50 = .ok (.invokevirtual 63, 3) := by decide +kernel
theorem dX7_perilOf_53 : decode cX7_perilOf 53 = .ok (.iadd, 1) := by decide +kernel
theorem dX7_perilOf_54 : decode cX7_perilOf 54 = .ok (.istore_n 3, 1) := by decide +kernel
theorem dX7_perilOf_55 : decode cX7_perilOf 55 = .ok (.iinc 4 1, 3) := by decide +kernel
theorem dX7_perilOf_58 : decode cX7_perilOf 58 = .ok (.goto (-49), 3) := by decide +kernel
theorem dX7_perilOf_61 : decode cX7_perilOf 61 = .ok (.iload_n 3, 1) := by decide +kernel
theorem dX7_perilOf_62 : decode cX7_perilOf 62 = .ok (.iload_n 1, 1) := by decide +kernel
theorem dX7_perilOf_63 : decode cX7_perilOf 63 = .ok (.invokestatic 67, 3) := by decide +kernel
theorem dX7_perilOf_66 : decode cX7_perilOf 66 = .ok (.iload_n 2, 1) := by decide +kernel
theorem dX7_perilOf_67 : decode cX7_perilOf 67 = .ok (.invokestatic 70, 3) := by decide +kernel
theorem dX7_perilOf_70 : decode cX7_perilOf 70 = .ok (.ireturn, 1) := by decide +kernel
theorem dX7_takeChances_0 : decode cX7_takeChances 0 = .ok (.iconst 0, 1) := by decide +kernel
theorem dX7_takeChances_1 : decode cX7_takeChances 1 = .ok (.istore_n 1, 1) := by decide +kernel
theorem dX7_takeChances_2 : decode cX7_takeChances 2 = .ok (.iload_n 1, 1) := by decide +kernel
theorem dX7_takeChances_3 : decode cX7_takeChances 3 = .ok (.aload_n 0, 1) := by decide +kernel
theorem dX7_takeChances_4 : decode cX7_takeChances 4 = .ok (.getfield 19, 3) := by decide +kernel
theorem dX7_takeChances_7 : decode cX7_takeChances 7 = .ok (.getfield 27, 3) := by decide +kernel
theorem dX7_takeChances_10 : decode cX7_takeChances 10 = .ok (.if_icmp .ge 32, 3) := by decide +kernel
theorem dX7_takeChances_13 : decode cX7_takeChances 13 = .ok (.aload_n 0, 1) := by decide +kernel
theorem dX7_takeChances_14 : decode cX7_takeChances 14 = .ok (.getfield 15, 3) := by decide +kernel
theorem dX7_takeChances_17 : decode cX7_takeChances 17 = .ok (.iload_n 1, 1) := by decide +kernel
theorem dX7_takeChances_18 : decode cX7_takeChances 18 = .ok (.iconst 0, 1) := by decide +kernel
theorem dX7_takeChances_19 : decode cX7_takeChances 19 = .ok (.bipush 100, 2) := by decide +kernel
theorem dX7_takeChances_21 : decode cX7_takeChances 21 = .ok (.aload_n 0, 1) := by decide +kernel
theorem dX7_takeChances_22 : decode cX7_takeChances 22 = .ok (.getfield 23, 3) := by decide +kernel
theorem dX7_takeChances_25 : decode cX7_takeChances 25 = .ok (.iload_n 1, 1) := by decide +kernel
theorem dX7_takeChances_26 : decode cX7_takeChances 26 = .ok (.invokevirtual 74, 3) := by decide +kernel
theorem dX7_takeChances_29 : decode cX7_takeChances 29 = .ok (.invokestatic 77, 3) := by decide +kernel
theorem dX7_takeChances_32 : decode cX7_takeChances 32 = .ok (.invokestatic 82, 3) := by decide +kernel
theorem dX7_takeChances_35 : decode cX7_takeChances 35 = .ok (.iastore, 1) := by decide +kernel
theorem dX7_takeChances_36 : decode cX7_takeChances 36 = .ok (.iinc 1 1, 3) := by decide +kernel
theorem dX7_takeChances_39 : decode cX7_takeChances 39 = .ok (.goto (-37), 3) := by decide +kernel
theorem dX7_takeChances_42 : decode cX7_takeChances 42 = .ok (.return_, 1) := by decide +kernel
theorem dX7_ways_0 : decode cX7_ways 0 = .ok (.iconst 1, 1) := by decide +kernel
theorem dX7_ways_1 : decode cX7_ways 1 = .ok (.istore_n 3, 1) := by decide +kernel
theorem dX7_ways_2 : decode cX7_ways 2 = .ok (.iconst 0, 1) := by decide +kernel
theorem dX7_ways_3 : decode cX7_ways 3 = .ok (.istore 4, 2) := by decide +kernel
theorem dX7_ways_5 : decode cX7_ways 5 = .ok (.iload 4, 2) := by decide +kernel
theorem dX7_ways_7 : decode cX7_ways 7 = .ok (.aload_n 0, 1) := by decide +kernel
theorem dX7_ways_8 : decode cX7_ways 8 = .ok (.getfield 19, 3) := by decide +kernel
theorem dX7_ways_11 : decode cX7_ways 11 = .ok (.getfield 27, 3) := by decide +kernel
theorem dX7_ways_14 : decode cX7_ways 14 = .ok (.if_icmp .ge 50, 3) := by decide +kernel
theorem dX7_ways_17 : decode cX7_ways 17 = .ok (.iload_n 1, 1) := by decide +kernel
theorem dX7_ways_18 : decode cX7_ways 18 = .ok (.iload 4, 2) := by decide +kernel
theorem dX7_ways_20 : decode cX7_ways 20 = .ok (.ishr, 1) := by decide +kernel
theorem dX7_ways_21 : decode cX7_ways 21 = .ok (.iconst 1, 1) := by decide +kernel
theorem dX7_ways_22 : decode cX7_ways 22 = .ok (.iand, 1) := by decide +kernel
theorem dX7_ways_23 : decode cX7_ways 23 = .ok (.ifCond .eq 35, 3) := by decide +kernel
theorem dX7_ways_26 : decode cX7_ways 26 = .ok (.iload_n 3, 1) := by decide +kernel
theorem dX7_ways_27 : decode cX7_ways 27 = .ok (.iload_n 2, 1) := by decide +kernel
theorem dX7_ways_28 : decode cX7_ways 28 = .ok (.iload 4, 2) := by decide +kernel
theorem dX7_ways_30 : decode cX7_ways 30 = .ok (.ishr, 1) := by decide +kernel
theorem dX7_ways_31 : decode cX7_ways 31 = .ok (.iconst 1, 1) := by decide +kernel
theorem dX7_ways_32 : decode cX7_ways 32 = .ok (.iand, 1) := by decide +kernel
theorem dX7_ways_33 : decode cX7_ways 33 = .ok (.ifCond .eq 16, 3) := by decide +kernel
theorem dX7_ways_36 : decode cX7_ways 36 = .ok (.bipush 100, 2) := by decide +kernel
theorem dX7_ways_38 : decode cX7_ways 38 = .ok (.aload_n 0, 1) := by decide +kernel
theorem dX7_ways_39 : decode cX7_ways 39 = .ok (.getfield 15, 3) := by decide +kernel
theorem dX7_ways_42 : decode cX7_ways 42 = .ok (.iload 4, 2) := by decide +kernel
theorem dX7_ways_44 : decode cX7_ways 44 = .ok (.iaload, 1) := by decide +kernel
theorem dX7_ways_45 : decode cX7_ways 45 = .ok (.isub, 1) := by decide +kernel
theorem dX7_ways_46 : decode cX7_ways 46 = .ok (.goto 10, 3) := by decide +kernel
theorem dX7_ways_49 : decode cX7_ways 49 = .ok (.aload_n 0, 1) := by decide +kernel
theorem dX7_ways_50 : decode cX7_ways 50 = .ok (.getfield 15, 3) := by decide +kernel
theorem dX7_ways_53 : decode cX7_ways 53 = .ok (.iload 4, 2) := by decide +kernel
theorem dX7_ways_55 : decode cX7_ways 55 = .ok (.iaload, 1) := by decide +kernel
theorem dX7_ways_56 : decode cX7_ways 56 = .ok (.imul, 1) := by decide +kernel
theorem dX7_ways_57 : decode cX7_ways 57 = .ok (.istore_n 3, 1) := by decide +kernel
theorem dX7_ways_58 : decode cX7_ways 58 = .ok (.iinc 4 1, 3) := by decide +kernel
theorem dX7_ways_61 : decode cX7_ways 61 = .ok (.goto (-56), 3) := by decide +kernel
theorem dX7_ways_64 : decode cX7_ways 64 = .ok (.iload_n 3, 1) := by decide +kernel
theorem dX7_ways_65 : decode cX7_ways 65 = .ok (.ireturn, 1) := by decide +kernel
theorem dX7_whole_0 : decode cX7_whole 0 = .ok (.iconst 1, 1) := by decide +kernel
theorem dX7_whole_1 : decode cX7_whole 1 = .ok (.istore_n 1, 1) := by decide +kernel
theorem dX7_whole_2 : decode cX7_whole 2 = .ok (.iconst 0, 1) := by decide +kernel
theorem dX7_whole_3 : decode cX7_whole 3 = .ok (.istore_n 2, 1) := by decide +kernel
theorem dX7_whole_4 : decode cX7_whole 4 = .ok (.iload_n 2, 1) := by decide +kernel
theorem dX7_whole_5 : decode cX7_whole 5 = .ok (.iload_n 0, 1) := by decide +kernel
theorem dX7_whole_6 : decode cX7_whole 6 = .ok (.invokestatic 52, 3) := by decide +kernel
theorem dX7_whole_9 : decode cX7_whole 9 = .ok (.if_icmp .ge 19, 3) := by decide +kernel
theorem dX7_whole_12 : decode cX7_whole 12 = .ok (.iload_n 2, 1) := by decide +kernel
theorem dX7_whole_13 : decode cX7_whole 13 = .ok (.iconst 4, 1) := by decide +kernel
theorem dX7_whole_14 : decode cX7_whole 14 = .ok (.if_icmp .ge 14, 3) := by decide +kernel
theorem dX7_whole_17 : decode cX7_whole 17 = .ok (.iload_n 1, 1) := by decide +kernel
theorem dX7_whole_18 : decode cX7_whole 18 = .ok (.bipush 100, 2) := by decide +kernel
theorem dX7_whole_20 : decode cX7_whole 20 = .ok (.imul, 1) := by decide +kernel
theorem dX7_whole_21 : decode cX7_whole 21 = .ok (.istore_n 1, 1) := by decide +kernel
theorem dX7_whole_22 : decode cX7_whole 22 = .ok (.iinc 2 1, 3) := by decide +kernel
theorem dX7_whole_25 : decode cX7_whole 25 = .ok (.goto (-21), 3) := by decide +kernel
theorem dX7_whole_28 : decode cX7_whole 28 = .ok (.iload_n 1, 1) := by decide +kernel
theorem dX7_whole_29 : decode cX7_whole 29 = .ok (.ireturn, 1) := by decide +kernel
theorem dX7_lowest_0 : decode cX7_lowest 0 = .ok (.iload_n 1, 1) := by decide +kernel
theorem dX7_lowest_1 : decode cX7_lowest 1 = .ok (.istore_n 3, 1) := by decide +kernel
theorem dX7_lowest_2 : decode cX7_lowest 2 = .ok (.iload_n 0, 1) := by decide +kernel
theorem dX7_lowest_3 : decode cX7_lowest 3 = .ok (.istore 4, 2) := by decide +kernel
theorem dX7_lowest_5 : decode cX7_lowest 5 = .ok (.iconst 0, 1) := by decide +kernel
theorem dX7_lowest_6 : decode cX7_lowest 6 = .ok (.istore 5, 2) := by decide +kernel
theorem dX7_lowest_8 : decode cX7_lowest 8 = .ok (.iload 5, 2) := by decide +kernel
theorem dX7_lowest_10 : decode cX7_lowest 10 = .ok (.ldc 85, 2) := by decide +kernel
theorem dX7_lowest_12 : decode cX7_lowest 12 = .ok (.if_icmp .ge 27, 3) := by decide +kernel
theorem dX7_lowest_15 : decode cX7_lowest 15 = .ok (.iload 4, 2) := by decide +kernel
theorem dX7_lowest_17 : decode cX7_lowest 17 = .ok (.ifCond .eq 22, 3) := by decide +kernel
theorem dX7_lowest_20 : decode cX7_lowest 20 = .ok (.iload_n 3, 1) := by decide +kernel
theorem dX7_lowest_21 : decode cX7_lowest 21 = .ok (.iload 4, 2) := by decide +kernel
theorem dX7_lowest_23 : decode cX7_lowest 23 = .ok (.irem, 1) := by decide +kernel
theorem dX7_lowest_24 : decode cX7_lowest 24 = .ok (.istore 6, 2) := by decide +kernel
theorem dX7_lowest_26 : decode cX7_lowest 26 = .ok (.iload 4, 2) := by decide +kernel
theorem dX7_lowest_28 : decode cX7_lowest 28 = .ok (.istore_n 3, 1) := by decide +kernel
theorem dX7_lowest_29 : decode cX7_lowest 29 = .ok (.iload 6, 2) := by decide +kernel
theorem dX7_lowest_31 : decode cX7_lowest 31 = .ok (.istore 4, 2) := by decide +kernel
theorem dX7_lowest_33 : decode cX7_lowest 33 = .ok (.iinc 5 1, 3) := by decide +kernel
theorem dX7_lowest_36 : decode cX7_lowest 36 = .ok (.goto (-28), 3) := by decide +kernel
theorem dX7_lowest_39 : decode cX7_lowest 39 = .ok (.iload_n 2, 1) := by decide +kernel
theorem dX7_lowest_40 : decode cX7_lowest 40 = .ok (.ifCond .ne 7, 3) := by decide +kernel
theorem dX7_lowest_43 : decode cX7_lowest 43 = .ok (.iload_n 0, 1) := by decide +kernel
theorem dX7_lowest_44 : decode cX7_lowest 44 = .ok (.goto 4, 3) := by decide +kernel
theorem dX7_lowest_47 : decode cX7_lowest 47 = .ok (.iload_n 1, 1) := by decide +kernel
theorem dX7_lowest_48 : decode cX7_lowest 48 = .ok (.istore 5, 2) := by decide +kernel
theorem dX7_lowest_50 : decode cX7_lowest 50 = .ok (.iload_n 3, 1) := by decide +kernel
theorem dX7_lowest_51 : decode cX7_lowest 51 = .ok (.ifCond .ne 8, 3) := by decide +kernel
theorem dX7_lowest_54 : decode cX7_lowest 54 = .ok (.iload 5, 2) := by decide +kernel
theorem dX7_lowest_56 : decode cX7_lowest 56 = .ok (.goto 7, 3) := by decide +kernel
theorem dX7_lowest_59 : decode cX7_lowest 59 = .ok (.iload 5, 2) := by decide +kernel
theorem dX7_lowest_61 : decode cX7_lowest 61 = .ok (.iload_n 3, 1) := by decide +kernel
theorem dX7_lowest_62 : decode cX7_lowest 62 = .ok (.idiv, 1) := by decide +kernel
theorem dX7_lowest_63 : decode cX7_lowest 63 = .ok (.ireturn, 1) := by decide +kernel
theorem dX8_init_0 : decode cX8_init 0 = .ok (.aload_n 0, 1) := by decide +kernel
theorem dX8_init_1 : decode cX8_init 1 = .ok (.invokespecial 5, 3) := by decide +kernel
theorem dX8_init_4 : decode cX8_init 4 = .ok (.aload_n 0, 1) := by decide +kernel
theorem dX8_init_5 : decode cX8_init 5 = .ok (.bipush 7, 2) := by decide +kernel
theorem dX8_init_7 : decode cX8_init 7 = .ok (.newarray .int, 2) := by decide +kernel
theorem dX8_init_9 : decode cX8_init 9 = .ok (.putfield 11, 3) := by decide +kernel
theorem dX8_init_12 : decode cX8_init 12 = .ok (.aload_n 0, 1) := by decide +kernel
theorem dX8_init_13 : decode cX8_init 13 = .ok (.iconst 0, 1) := by decide +kernel
theorem dX8_init_14 : decode cX8_init 14 = .ok (.putfield 17, 3) := by decide +kernel
theorem dX8_init_17 : decode cX8_init 17 = .ok (.aload_n 0, 1) := by decide +kernel
theorem dX8_init_18 : decode cX8_init 18 = .ok (.iconst 0, 1) := by decide +kernel
theorem dX8_init_19 : decode cX8_init 19 = .ok (.putfield 21, 3) := by decide +kernel
theorem dX8_init_22 : decode cX8_init 22 = .ok (.aload_n 0, 1) := by decide +kernel
theorem dX8_init_23 : decode cX8_init 23 = .ok (.bipush 8, 2) := by decide +kernel
theorem dX8_init_25 : decode cX8_init 25 = .ok (.anewarray 24, 3) := by decide +kernel
theorem dX8_init_28 : decode cX8_init 28 = .ok (.putfield 26, 3) := by decide +kernel
theorem dX8_init_31 : decode cX8_init 31 = .ok (.aload_n 0, 1) := by decide +kernel
theorem dX8_init_32 : decode cX8_init 32 = .ok (.bipush 7, 2) := by decide +kernel
theorem dX8_init_34 : decode cX8_init 34 = .ok (.newarray .int, 2) := by decide +kernel
theorem dX8_init_36 : decode cX8_init 36 = .ok (.putfield 30, 3) := by decide +kernel
theorem dX8_init_39 : decode cX8_init 39 = .ok (.aload_n 0, 1) := by decide +kernel
theorem dX8_init_40 : decode cX8_init 40 = .ok (.sipush 1024, 3) := by decide +kernel
theorem dX8_init_43 : decode cX8_init 43 = .ok (.newarray .int, 2) := by decide +kernel
theorem dX8_init_45 : decode cX8_init 45 = .ok (.putfield 33, 3) := by decide +kernel
theorem dX8_init_48 : decode cX8_init 48 = .ok (.aload_n 0, 1) := by decide +kernel
theorem dX8_init_49 : decode cX8_init 49 = .ok (.aload_n 1, 1) := by decide +kernel
theorem dX8_init_50 : decode cX8_init 50 = .ok (.putfield 36, 3) := by decide +kernel
theorem dX8_init_53 : decode cX8_init 53 = .ok (.iconst 0, 1) := by decide +kernel
theorem dX8_init_54 : decode cX8_init 54 = .ok (.istore_n 2, 1) := by decide +kernel
theorem dX8_init_55 : decode cX8_init 55 = .ok (.iload_n 2, 1) := by decide +kernel
theorem dX8_init_56 : decode cX8_init 56 = .ok (.aload_n 0, 1) := by decide +kernel
theorem dX8_init_57 : decode cX8_init 57 = .ok (.getfield 26, 3) := by decide +kernel
theorem dX8_init_60 : decode cX8_init 60 = .ok (.arraylength, 1) := by decide +kernel
theorem dX8_init_61 : decode cX8_init 61 = .ok (.if_icmp .ge 23, 3) := by decide +kernel
theorem dX8_init_64 : decode cX8_init 64 = .ok (.aload_n 0, 1) := by decide +kernel
theorem dX8_init_65 : decode cX8_init 65 = .ok (.getfield 26, 3) := by decide +kernel
theorem dX8_init_68 : decode cX8_init 68 = .ok (.iload_n 2, 1) := by decide +kernel
theorem dX8_init_69 : decode cX8_init 69 = .ok (.new 24, 3) := by decide +kernel
theorem dX8_init_72 : decode cX8_init 72 = .ok (.dup, 1) := by decide +kernel
theorem dX8_init_73 : decode cX8_init 73 = .ok (.aload_n 1, 1) := by decide +kernel
theorem dX8_init_74 : decode cX8_init 74 = .ok (.invokespecial 40, 3) := by decide +kernel
theorem dX8_init_77 : decode cX8_init 77 = .ok (.aastore, 1) := by decide +kernel
theorem dX8_init_78 : decode cX8_init 78 = .ok (.iinc 2 1, 3) := by decide +kernel
theorem dX8_init_81 : decode cX8_init 81 = .ok (.goto (-26), 3) := by decide +kernel
theorem dX8_init_84 : decode cX8_init 84 = .ok (.return_, 1) := by decide +kernel
theorem dX8_run_0 : decode cX8_run 0 = .ok (.aload_n 0, 1) := by decide +kernel
theorem dX8_run_1 : decode cX8_run 1 = .ok (.ldc 43, 2) := by decide +kernel
theorem dX8_run_3 : decode cX8_run 3 = .ok (.putfield 21, 3) := by decide +kernel
theorem dX8_run_6 : decode cX8_run 6 = .ok (.aload_n 0, 1) := by decide +kernel
theorem dX8_run_7 : decode cX8_run 7 = .ok (.iconst 0, 1) := by decide +kernel
theorem dX8_run_8 : decode cX8_run 8 = .ok (.putfield 17, 3) := by decide +kernel
theorem dX8_run_11 : decode cX8_run 11 = .ok (.iconst 0, 1) := by decide +kernel
theorem dX8_run_12 : decode cX8_run 12 = .ok (.istore_n 2, 1) := by decide +kernel
theorem dX8_run_13 : decode cX8_run 13 = .ok (.iload_n 2, 1) := by decide +kernel
theorem dX8_run_14 : decode cX8_run 14 = .ok (.sipush 128, 3) := by decide +kernel
theorem dX8_run_17 : decode cX8_run 17 = .ok (.if_icmp .ge 19, 3) := by decide +kernel
theorem dX8_run_20 : decode cX8_run 20 = .ok (.aload_n 0, 1) := by decide +kernel
theorem dX8_run_21 : decode cX8_run 21 = .ok (.getfield 33, 3) := by decide +kernel
theorem dX8_run_24 : decode cX8_run 24 = .ok (.iload_n 2, 1) := by decide +kernel
theorem dX8_run_25 : decode cX8_run 25 = .ok (.bipush 8, 2) := by decide +kernel
theorem dX8_run_27 : decode cX8_run 27 = .ok (.imul, 1) := by decide +kernel
theorem dX8_run_28 : decode cX8_run 28 = .ok (.iconst (-1), 1) := by decide +kernel
theorem dX8_run_29 : decode cX8_run 29 = .ok (.iastore, 1) := by decide +kernel
theorem dX8_run_30 : decode cX8_run 30 = .ok (.iinc 2 1, 3) := by decide +kernel
theorem dX8_run_33 : decode cX8_run 33 = .ok (.goto (-20), 3) := by decide +kernel
theorem dX8_run_36 : decode cX8_run 36 = .ok (.aload_n 0, 1) := by decide +kernel
theorem dX8_run_37 : decode cX8_run 37 = .ok (.getfield 26, 3) := by decide +kernel
theorem dX8_run_40 : decode cX8_run 40 = .ok (.iconst 0, 1) := by decide +kernel
theorem dX8_run_41 : decode cX8_run 41 = .ok (.aaload, 1) := by decide +kernel
theorem dX8_run_42 : decode cX8_run 42 = .ok (.aload_n 1, 1) := by decide +kernel
theorem dX8_run_43 : decode cX8_run 43 = .ok (.invokevirtual 44, 3) := by decide +kernel
theorem dX8_run_46 : decode cX8_run 46 = .ok (.aload_n 0, 1) := by decide +kernel
theorem dX8_run_47 : decode cX8_run 47 = .ok (.iconst 0, 1) := by decide +kernel
theorem dX8_run_48 : decode cX8_run 48 = .ok (.invokestatic 48, 3) := by decide +kernel
theorem dX8_run_51 : decode cX8_run 51 = .ok (.return_, 1) := by decide +kernel
theorem dX8_explore_0 : decode cX8_explore 0 = .ok (.iload_n 1, 1) := by decide +kernel
theorem dX8_explore_1 : decode cX8_explore 1 = .ok (.ifCond .lt 9, 3) := by decide +kernel
theorem dX8_explore_4 : decode cX8_explore 4 = .ok (.iload_n 1, 1) := by decide +kernel
theorem dX8_explore_5 : decode cX8_explore 5 = .ok (.bipush 7, 2) := by decide +kernel
theorem dX8_explore_7 : decode cX8_explore 7 = .ok (.if_icmp .le 4, 3) := by decide +kernel
theorem dX8_explore_10 : decode cX8_explore 10 = .ok (.return_, 1) := by decide +kernel
theorem dX8_explore_11 : decode cX8_explore 11 = .ok (.aload_n 0, 1) := by decide +kernel
theorem dX8_explore_12 : decode cX8_explore 12 = .ok (.getfield 26, 3) := by decide +kernel
theorem dX8_explore_15 : decode cX8_explore 15 = .ok (.iload_n 1, 1) := by decide +kernel
theorem dX8_explore_16 : decode cX8_explore 16 = .ok (.aaload, 1) := by decide +kernel
theorem dX8_explore_17 : decode cX8_explore 17 = .ok (.astore_n 2, 1) := by decide +kernel
theorem dX8_explore_18 : decode cX8_explore 18 = .ok (.aload_n 2, 1) := by decide +kernel
theorem dX8_explore_19 : decode cX8_explore 19 = .ok (.getfield 52, 3) := by decide +kernel
theorem dX8_explore_22 : decode cX8_explore 22 = .ok (.aload_n 0, 1) := by decide +kernel
theorem dX8_explore_23 : decode cX8_explore 23 = .ok (.getfield 21, 3) := by decide +kernel
theorem dX8_explore_26 : decode cX8_explore 26 = .ok (.if_icmp .lt 4, 3) := by decide +kernel
theorem dX8_explore_29 : decode cX8_explore 29 = .ok (.return_, 1) := by decide +kernel
theorem dX8_explore_30 : decode cX8_explore 30 = .ok (.aload_n 2, 1) := by decide +kernel
theorem dX8_explore_31 : decode cX8_explore 31 = .ok (.getfield 55, 3) := by decide +kernel
theorem dX8_explore_34 : decode cX8_explore 34 = .ok (.iconst 0, 1) := by decide +kernel
theorem dX8_explore_35 : decode cX8_explore 35 = .ok (.iaload, 1) := by decide +kernel
theorem dX8_explore_36 : decode cX8_explore 36 = .ok (.ifCond .ne 13, 3) := by decide +kernel
theorem dX8_explore_39 : decode cX8_explore 39 = .ok (.aload_n 0, 1) := by decide +kernel
theorem dX8_explore_40 : decode cX8_explore 40 = .ok (.aload_n 2, 1) := by decide +kernel
theorem dX8_explore_41 : decode cX8_explore 41 = .ok (.getfield 52, 3) := by decide +kernel
theorem dX8_explore_44 : decode cX8_explore 44 = .ok (.iload_n 1, 1) := by decide +kernel
theorem dX8_explore_45 : decode cX8_explore 45 = .ok (.invokevirtual 58, 3) := by decide +kernel
theorem dX8_explore_48 : decode cX8_explore 48 = .ok (.return_, 1) := by decide +kernel
theorem dX8_explore_49 : decode cX8_explore 49 = .ok (.iload_n 1, 1) := by decide +kernel
theorem dX8_explore_50 : decode cX8_explore 50 = .ok (.bipush 7, 2) := by decide +kernel
theorem dX8_explore_52 : decode cX8_explore 52 = .ok (.if_icmp .eq 11, 3) := by decide +kernel
theorem dX8_explore_55 : decode cX8_explore 55 = .ok (.aload_n 0, 1) := by decide +kernel
theorem dX8_explore_56 : decode cX8_explore 56 = .ok (.aload_n 2, 1) := by decide +kernel
theorem dX8_explore_57 : decode cX8_explore 57 = .ok (.invokevirtual 62, 3) := by decide +kernel
theorem dX8_explore_60 : decode cX8_explore 60 = .ok (.ifCond .eq 4, 3) := by decide +kernel
theorem dX8_explore_63 : decode cX8_explore 63 = .ok (.return_, 1) := by decide +kernel
theorem dX8_explore_64 : decode cX8_explore 64 = .ok (.aload_n 0, 1) := by decide +kernel
theorem dX8_explore_65 : decode cX8_explore 65 = .ok (.getfield 26, 3) := by decide +kernel
theorem dX8_explore_68 : decode cX8_explore 68 = .ok (.iload_n 1, 1) := by decide +kernel
theorem dX8_explore_69 : decode cX8_explore 69 = .ok (.iconst 1, 1) := by decide +kernel
theorem dX8_explore_70 : decode cX8_explore 70 = .ok (.iadd, 1) := by decide +kernel
theorem dX8_explore_71 : decode cX8_explore 71 = .ok (.aaload, 1) := by decide +kernel
theorem dX8_explore_72 : decode cX8_explore 72 = .ok (.astore_n 3, 1) := by decide +kernel
theorem dX8_explore_73 : decode cX8_explore 73 = .ok (.iconst 0, 1) := by decide +kernel
theorem dX8_explore_74 : decode cX8_explore 74 = .ok (.istore 4, 2) := by decide +kernel
theorem dX8_explore_76 : decode cX8_explore 76 = .ok (.iload 4, 2) := by decide +kernel
theorem dX8_explore_78 : decode cX8_explore 78 = .ok (.aload_n 0, 1) := by decide +kernel
theorem dX8_explore_79 : decode cX8_explore 79 = .ok (.getfield 36, 3) := by decide +kernel
theorem dX8_explore_82 : decode cX8_explore 82 = .ok (.getfield 66, 3) := by decide +kernel
theorem dX8_explore_85 : decode cX8_explore 85 = .ok (.if_icmp .ge 45, 3) := by decide +kernel
theorem dX8_explore_88 : decode cX8_explore 88 = .ok (.aload_n 2, 1) := by decide +kernel
theorem dX8_explore_89 : decode cX8_explore 89 = .ok (.iload 4, 2) := by decide +kernel
theorem dX8_explore_91 : decode cX8_explore 91 = .ok (.invokevirtual 69, 3) := by decide +kernel
theorem dX8_explore_94 : decode cX8_explore 94 = .ok (.ifCond .eq 30, 3) := by decide +kernel
theorem dX8_explore_97 : decode cX8_explore 97 = .ok (.aload_n 3, 1) := by decide +kernel
theorem dX8_explore_98 : decode cX8_explore 98 = .ok (.aload_n 2, 1) := by decide +kernel
theorem dX8_explore_99 : decode cX8_explore 99 = .ok (.invokevirtual 44, 3) := by decide +kernel
theorem dX8_explore_102 : decode cX8_explore 102 = .ok (.aload_n 3, 1) := by decide +kernel
theorem dX8_explore_103 : decode cX8_explore 103 = .ok (.iload 4, 2) := by decide +kernel
theorem dX8_explore_105 : decode cX8_explore 105 = .ok (.iconst 1, 1) := by decide +kernel
theorem dX8_explore_106 : decode cX8_explore 106 = .ok (.invokevirtual 73, 3) := by decide +kernel
theorem dX8_explore_109 : decode cX8_explore 109 = .ok (.aload_n 0, 1) := by decide +kernel
theorem dX8_explore_110 : decode cX8_explore 110 = .ok (.getfield 30, 3) := by decide +kernel
theorem dX8_explore_113 : decode cX8_explore 113 = .ok (.iload_n 1, 1) := by decide +kernel
theorem dX8_explore_114 : decode cX8_explore 114 = .ok (.iload 4, 2) := by decide +kernel
theorem dX8_explore_116 : decode cX8_explore 116 = .ok (.iastore, 1) := by decide +kernel
theorem dX8_explore_117 : decode cX8_explore 117 = .ok (.aload_n 0, 1) := by decide +kernel
theorem dX8_explore_118 : decode cX8_explore 118 = .ok (.iload_n 1, 1) := by decide +kernel
theorem dX8_explore_119 : decode cX8_explore 119 = .ok (.iconst 1, 1) := by decide +kernel
theorem dX8_explore_120 : decode cX8_explore 120 = .ok (.iadd, 1) := by decide +kernel
theorem dX8_explore_121 : decode cX8_explore 121 = .ok (.invokestatic 48, 3) := by decide +kernel
theorem dX8_explore_124 : decode cX8_explore 124 = .ok (.iinc 4 1, 3) := by decide +kernel
theorem dX8_explore_127 : decode cX8_explore 127 = .ok (.goto (-51), 3) := by decide +kernel
theorem dX8_explore_130 : decode cX8_explore 130 = .ok (.return_, 1) := by decide +kernel
theorem dX8_keep_0 : decode cX8_keep 0 = .ok (.aload_n 0, 1) := by decide +kernel
theorem dX8_keep_1 : decode cX8_keep 1 = .ok (.iload_n 1, 1) := by decide +kernel
theorem dX8_keep_2 : decode cX8_keep 2 = .ok (.putfield 21, 3) := by decide +kernel
theorem dX8_keep_5 : decode cX8_keep 5 = .ok (.aload_n 0, 1) := by decide +kernel
theorem dX8_keep_6 : decode cX8_keep 6 = .ok (.iload_n 2, 1) := by decide +kernel
theorem dX8_keep_7 : decode cX8_keep 7 = .ok (.putfield 17, 3) := by decide +kernel
theorem dX8_keep_10 : decode cX8_keep 10 = .ok (.aload_n 0, 1) := by decide +kernel
theorem dX8_keep_11 : decode cX8_keep 11 = .ok (.getfield 30, 3) := by decide +kernel
theorem dX8_keep_14 : decode cX8_keep 14 = .ok (.iconst 0, 1) := by decide +kernel
theorem dX8_keep_15 : decode cX8_keep 15 = .ok (.aload_n 0, 1) := by decide +kernel
theorem dX8_keep_16 : decode cX8_keep 16 = .ok (.getfield 11, 3) := by decide +kernel
theorem dX8_keep_19 : decode cX8_keep 19 = .ok (.iconst 0, 1) := by decide +kernel
theorem dX8_keep_20 : decode cX8_keep 20 = .ok (.iload_n 2, 1) := by decide +kernel
theorem dX8_keep_21 : decode cX8_keep 21 = .ok (.invokestatic 76, 3) := by decide +kernel
theorem dX8_keep_24 : decode cX8_keep 24 = .ok (.return_, 1) := by decide +kernel
theorem dX8_wasHere_0 : decode cX8_wasHere 0 = .ok (.aload_n 1, 1) := by decide +kernel
theorem dX8_wasHere_1 : decode cX8_wasHere 1 = .ok (.getfield 55, 3) := by decide +kernel
theorem dX8_wasHere_4 : decode cX8_wasHere 4 = .ok (.iconst 1, 1) := by decide +kernel
theorem dX8_wasHere_5 : decode cX8_wasHere 5 = .ok (.iaload, 1) := by decide +kernel
theorem dX8_wasHere_6 : decode cX8_wasHere 6 = .ok (.bipush 127, 2) := by decide +kernel
theorem dX8_wasHere_8 : decode cX8_wasHere 8 = .ok (.iand, 1) := by decide +kernel
theorem dX8_wasHere_9 : decode cX8_wasHere 9 = .ok (.bipush 8, 2) := by decide +kernel
theorem dX8_wasHere_11 : decode cX8_wasHere 11 = .ok (.imul, 1) := by decide +kernel
theorem dX8_wasHere_12 : decode cX8_wasHere 12 = .ok (.istore_n 2, 1) := by decide +kernel
theorem dX8_wasHere_13 : decode cX8_wasHere 13 = .ok (.aload_n 1, 1) := by decide +kernel
theorem dX8_wasHere_14 : decode cX8_wasHere 14 = .ok (.getfield 55, 3) := by decide +kernel
theorem dX8_wasHere_17 : decode cX8_wasHere 17 = .ok (.iconst 0, 1) := by decide +kernel
theorem dX8_wasHere_18 : decode cX8_wasHere 18 = .ok (.iaload, 1) := by decide +kernel
theorem dX8_wasHere_19 : decode cX8_wasHere 19 = .ok (.istore_n 3, 1) := by decide +kernel
theorem dX8_wasHere_20 : decode cX8_wasHere 20 = .ok (.aload_n 0, 1) := by decide +kernel
theorem dX8_wasHere_21 : decode cX8_wasHere 21 = .ok (.getfield 33, 3) := by decide +kernel
theorem dX8_wasHere_24 : decode cX8_wasHere 24 = .ok (.iload_n 2, 1) := by decide +kernel
theorem dX8_wasHere_25 : decode cX8_wasHere 25 = .ok (.iaload, 1) := by decide +kernel
theorem dX8_wasHere_26 : decode cX8_wasHere 26 = .ok (.iload_n 3, 1) := by decide +kernel
theorem dX8_wasHere_27 : decode cX8_wasHere 27 = .ok (.if_icmp .ne 7, 3) := by decide +kernel
theorem dX8_wasHere_30 : decode cX8_wasHere 30 = .ok (.iconst 1, 1) := by decide +kernel
theorem dX8_wasHere_31 : decode cX8_wasHere 31 = .ok (.goto 4, 3) := by decide +kernel
theorem dX8_wasHere_34 : decode cX8_wasHere 34 = .ok (.iconst 0, 1) := by decide +kernel
theorem dX8_wasHere_35 : decode cX8_wasHere 35 = .ok (.istore 4, 2) := by decide +kernel
theorem dX8_wasHere_37 : decode cX8_wasHere 37 = .ok (.aload_n 0, 1) := by decide +kernel
theorem dX8_wasHere_38 : decode cX8_wasHere 38 = .ok (.getfield 33, 3) := by decide +kernel
theorem dX8_wasHere_41 : decode cX8_wasHere 41 = .ok (.iload_n 2, 1) := by decide +kernel
theorem dX8_wasHere_42 : decode cX8_wasHere 42 = .ok (.iload_n 3, 1) := by decide +kernel
theorem dX8_wasHere_43 : decode cX8_wasHere 43 = .ok (.iastore, 1) := by decide +kernel
theorem dX8_wasHere_44 : decode cX8_wasHere 44 = .ok (.iconst 0, 1) := by decide +kernel
theorem dX8_wasHere_45 : decode cX8_wasHere 45 = .ok (.istore 5, 2) := by decide +kernel
theorem dX8_wasHere_47 : decode cX8_wasHere 47 = .ok (.iload 5, 2) := by decide +kernel
theorem dX8_wasHere_49 : decode cX8_wasHere 49 = .ok (.bipush 7, 2) := by decide +kernel
theorem dX8_wasHere_51 : decode cX8_wasHere 51 = .ok (.if_icmp .ge 69, 3) := by decide +kernel
theorem dX8_wasHere_54 : decode cX8_wasHere 54 = .ok (.iload_n 3, 1) := by decide +kernel
theorem dX8_wasHere_55 : decode cX8_wasHere 55 = .ok (.iload 5, 2) := by decide +kernel
theorem dX8_wasHere_57 : decode cX8_wasHere 57 = .ok (.ishr, 1) := by decide +kernel
theorem dX8_wasHere_58 : decode cX8_wasHere 58 = .ok (.iconst 1, 1) := by decide +kernel
theorem dX8_wasHere_59 : decode cX8_wasHere 59 = .ok (.iand, 1) := by decide +kernel
theorem dX8_wasHere_60 : decode cX8_wasHere 60 = .ok (.ifCond .eq 54, 3) := by decide +kernel
theorem dX8_wasHere_63 : decode cX8_wasHere 63 = .ok (.iload 4, 2) := by decide +kernel
theorem dX8_wasHere_65 : decode cX8_wasHere 65 = .ok (.ifCond .eq 28, 3) := by decide +kernel
theorem dX8_wasHere_68 : decode cX8_wasHere 68 = .ok (.aload_n 0, 1) := by decide +kernel
theorem dX8_wasHere_69 : decode cX8_wasHere 69 = .ok (.getfield 33, 3) := by decide +kernel
theorem dX8_wasHere_72 : decode cX8_wasHere 72 = .ok (.iload_n 2, 1) := by decide +kernel
theorem dX8_wasHere_73 : decode cX8_wasHere 73 = .ok (.iconst 1, 1) := by decide +kernel
theorem dX8_wasHere_74 : decode cX8_wasHere 74 = .ok (.iadd, 1) := by decide +kernel
theorem dX8_wasHere_75 : decode cX8_wasHere 75 = .ok (.iload 5, 2) := by decide +kernel
theorem dX8_wasHere_77 : decode cX8_wasHere 77 = .ok (.iadd, 1) := by decide +kernel
theorem dX8_wasHere_78 : decode cX8_wasHere 78 = .ok (.iaload, 1) := by decide +kernel
theorem dX8_wasHere_79 : decode cX8_wasHere 79 = .ok (.aload_n 1, 1) := by decide +kernel
theorem dX8_wasHere_80 : decode cX8_wasHere 80 = .ok (.getfield 82, 3) := by decide +kernel
theorem dX8_wasHere_83 : decode cX8_wasHere 83 = .ok (.iload 5, 2) := by decide +kernel
theorem dX8_wasHere_85 : decode cX8_wasHere 85 = .ok (.iaload, 1) := by decide +kernel
theorem dX8_wasHere_86 : decode cX8_wasHere 86 = .ok (.if_icmp .ne 7, 3) := by decide +kernel
theorem dX8_wasHere_89 : decode cX8_wasHere 89 = .ok (.iconst 1, 1) := by decide +kernel
theorem dX8_wasHere_90 : decode cX8_wasHere 90 = .ok (.goto 4, 3) := by decide +kernel
theorem dX8_wasHere_93 : decode cX8_wasHere 93 = .ok (.iconst 0, 1) := by decide +kernel
theorem dX8_wasHere_94 : decode cX8_wasHere 94 = .ok (.istore 4, 2) := by decide +kernel
theorem dX8_wasHere_96 : decode cX8_wasHere 96 = .ok (.aload_n 0, 1) := by decide +kernel
theorem dX8_wasHere_97 : decode cX8_wasHere 97 = .ok (.getfield 33, 3) := by decide +kernel
theorem dX8_wasHere_100 : decode cX8_wasHere 100 = .ok (.iload_n 2, 1) := by decide +kernel
theorem dX8_wasHere_101 : decode cX8_wasHere 101 = .ok (.iconst 1, 1) := by decide +kernel
theorem dX8_wasHere_102 : decode cX8_wasHere 102 = .ok (.iadd, 1) := by decide +kernel
theorem dX8_wasHere_103 : decode cX8_wasHere 103 = .ok (.iload 5, 2) := by decide +kernel
theorem dX8_wasHere_105 : decode cX8_wasHere 105 = .ok (.iadd, 1) := by decide +kernel
theorem dX8_wasHere_106 : decode cX8_wasHere 106 = .ok (.aload_n 1, 1) := by decide +kernel
theorem dX8_wasHere_107 : decode cX8_wasHere 107 = .ok (.getfield 82, 3) := by decide +kernel
theorem dX8_wasHere_110 : decode cX8_wasHere 110 = .ok (.iload 5, 2) := by decide +kernel
theorem dX8_wasHere_112 : decode cX8_wasHere 112 = .ok (.iaload, 1) := by decide +kernel
theorem dX8_wasHere_113 : decode cX8_wasHere 113 = .ok (.iastore, 1) := by decide +kernel
theorem dX8_wasHere_114 : decode cX8_wasHere 114 = .ok (.iinc 5 1, 3) := by decide +kernel
theorem dX8_wasHere_117 : decode cX8_wasHere 117 = .ok (.goto (-70), 3) := by decide +kernel
theorem dX8_wasHere_120 : decode cX8_wasHere 120 = .ok (.iload 4, 2) := by decide +kernel
theorem dX8_wasHere_122 : decode cX8_wasHere 122 = .ok (.ireturn, 1) := by decide +kernel
theorem dX9_init_0 : decode cX9_init 0 = .ok (.aload_n 0, 1) := by decide +kernel
theorem dX9_init_1 : decode cX9_init 1 = .ok (.invokespecial 5, 3) := by decide +kernel
theorem dX9_init_4 : decode cX9_init 4 = .ok (.aload_n 0, 1) := by decide +kernel
theorem dX9_init_5 : decode cX9_init 5 = .ok (.iconst 0, 1) := by decide +kernel
theorem dX9_init_6 : decode cX9_init 6 = .ok (.putfield 11, 3) := by decide +kernel
theorem dX9_init_9 : decode cX9_init 9 = .ok (.aload_n 0, 1) := by decide +kernel
theorem dX9_init_10 : decode cX9_init 10 = .ok (.iconst 0, 1) := by decide +kernel
theorem dX9_init_11 : decode cX9_init 11 = .ok (.putfield 17, 3) := by decide +kernel
theorem dX9_init_14 : decode cX9_init 14 = .ok (.aload_n 0, 1) := by decide +kernel
theorem dX9_init_15 : decode cX9_init 15 = .ok (.iconst 0, 1) := by decide +kernel
theorem dX9_init_16 : decode cX9_init 16 = .ok (.putfield 20, 3) := by decide +kernel
theorem dX9_init_19 : decode cX9_init 19 = .ok (.aload_n 0, 1) := by decide +kernel
theorem dX9_init_20 : decode cX9_init 20 = .ok (.iconst 0, 1) := by decide +kernel
theorem dX9_init_21 : decode cX9_init 21 = .ok (.putfield 23, 3) := by decide +kernel
theorem dX9_init_24 : decode cX9_init 24 = .ok (.aload_n 0, 1) := by decide +kernel
theorem dX9_init_25 : decode cX9_init 25 = .ok (.bipush 30, 2) := by decide +kernel
theorem dX9_init_27 : decode cX9_init 27 = .ok (.newarray .int, 2) := by decide +kernel
theorem dX9_init_29 : decode cX9_init 29 = .ok (.putfield 26, 3) := by decide +kernel
theorem dX9_init_32 : decode cX9_init 32 = .ok (.aload_n 0, 1) := by decide +kernel
theorem dX9_init_33 : decode cX9_init 33 = .ok (.bipush 30, 2) := by decide +kernel
theorem dX9_init_35 : decode cX9_init 35 = .ok (.newarray .int, 2) := by decide +kernel
theorem dX9_init_37 : decode cX9_init 37 = .ok (.putfield 30, 3) := by decide +kernel
theorem dX9_init_40 : decode cX9_init 40 = .ok (.aload_n 0, 1) := by decide +kernel
theorem dX9_init_41 : decode cX9_init 41 = .ok (.bipush 30, 2) := by decide +kernel
theorem dX9_init_43 : decode cX9_init 43 = .ok (.newarray .boolean, 2) := by decide +kernel
theorem dX9_init_45 : decode cX9_init 45 = .ok (.putfield 33, 3) := by decide +kernel
theorem dX9_init_48 : decode cX9_init 48 = .ok (.aload_n 0, 1) := by decide +kernel
theorem dX9_init_49 : decode cX9_init 49 = .ok (.bipush 30, 2) := by decide +kernel
theorem dX9_init_51 : decode cX9_init 51 = .ok (.newarray .int, 2) := by decide +kernel
theorem dX9_init_53 : decode cX9_init 53 = .ok (.putfield 37, 3) := by decide +kernel
theorem dX9_init_56 : decode cX9_init 56 = .ok (.aload_n 0, 1) := by decide +kernel
theorem dX9_init_57 : decode cX9_init 57 = .ok (.bipush 30, 2) := by decide +kernel
theorem dX9_init_59 : decode cX9_init 59 = .ok (.newarray .int, 2) := by decide +kernel
theorem dX9_init_61 : decode cX9_init 61 = .ok (.putfield 40, 3) := by decide +kernel
theorem dX9_init_64 : decode cX9_init 64 = .ok (.aload_n 0, 1) := by decide +kernel
theorem dX9_init_65 : decode cX9_init 65 = .ok (.sipush 700, 3) := by decide +kernel
theorem dX9_init_68 : decode cX9_init 68 = .ok (.newarray .int, 2) := by decide +kernel
theorem dX9_init_70 : decode cX9_init 70 = .ok (.putfield 43, 3) := by decide +kernel
theorem dX9_init_73 : decode cX9_init 73 = .ok (.aload_n 0, 1) := by decide +kernel
theorem dX9_init_74 : decode cX9_init 74 = .ok (.iconst 0, 1) := by decide +kernel
theorem dX9_init_75 : decode cX9_init 75 = .ok (.putfield 46, 3) := by decide +kernel
theorem dX9_init_78 : decode cX9_init 78 = .ok (.aload_n 0, 1) := by decide +kernel
theorem dX9_init_79 : decode cX9_init 79 = .ok (.bipush 100, 2) := by decide +kernel
theorem dX9_init_81 : decode cX9_init 81 = .ok (.newarray .boolean, 2) := by decide +kernel
theorem dX9_init_83 : decode cX9_init 83 = .ok (.putfield 50, 3) := by decide +kernel
theorem dX9_init_86 : decode cX9_init 86 = .ok (.aload_n 0, 1) := by decide +kernel
theorem dX9_init_87 : decode cX9_init 87 = .ok (.bipush 8, 2) := by decide +kernel
theorem dX9_init_89 : decode cX9_init 89 = .ok (.newarray .int, 2) := by decide +kernel
theorem dX9_init_91 : decode cX9_init 91 = .ok (.putfield 53, 3) := by decide +kernel
theorem dX9_init_94 : decode cX9_init 94 = .ok (.aload_n 0, 1) := by decide +kernel
theorem dX9_init_95 : decode cX9_init 95 = .ok (.aload_n 1, 1) := by decide +kernel
theorem dX9_init_96 : decode cX9_init 96 = .ok (.putfield 56, 3) := by decide +kernel
theorem dX9_init_99 : decode cX9_init 99 = .ok (.aload_n 0, 1) := by decide +kernel
theorem dX9_init_100 : decode cX9_init 100 = .ok (.aload_n 2, 1) := by decide +kernel
theorem dX9_init_101 : decode cX9_init 101 = .ok (.putfield 60, 3) := by decide +kernel
theorem dX9_init_104 : decode cX9_init 104 = .ok (.return_, 1) := by decide +kernel
theorem dX9_forget_0 : decode cX9_forget 0 = .ok (.aload_n 0, 1) := by decide +kernel
theorem dX9_forget_1 : decode cX9_forget 1 = .ok (.iconst 0, 1) := by decide +kernel
theorem dX9_forget_2 : decode cX9_forget 2 = .ok (.putfield 11, 3) := by decide +kernel
theorem dX9_forget_5 : decode cX9_forget 5 = .ok (.aload_n 0, 1) := by decide +kernel
theorem dX9_forget_6 : decode cX9_forget 6 = .ok (.iconst 0, 1) := by decide +kernel
theorem dX9_forget_7 : decode cX9_forget 7 = .ok (.putfield 46, 3) := by decide +kernel
theorem dX9_forget_10 : decode cX9_forget 10 = .ok (.return_, 1) := by decide +kernel
theorem dX9_tell_0 : decode cX9_tell 0 = .ok (.aload_n 0, 1) := by decide +kernel
theorem dX9_tell_1 : decode cX9_tell 1 = .ok (.getfield 11, 3) := by decide +kernel
theorem dX9_tell_4 : decode cX9_tell 4 = .ok (.bipush 30, 2) := by decide +kernel
theorem dX9_tell_6 : decode cX9_tell 6 = .ok (.if_icmp .lt 5, 3) := by decide +kernel
theorem dX9_tell_9 : decode cX9_tell 9 = .ok (.iconst (-1), 1) := by decide +kernel
theorem dX9_tell_10 : decode cX9_tell 10 = .ok (.ireturn, 1) := by decide +kernel
theorem dX9_tell_11 : decode cX9_tell 11 = .ok (.aload_n 0, 1) := by decide +kernel
theorem dX9_tell_12 : decode cX9_tell 12 = .ok (.getfield 26, 3) := by decide +kernel
theorem dX9_tell_15 : decode cX9_tell 15 = .ok (.aload_n 0, 1) := by decide +kernel
theorem dX9_tell_16 : decode cX9_tell 16 = .ok (.getfield 11, 3) := by decide +kernel
theorem dX9_tell_19 : decode cX9_tell 19 = .ok (.iload_n 1, 1) := by decide +kernel
theorem dX9_tell_20 : decode cX9_tell 20 = .ok (.iastore, 1) := by decide +kernel
theorem dX9_tell_21 : decode cX9_tell 21 = .ok (.aload_n 0, 1) := by decide +kernel
theorem dX9_tell_22 : decode cX9_tell 22 = .ok (.getfield 30, 3) := by decide +kernel
theorem dX9_tell_25 : decode cX9_tell 25 = .ok (.aload_n 0, 1) := by decide +kernel
theorem dX9_tell_26 : decode cX9_tell 26 = .ok (.getfield 11, 3) := by decide +kernel
theorem dX9_tell_29 : decode cX9_tell 29 = .ok (.iload_n 2, 1) := by decide +kernel
theorem dX9_tell_30 : decode cX9_tell 30 = .ok (.iastore, 1) := by decide +kernel
theorem dX9_tell_31 : decode cX9_tell 31 = .ok (.aload_n 0, 1) := by decide +kernel
theorem dX9_tell_32 : decode cX9_tell 32 = .ok (.getfield 33, 3) := by decide +kernel
theorem dX9_tell_35 : decode cX9_tell 35 = .ok (.aload_n 0, 1) := by decide +kernel
theorem dX9_tell_36 : decode cX9_tell 36 = .ok (.getfield 11, 3) := by decide +kernel
theorem dX9_tell_39 : decode cX9_tell 39 = .ok (.iload_n 3, 1) := by decide +kernel
theorem dX9_tell_40 : decode cX9_tell 40 = .ok (.bastore, 1) := by decide +kernel
theorem dX9_tell_41 : decode cX9_tell 41 = .ok (.aload_n 0, 1) := by decide +kernel
theorem dX9_tell_42 : decode cX9_tell 42 = .ok (.getfield 37, 3) := by decide +kernel
theorem dX9_tell_45 : decode cX9_tell 45 = .ok (.aload_n 0, 1) := by decide +kernel
theorem dX9_tell_46 : decode cX9_tell 46 = .ok (.getfield 11, 3) := by decide +kernel
theorem dX9_tell_49 : decode cX9_tell 49 = .ok (.aload_n 0, 1) := by decide +kernel
theorem dX9_tell_50 : decode cX9_tell 50 = .ok (.getfield 17, 3) := by decide +kernel
theorem dX9_tell_53 : decode cX9_tell 53 = .ok (.iastore, 1) := by decide +kernel
theorem dX9_tell_54 : decode cX9_tell 54 = .ok (.aload_n 0, 1) := by decide +kernel
theorem dX9_tell_55 : decode cX9_tell 55 = .ok (.getfield 40, 3) := by decide +kernel
theorem dX9_tell_58 : decode cX9_tell 58 = .ok (.aload_n 0, 1) := by decide +kernel
theorem dX9_tell_59 : decode cX9_tell 59 = .ok (.getfield 11, 3) := by decide +kernel
theorem dX9_tell_62 : decode cX9_tell 62 = .ok (.iconst (-1), 1) := by decide +kernel
theorem dX9_tell_63 : decode cX9_tell 63 = .ok (.iastore, 1) := by decide +kernel
theorem dX9_tell_64 : decode cX9_tell 64 = .ok (.aload_n 0, 1) := by decide +kernel
theorem dX9_tell_65 : decode cX9_tell 65 = .ok (.dup, 1) := by decide +kernel
theorem dX9_tell_66 : decode cX9_tell 66 = .ok (.getfield 11, 3) := by decide +kernel
theorem dX9_tell_69 : decode cX9_tell 69 = .ok (.iconst 1, 1) := by decide +kernel
theorem dX9_tell_70 : decode cX9_tell 70 = .ok (.iadd, 1) := by decide +kernel
theorem dX9_tell_71 : decode cX9_tell 71 = .ok (.putfield 11, 3) := by decide +kernel
theorem dX9_tell_74 : decode cX9_tell 74 = .ok (.aload_n 0, 1) := by decide +kernel
theorem dX9_tell_75 : decode cX9_tell 75 = .ok (.getfield 11, 3) := by decide +kernel
theorem dX9_tell_78 : decode cX9_tell 78 = .ok (.iconst 1, 1) := by decide +kernel
theorem dX9_tell_79 : decode cX9_tell 79 = .ok (.isub, 1) := by decide +kernel
theorem dX9_tell_80 : decode cX9_tell 80 = .ok (.ireturn, 1) := by decide +kernel
theorem dX9_takeBack_0 : decode cX9_takeBack 0 = .ok (.iload_n 1, 1) := by decide +kernel
theorem dX9_takeBack_1 : decode cX9_takeBack 1 = .ok (.ifCond .lt 20, 3) := by decide +kernel
theorem dX9_takeBack_4 : decode cX9_takeBack 4 = .ok (.iload_n 1, 1) := by decide +kernel
theorem dX9_takeBack_5 : decode cX9_takeBack 5 = .ok (.aload_n 0, 1) := by decide +kernel
theorem dX9_takeBack_6 : decode cX9_takeBack 6 = .ok (.getfield 11, 3) := by decide +kernel
theorem dX9_takeBack_9 : decode cX9_takeBack 9 = .ok (.if_icmp .ge 12, 3) := by decide +kernel
theorem dX9_takeBack_12 : decode cX9_takeBack 12 = .ok (.aload_n 0, 1) := by decide +kernel
theorem dX9_takeBack_13 : decode cX9_takeBack 13 = .ok (.getfield 40, 3) := by decide +kernel
theorem dX9_takeBack_16 : decode cX9_takeBack 16 = .ok (.iload_n 1, 1) := by decide +kernel
theorem dX9_takeBack_17 : decode cX9_takeBack 17 = .ok (.iaload, 1) := by decide +kernel
theorem dX9_takeBack_18 : decode cX9_takeBack 18 = .ok (.ifCond .lt 5, 3) := by decide +kernel
theorem dX9_takeBack_21 : decode cX9_takeBack 21 = .ok (.iconst 0, 1) := by decide +kernel
theorem dX9_takeBack_22 : decode cX9_takeBack 22 = .ok (.ireturn, 1) := by decide +kernel
theorem dX9_takeBack_23 : decode cX9_takeBack 23 = .ok (.aload_n 0, 1) := by decide +kernel
theorem dX9_takeBack_24 : decode cX9_takeBack 24 = .ok (.getfield 40, 3) := by decide +kernel
theorem dX9_takeBack_27 : decode cX9_takeBack 27 = .ok (.iload_n 1, 1) := by decide +kernel
theorem dX9_takeBack_28 : decode cX9_takeBack 28 = .ok (.aload_n 0, 1) := by decide +kernel
theorem dX9_takeBack_29 : decode cX9_takeBack 29 = .ok (.getfield 17, 3) := by decide +kernel
theorem dX9_takeBack_32 : decode cX9_takeBack 32 = .ok (.iastore, 1) := by decide +kernel
theorem dX9_takeBack_33 : decode cX9_takeBack 33 = .ok (.iconst 1, 1) := by decide +kernel
theorem dX9_takeBack_34 : decode cX9_takeBack 34 = .ok (.ireturn, 1) := by decide +kernel
theorem dX9_passTime_0 : decode cX9_passTime 0 = .ok (.iload_n 1, 1) := by decide +kernel
theorem dX9_passTime_1 : decode cX9_passTime 1 = .ok (.ifCond .lt 21, 3) := by decide +kernel
theorem dX9_passTime_4 : decode cX9_passTime 4 = .ok (.iload_n 1, 1) := by decide +kernel
theorem dX9_passTime_5 : decode cX9_passTime 5 = .ok (.sipush 1000, 3) := by decide +kernel
theorem dX9_passTime_8 : decode cX9_passTime 8 = .ok (.if_icmp .gt 14, 3) := by decide +kernel
theorem dX9_passTime_11 : decode cX9_passTime 11 = .ok (.aload_n 0, 1) := by decide +kernel
theorem dX9_passTime_12 : decode cX9_passTime 12 = .ok (.getfield 17, 3) := by decide +kernel
theorem dX9_passTime_15 : decode cX9_passTime 15 = .ok (.iload_n 1, 1) := by decide +kernel
theorem dX9_passTime_16 : decode cX9_passTime 16 = .ok (.iadd, 1) := by decide +kernel
theorem dX9_passTime_17 : decode cX9_passTime 17 = .ok (.ldc 64, 2) := by decide +kernel
theorem dX9_passTime_19 : decode cX9_passTime 19 = .ok (.if_icmp .le 5, 3) := by decide +kernel
theorem dX9_passTime_22 : decode cX9_passTime 22 = .ok (.iconst (-1), 1) := by decide +kernel
theorem dX9_passTime_23 : decode cX9_passTime 23 = .ok (.ireturn, 1) := by decide +kernel
theorem dX9_passTime_24 : decode cX9_passTime 24 = .ok (.aload_n 0, 1) := by decide +kernel
theorem dX9_passTime_25 : decode cX9_passTime 25 = .ok (.dup, 1) := by decide +kernel
theorem dX9_passTime_26 : decode cX9_passTime 26 = .ok (.getfield 17, 3) := by decide +kernel
theorem dX9_passTime_29 : decode cX9_passTime 29 = .ok (.iload_n 1, 1) := by decide +kernel
theorem dX9_passTime_30 : decode cX9_passTime 30 = .ok (.iadd, 1) := by decide +kernel
theorem dX9_passTime_31 : decode cX9_passTime 31 = .ok (.putfield 17, 3) := by decide +kernel
theorem dX9_passTime_34 : decode cX9_passTime 34 = .ok (.aload_n 0, 1) := by decide +kernel
theorem dX9_passTime_35 : decode cX9_passTime 35 = .ok (.getfield 17, 3) := by decide +kernel
theorem dX9_passTime_38 : decode cX9_passTime 38 = .ok (.ireturn, 1) := by decide +kernel
theorem dX9_mark_0 : decode cX9_mark 0 = .ok (.aload_n 0, 1) := by decide +kernel
theorem dX9_mark_1 : decode cX9_mark 1 = .ok (.getfield 56, 3) := by decide +kernel
theorem dX9_mark_4 : decode cX9_mark 4 = .ok (.getfield 65, 3) := by decide +kernel
theorem dX9_mark_7 : decode cX9_mark 7 = .ok (.ifCond .ne 5, 3) := by decide +kernel
theorem dX9_mark_10 : decode cX9_mark 10 = .ok (.iconst 0, 1) := by decide +kernel
theorem dX9_mark_11 : decode cX9_mark 11 = .ok (.ireturn, 1) := by decide +kernel
theorem dX9_mark_12 : decode cX9_mark 12 = .ok (.aload_n 0, 1) := by decide +kernel
theorem dX9_mark_13 : decode cX9_mark 13 = .ok (.aload_n 0, 1) := by decide +kernel
theorem dX9_mark_14 : decode cX9_mark 14 = .ok (.getfield 56, 3) := by decide +kernel
theorem dX9_mark_17 : decode cX9_mark 17 = .ok (.getfield 65, 3) := by decide +kernel
theorem dX9_mark_20 : decode cX9_mark 20 = .ok (.iconst 1, 1) := by decide +kernel
theorem dX9_mark_21 : decode cX9_mark 21 = .ok (.isub, 1) := by decide +kernel
theorem dX9_mark_22 : decode cX9_mark 22 = .ok (.invokevirtual 66, 3) := by decide +kernel
theorem dX9_mark_25 : decode cX9_mark 25 = .ok (.iconst 0, 1) := by decide +kernel
theorem dX9_mark_26 : decode cX9_mark 26 = .ok (.istore_n 2, 1) := by decide +kernel
theorem dX9_mark_27 : decode cX9_mark 27 = .ok (.iconst 0, 1) := by decide +kernel
theorem dX9_mark_28 : decode cX9_mark 28 = .ok (.istore_n 3, 1) := by decide +kernel
theorem dX9_mark_29 : decode cX9_mark 29 = .ok (.iload_n 3, 1) := by decide +kernel
theorem dX9_mark_30 : decode cX9_mark 30 = .ok (.bipush 100, 2) := by decide +kernel
theorem dX9_mark_32 : decode cX9_mark 32 = .ok (.if_icmp .ge 38, 3) := by decide +kernel
theorem dX9_mark_35 : decode cX9_mark 35 = .ok (.aload_n 0, 1) := by decide +kernel
theorem dX9_mark_36 : decode cX9_mark 36 = .ok (.getfield 50, 3) := by decide +kernel
theorem dX9_mark_39 : decode cX9_mark 39 = .ok (.iload_n 3, 1) := by decide +kernel
theorem dX9_mark_40 : decode cX9_mark 40 = .ok (.aload_n 0, 1) := by decide +kernel
theorem dX9_mark_41 : decode cX9_mark 41 = .ok (.iload_n 3, 1) := by decide +kernel
theorem dX9_mark_42 : decode cX9_mark 42 = .ok (.iload_n 1, 1) := by decide +kernel
theorem dX9_mark_43 : decode cX9_mark 43 = .ok (.invokevirtual 70, 3) := by decide +kernel
theorem dX9_mark_46 : decode cX9_mark 46 = .ok (.bastore, 1) := by decide +kernel
theorem dX9_mark_47 : decode cX9_mark 47 = .ok (.iload_n 2, 1) := by decide +kernel
theorem dX9_mark_48 : decode cX9_mark 48 = .ok (.aload_n 0, 1) := by decide +kernel
theorem dX9_mark_49 : decode cX9_mark 49 = .ok (.getfield 50, 3) := by decide +kernel
theorem dX9_mark_52 : decode cX9_mark 52 = .ok (.iload_n 3, 1) := by decide +kernel
theorem dX9_mark_53 : decode cX9_mark 53 = .ok (.baload, 1) := by decide +kernel
theorem dX9_mark_54 : decode cX9_mark 54 = .ok (.ifCond .eq 7, 3) := by decide +kernel
theorem dX9_mark_57 : decode cX9_mark 57 = .ok (.iconst 1, 1) := by decide +kernel
theorem dX9_mark_58 : decode cX9_mark 58 = .ok (.goto 4, 3) := by decide +kernel
theorem dX9_mark_61 : decode cX9_mark 61 = .ok (.iconst 0, 1) := by decide +kernel
theorem dX9_mark_62 : decode cX9_mark 62 = .ok (.iadd, 1) := by decide +kernel
theorem dX9_mark_63 : decode cX9_mark 63 = .ok (.istore_n 2, 1) := by decide +kernel
theorem dX9_mark_64 : decode cX9_mark 64 = .ok (.iinc 3 1, 3) := by decide +kernel
theorem dX9_mark_67 : decode cX9_mark 67 = .ok (.goto (-38), 3) := by decide +kernel
theorem dX9_mark_70 : decode cX9_mark 70 = .ok (.iload_n 2, 1) := by decide +kernel
theorem dX9_mark_71 : decode cX9_mark 71 = .ok (.ireturn, 1) := by decide +kernel
theorem dX9_findHeard_0 : decode cX9_findHeard 0 = .ok (.aload_n 0, 1) := by decide +kernel
theorem dX9_findHeard_1 : decode cX9_findHeard 1 = .ok (.getfield 46, 3) := by decide +kernel
theorem dX9_findHeard_4 : decode cX9_findHeard 4 = .ok (.ifCond .eq 4, 3) := by decide +kernel
theorem dX9_findHeard_7 : decode cX9_findHeard 7 = .ok (.return_, 1) := by decide +kernel
theorem dX9_findHeard_8 : decode cX9_findHeard 8 = .ok (.aload_n 0, 1) := by decide +kernel
theorem dX9_findHeard_9 : decode cX9_findHeard 9 = .ok (.getfield 56, 3) := by decide +kernel
theorem dX9_findHeard_12 : decode cX9_findHeard 12 = .ok (.getfield 74, 3) := by decide +kernel
theorem dX9_findHeard_15 : decode cX9_findHeard 15 = .ok (.iload_n 1, 1) := by decide +kernel
theorem dX9_findHeard_16 : decode cX9_findHeard 16 = .ok (.iaload, 1) := by decide +kernel
theorem dX9_findHeard_17 : decode cX9_findHeard 17 = .ok (.istore_n 2, 1) := by decide +kernel
theorem dX9_findHeard_18 : decode cX9_findHeard 18 = .ok (.iconst 0, 1) := by decide +kernel
theorem dX9_findHeard_19 : decode cX9_findHeard 19 = .ok (.istore_n 3, 1) := by decide +kernel
theorem dX9_findHeard_20 : decode cX9_findHeard 20 = .ok (.iload_n 3, 1) := by decide +kernel
theorem dX9_findHeard_21 : decode cX9_findHeard 21 = .ok (.bipush 100, 2) := by decide +kernel
theorem dX9_findHeard_23 : decode cX9_findHeard 23 = .ok (.if_icmp .ge 92, 3) := by decide +kernel
theorem dX9_findHeard_26 : decode cX9_findHeard 26 = .ok (.aload_n 0, 1) := by decide +kernel
theorem dX9_findHeard_27 : decode cX9_findHeard 27 = .ok (.getfield 56, 3) := by decide +kernel
theorem dX9_findHeard_30 : decode cX9_findHeard 30 = .ok (.getfield 74, 3) := by decide +kernel
theorem dX9_findHeard_33 : decode cX9_findHeard 33 = .ok (.iload_n 1, 1) := by decide +kernel
theorem dX9_findHeard_34 : decode cX9_findHeard 34 = .ok (.iload_n 3, 1) := by decide +kernel
theorem dX9_findHeard_35 : decode cX9_findHeard 35 = .ok (.iastore, 1) := by decide +kernel
theorem dX9_findHeard_36 : decode cX9_findHeard 36 = .ok (.aload_n 0, 1) := by decide +kernel
theorem dX9_findHeard_37 : decode cX9_findHeard 37 = .ok (.getfield 60, 3) := by decide +kernel
theorem dX9_findHeard_40 : decode cX9_findHeard 40 = .ok (.getfield 77, 3) := by decide +kernel
theorem dX9_findHeard_43 : decode cX9_findHeard 43 = .ok (.invokevirtual 83, 3) := by decide +kernel
theorem dX9_findHeard_46 : decode cX9_findHeard 46 = .ok (.aload_n 0, 1) := by decide +kernel
theorem dX9_findHeard_47 : decode cX9_findHeard 47 = .ok (.getfield 60, 3) := by decide +kernel
theorem dX9_findHeard_50 : decode cX9_findHeard 50 = .ok (.invokevirtual 88, 3) := by decide +kernel
theorem dX9_findHeard_53 : decode cX9_findHeard 53 = .ok (.pop, 1) := by decide +kernel
theorem dX9_findHeard_54 : decode cX9_findHeard 54 = .ok (.iconst 0, 1) := by decide +kernel
theorem dX9_findHeard_55 : decode cX9_findHeard 55 = .ok (.istore 4, 2) := by decide +kernel
theorem dX9_findHeard_57 : decode cX9_findHeard 57 = .ok (.iload 4, 2) := by decide +kernel
theorem dX9_findHeard_59 : decode cX9_findHeard 59 = .ok (.bipush 7, 2) := by decide +kernel
theorem dX9_findHeard_61 : decode cX9_findHeard 61 = .ok (.if_icmp .ge 48, 3) := by decide +kernel
theorem dX9_findHeard_64 : decode cX9_findHeard 64 = .ok (.aload_n 0, 1) := by decide +kernel
theorem dX9_findHeard_65 : decode cX9_findHeard 65 = .ok (.getfield 43, 3) := by decide +kernel
theorem dX9_findHeard_68 : decode cX9_findHeard 68 = .ok (.iload_n 3, 1) := by decide +kernel
theorem dX9_findHeard_69 : decode cX9_findHeard 69 = .ok (.bipush 7, 2) := by decide +kernel
theorem dX9_findHeard_71 : decode cX9_findHeard 71 = .ok (.imul, 1) := by decide +kernel
theorem dX9_findHeard_72 : decode cX9_findHeard 72 = .ok (.iload 4, 2) := by decide +kernel
theorem dX9_findHeard_74 : decode cX9_findHeard 74 = .ok (.iadd, 1) := by decide +kernel
theorem dX9_findHeard_75 : decode cX9_findHeard 75 = .ok (.iload 4, 2) := by decide +kernel
theorem dX9_findHeard_77 : decode cX9_findHeard 77 = .ok (.aload_n 0, 1) := by decide +kernel
theorem dX9_findHeard_78 : decode cX9_findHeard 78 = .ok (.getfield 60, 3) := by decide +kernel
theorem dX9_findHeard_81 : decode cX9_findHeard 81 = .ok (.getfield 92, 3) := by decide +kernel
theorem dX9_findHeard_84 : decode cX9_findHeard 84 = .ok (.if_icmp .ge 16, 3) := by decide +kernel
theorem dX9_findHeard_87 : decode cX9_findHeard 87 = .ok (.aload_n 0, 1) := by decide +kernel
theorem dX9_findHeard_88 : decode cX9_findHeard 88 = .ok (.getfield 60, 3) := by decide +kernel
theorem dX9_findHeard_91 : decode cX9_findHeard 91 = .ok (.getfield 93, 3) := by decide +kernel
theorem dX9_findHeard_94 : decode cX9_findHeard 94 = .ok (.iload 4, 2) := by decide +kernel
theorem dX9_findHeard_96 : decode cX9_findHeard 96 = .ok (.iaload, 1) := by decide +kernel
theorem dX9_findHeard_97 : decode cX9_findHeard 97 = .ok (.goto 5, 3) := by decide +kernel
theorem dX9_findHeard_100 : decode cX9_findHeard 100 = .ok (.bipush 7, 2) := by decide +kernel
theorem dX9_findHeard_102 : decode cX9_findHeard 102 = .ok (.iastore, 1) := by decide +kernel
theorem dX9_findHeard_103 : decode cX9_findHeard 103 = .ok (.iinc 4 1, 3) := by decide +kernel
theorem dX9_findHeard_106 : decode cX9_findHeard 106 = .ok (.goto (-49), 3) := by decide +kernel
theorem dX9_findHeard_109 : decode cX9_findHeard 109 = .ok (.iinc 3 1, 3) := by decide +kernel
theorem dX9_findHeard_112 : decode cX9_findHeard 112 = .ok (.goto (-92), 3) := by decide +kernel
theorem dX9_findHeard_115 : decode cX9_findHeard 115 = .ok (.aload_n 0, 1) := by decide +kernel
theorem dX9_findHeard_116 : decode cX9_findHeard 116 = .ok (.getfield 56, 3) := by decide +kernel
theorem dX9_findHeard_119 : decode cX9_findHeard 119 = .ok (.getfield 74, 3) := by decide +kernel
theorem dX9_findHeard_122 : decode cX9_findHeard 122 = .ok (.iload_n 1, 1) := by decide +kernel
theorem dX9_findHeard_123 : decode cX9_findHeard 123 = .ok (.iload_n 2, 1) := by decide +kernel
theorem dX9_findHeard_124 : decode cX9_findHeard 124 = .ok (.iastore, 1) := by decide +kernel
theorem dX9_findHeard_125 : decode cX9_findHeard 125 = .ok (.aload_n 0, 1) := by decide +kernel
theorem dX9_findHeard_126 : decode cX9_findHeard 126 = .ok (.iconst 1, 1) := by decide +kernel
theorem dX9_findHeard_127 : decode cX9_findHeard 127 = .ok (.putfield 46, 3) := by decide +kernel
theorem dX9_findHeard_130 : decode cX9_findHeard 130 = .ok (.return_, 1) := by decide +kernel
theorem dX9_isSo_0 : decode cX9_isSo 0 = .ok (.iconst 0, 1) := by decide +kernel
theorem dX9_isSo_1 : decode cX9_isSo 1 = .ok (.istore_n 3, 1) := by decide +kernel
theorem dX9_isSo_2 : decode cX9_isSo 2 = .ok (.iload_n 3, 1) := by decide +kernel
theorem dX9_isSo_3 : decode cX9_isSo 3 = .ok (.aload_n 0, 1) := by decide +kernel
theorem dX9_isSo_4 : decode cX9_isSo 4 = .ok (.getfield 11, 3) := by decide +kernel
theorem dX9_isSo_7 : decode cX9_isSo 7 = .ok (.if_icmp .ge 95, 3) := by decide +kernel
theorem dX9_isSo_10 : decode cX9_isSo 10 = .ok (.aload_n 0, 1) := by decide +kernel
theorem dX9_isSo_11 : decode cX9_isSo 11 = .ok (.getfield 37, 3) := by decide +kernel
theorem dX9_isSo_14 : decode cX9_isSo 14 = .ok (.iload_n 3, 1) := by decide +kernel
theorem dX9_isSo_15 : decode cX9_isSo 15 = .ok (.iaload, 1) := by decide +kernel
theorem dX9_isSo_16 : decode cX9_isSo 16 = .ok (.iload_n 2, 1) := by decide +kernel
theorem dX9_isSo_17 : decode cX9_isSo 17 = .ok (.if_icmp .gt 26, 3) := by decide +kernel
theorem dX9_isSo_20 : decode cX9_isSo 20 = .ok (.aload_n 0, 1) := by decide +kernel
theorem dX9_isSo_21 : decode cX9_isSo 21 = .ok (.getfield 40, 3) := by decide +kernel
theorem dX9_isSo_24 : decode cX9_isSo 24 = .ok (.iload_n 3, 1) := by decide +kernel
theorem dX9_isSo_25 : decode cX9_isSo 25 = .ok (.iaload, 1) := by decide +kernel
theorem dX9_isSo_26 : decode cX9_isSo 26 = .ok (.ifCond .lt 13, 3) := by decide +kernel
theorem dX9_isSo_29 : decode cX9_isSo 29 = .ok (.aload_n 0, 1) := by decide +kernel
theorem dX9_isSo_30 : decode cX9_isSo 30 = .ok (.getfield 40, 3) := by decide +kernel
theorem dX9_isSo_33 : decode cX9_isSo 33 = .ok (.iload_n 3, 1) := by decide +kernel
theorem dX9_isSo_34 : decode cX9_isSo 34 = .ok (.iaload, 1) := by decide +kernel
theorem dX9_isSo_35 : decode cX9_isSo 35 = .ok (.iload_n 2, 1) := by decide +kernel
theorem dX9_isSo_36 : decode cX9_isSo 36 = .ok (.if_icmp .le 7, 3) := by decide +kernel
theorem dX9_isSo_39 : decode cX9_isSo 39 = .ok (.iconst 1, 1) := by decide +kernel
theorem dX9_isSo_40 : decode cX9_isSo 40 = .ok (.goto 4, 3) := by decide +kernel
theorem dX9_isSo_43 : decode cX9_isSo 43 = .ok (.iconst 0, 1) := by decide +kernel
theorem dX9_isSo_44 : decode cX9_isSo 44 = .ok (.istore 4, 2) := by decide +kernel
theorem dX9_isSo_46 : decode cX9_isSo 46 = .ok (.aload_n 0, 1) := by decide +kernel
theorem dX9_isSo_47 : decode cX9_isSo 47 = .ok (.getfield 43, 3) := by decide +kernel
theorem dX9_isSo_50 : decode cX9_isSo 50 = .ok (.iload_n 1, 1) := by decide +kernel
theorem dX9_isSo_51 : decode cX9_isSo 51 = .ok (.bipush 7, 2) := by decide +kernel
theorem dX9_isSo_53 : decode cX9_isSo 53 = .ok (.imul, 1) := by decide +kernel
theorem dX9_isSo_54 : decode cX9_isSo 54 = .ok (.aload_n 0, 1) := by decide +kernel
theorem dX9_isSo_55 : decode cX9_isSo 55 = .ok (.getfield 26, 3) := by decide +kernel
theorem dX9_isSo_58 : decode cX9_isSo 58 = .ok (.iload_n 3, 1) := by decide +kernel
theorem dX9_isSo_59 : decode cX9_isSo 59 = .ok (.iaload, 1) := by decide +kernel
theorem dX9_isSo_60 : decode cX9_isSo 60 = .ok (.iadd, 1) := by decide +kernel
theorem dX9_isSo_61 : decode cX9_isSo 61 = .ok (.iaload, 1) := by decide +kernel
theorem dX9_isSo_62 : decode cX9_isSo 62 = .ok (.aload_n 0, 1) := by decide +kernel
theorem dX9_isSo_63 : decode cX9_isSo 63 = .ok (.getfield 30, 3) := by decide +kernel
theorem dX9_isSo_66 : decode cX9_isSo 66 = .ok (.iload_n 3, 1) := by decide +kernel
theorem dX9_isSo_67 : decode cX9_isSo 67 = .ok (.iaload, 1) := by decide +kernel
theorem dX9_isSo_68 : decode cX9_isSo 68 = .ok (.if_icmp .ne 7, 3) := by decide +kernel
theorem dX9_isSo_71 : decode cX9_isSo 71 = .ok (.iconst 1, 1) := by decide +kernel
theorem dX9_isSo_72 : decode cX9_isSo 72 = .ok (.goto 4, 3) := by decide +kernel
theorem dX9_isSo_75 : decode cX9_isSo 75 = .ok (.iconst 0, 1) := by decide +kernel
theorem dX9_isSo_76 : decode cX9_isSo 76 = .ok (.istore 5, 2) := by decide +kernel
theorem dX9_isSo_78 : decode cX9_isSo 78 = .ok (.iload 4, 2) := by decide +kernel
theorem dX9_isSo_80 : decode cX9_isSo 80 = .ok (.ifCond .eq 16, 3) := by decide +kernel
theorem dX9_isSo_83 : decode cX9_isSo 83 = .ok (.iload 5, 2) := by decide +kernel
theorem dX9_isSo_85 : decode cX9_isSo 85 = .ok (.aload_n 0, 1) := by decide +kernel
theorem dX9_isSo_86 : decode cX9_isSo 86 = .ok (.getfield 33, 3) := by decide +kernel
theorem dX9_isSo_89 : decode cX9_isSo 89 = .ok (.iload_n 3, 1) := by decide +kernel
theorem dX9_isSo_90 : decode cX9_isSo 90 = .ok (.baload, 1) := by decide +kernel
theorem dX9_isSo_91 : decode cX9_isSo 91 = .ok (.if_icmp .eq 5, 3) := by decide +kernel
theorem dX9_isSo_94 : decode cX9_isSo 94 = .ok (.iconst 0, 1) := by decide +kernel
theorem dX9_isSo_95 : decode cX9_isSo 95 = .ok (.ireturn, 1) := by decide +kernel
theorem dX9_isSo_96 : decode cX9_isSo 96 = .ok (.iinc 3 1, 3) := by decide +kernel
theorem dX9_isSo_99 : decode cX9_isSo 99 = .ok (.goto (-97), 3) := by decide +kernel
theorem dX9_isSo_102 : decode cX9_isSo 102 = .ok (.iconst 1, 1) := by decide +kernel
theorem dX9_isSo_103 : decode cX9_isSo 103 = .ok (.ireturn, 1) := by decide +kernel
theorem dX9_leastFitting_0 : decode cX9_leastFitting 0 = .ok (.iconst 0, 1) := by decide +kernel
theorem dX9_leastFitting_1 : decode cX9_leastFitting 1 = .ok (.istore_n 1, 1) := by decide +kernel
theorem dX9_leastFitting_2 : decode cX9_leastFitting 2 = .ok (.iload_n 1, 1) := by decide +kernel
theorem dX9_leastFitting_3 : decode cX9_leastFitting 3 = .ok (.bipush 100, 2) := by decide +kernel
theorem dX9_leastFitting_5 : decode cX9_leastFitting 5 = .ok (.if_icmp .ge 20, 3) := by decide +kernel
theorem dX9_leastFitting_8 : decode cX9_leastFitting 8 = .ok (.aload_n 0, 1) := by decide +kernel
theorem dX9_leastFitting_9 : decode cX9_leastFitting 9 = .ok (.getfield 50, 3) := by decide +kernel
theorem dX9_leastFitting_12 : decode cX9_leastFitting 12 = .ok (.iload_n 1, 1) := by decide +kernel
theorem dX9_leastFitting_13 : decode cX9_leastFitting 13 = .ok (.baload, 1) := by decide +kernel
theorem dX9_leastFitting_14 : decode cX9_leastFitting 14 = .ok (.ifCond .eq 5, 3) := by decide +kernel
theorem dX9_leastFitting_17 : decode cX9_leastFitting 17 = .ok (.iload_n 1, 1) := by decide +kernel
theorem dX9_leastFitting_18 : decode cX9_leastFitting 18 = .ok (.ireturn, 1) := by decide +kernel
theorem dX9_leastFitting_19 : decode cX9_leastFitting 19 = .ok (.iinc 1 1, 3) := by decide +kernel
theorem dX9_leastFitting_22 : decode cX9_leastFitting 22 = .ok (.goto (-20), 3) := by decide +kernel
theorem dX9_leastFitting_25 : decode cX9_leastFitting 25 = .ok (.iconst (-1), 1) := by decide +kernel
theorem dX9_leastFitting_26 : decode cX9_leastFitting 26 = .ok (.ireturn, 1) := by decide +kernel
theorem dX9_greatestFitting_0 : decode cX9_greatestFitting 0 = .ok (.bipush 99, 2) := by decide +kernel
theorem dX9_greatestFitting_2 : decode cX9_greatestFitting 2 = .ok (.istore_n 1, 1) := by decide +kernel
theorem dX9_greatestFitting_3 : decode cX9_greatestFitting 3 = .ok (.iload_n 1, 1) := by decide +kernel
theorem dX9_greatestFitting_4 : decode cX9_greatestFitting 4 = .ok (.ifCond .lt 20, 3) := by decide +kernel
theorem dX9_greatestFitting_7 : decode cX9_greatestFitting 7 = .ok (.aload_n 0, 1) := by decide +kernel
theorem dX9_greatestFitting_8 : decode cX9_greatestFitting 8 = .ok (.getfield 50, 3) := by decide +kernel
theorem dX9_greatestFitting_11 : decode cX9_greatestFitting 11 = .ok (.iload_n 1, 1) := by decide +kernel
theorem dX9_greatestFitting_12 : decode cX9_greatestFitting 12 = .ok (.baload, 1) := by decide +kernel
theorem dX9_greatestFitting_13 : decode cX9_greatestFitting 13 = .ok (.ifCond .eq 5, 3) := by decide +kernel
theorem dX9_greatestFitting_16 : decode cX9_greatestFitting 16 = .ok (.iload_n 1, 1) := by decide +kernel
theorem dX9_greatestFitting_17 : decode cX9_greatestFitting 17 = .ok (.ireturn, 1) := by decide +kernel
theorem dX9_greatestFitting_18 : decode cX9_greatestFitting 18 = .ok (.iinc 1 (-1), 3) := by decide +kernel
theorem dX9_greatestFitting_21 : decode cX9_greatestFitting 21 = .ok (.goto (-18), 3) := by decide +kernel
theorem dX9_greatestFitting_24 : decode cX9_greatestFitting 24 = .ok (.iconst (-1), 1) := by decide +kernel
theorem dX9_greatestFitting_25 : decode cX9_greatestFitting 25 = .ok (.ireturn, 1) := by decide +kernel
theorem dX9_findPlace_0 : decode cX9_findPlace 0 = .ok (.iconst 0, 1) := by decide +kernel
theorem dX9_findPlace_1 : decode cX9_findPlace 1 = .ok (.istore_n 1, 1) := by decide +kernel
theorem dX9_findPlace_2 : decode cX9_findPlace 2 = .ok (.iload_n 1, 1) := by decide +kernel
theorem dX9_findPlace_3 : decode cX9_findPlace 3 = .ok (.bipush 7, 2) := by decide +kernel
theorem dX9_findPlace_5 : decode cX9_findPlace 5 = .ok (.if_icmp .ge 37, 3) := by decide +kernel
theorem dX9_findPlace_8 : decode cX9_findPlace 8 = .ok (.aload_n 0, 1) := by decide +kernel
theorem dX9_findPlace_9 : decode cX9_findPlace 9 = .ok (.iload_n 1, 1) := by decide +kernel
theorem dX9_findPlace_10 : decode cX9_findPlace 10 = .ok (.invokevirtual 94, 3) := by decide +kernel
theorem dX9_findPlace_13 : decode cX9_findPlace 13 = .ok (.istore_n 2, 1) := by decide +kernel
theorem dX9_findPlace_14 : decode cX9_findPlace 14 = .ok (.iload_n 1, 1) := by decide +kernel
theorem dX9_findPlace_15 : decode cX9_findPlace 15 = .ok (.ifCond .eq 11, 3) := by decide +kernel
theorem dX9_findPlace_18 : decode cX9_findPlace 18 = .ok (.iload_n 2, 1) := by decide +kernel
theorem dX9_findPlace_19 : decode cX9_findPlace 19 = .ok (.aload_n 0, 1) := by decide +kernel
theorem dX9_findPlace_20 : decode cX9_findPlace 20 = .ok (.getfield 23, 3) := by decide +kernel
theorem dX9_findPlace_23 : decode cX9_findPlace 23 = .ok (.if_icmp .ge 13, 3) := by decide +kernel
theorem dX9_findPlace_26 : decode cX9_findPlace 26 = .ok (.aload_n 0, 1) := by decide +kernel
theorem dX9_findPlace_27 : decode cX9_findPlace 27 = .ok (.iload_n 1, 1) := by decide +kernel
theorem dX9_findPlace_28 : decode cX9_findPlace 28 = .ok (.putfield 20, 3) := by decide +kernel
theorem dX9_findPlace_31 : decode cX9_findPlace 31 = .ok (.aload_n 0, 1) := by decide +kernel
theorem dX9_findPlace_32 : decode cX9_findPlace 32 = .ok (.iload_n 2, 1) := by decide +kernel
theorem dX9_findPlace_33 : decode cX9_findPlace 33 = .ok (.putfield 23, 3) := by decide +kernel
theorem dX9_findPlace_36 : decode cX9_findPlace 36 = .ok (.iinc 1 1, 3) := by decide +kernel
theorem dX9_findPlace_39 : decode cX9_findPlace 39 = .ok (.goto (-37), 3) := by decide +kernel
theorem dX9_findPlace_42 : decode cX9_findPlace 42 = .ok (.return_, 1) := by decide +kernel
theorem dX9_mostLeft_0 : decode cX9_mostLeft 0 = .ok (.iconst 0, 1) := by decide +kernel
theorem dX9_mostLeft_1 : decode cX9_mostLeft 1 = .ok (.istore_n 2, 1) := by decide +kernel
theorem dX9_mostLeft_2 : decode cX9_mostLeft 2 = .ok (.iload_n 2, 1) := by decide +kernel
theorem dX9_mostLeft_3 : decode cX9_mostLeft 3 = .ok (.aload_n 0, 1) := by decide +kernel
theorem dX9_mostLeft_4 : decode cX9_mostLeft 4 = .ok (.getfield 53, 3) := by decide +kernel
theorem dX9_mostLeft_7 : decode cX9_mostLeft 7 = .ok (.arraylength, 1) := by decide +kernel
theorem dX9_mostLeft_8 : decode cX9_mostLeft 8 = .ok (.if_icmp .ge 16, 3) := by decide +kernel
theorem dX9_mostLeft_11 : decode cX9_mostLeft 11 = .ok (.aload_n 0, 1) := by decide +kernel
theorem dX9_mostLeft_12 : decode cX9_mostLeft 12 = .ok (.getfield 53, 3) := by decide +kernel
theorem dX9_mostLeft_15 : decode cX9_mostLeft 15 = .ok (.iload_n 2, 1) := by decide +kernel
theorem dX9_mostLeft_16 : decode cX9_mostLeft 16 = .ok (.iconst 0, 1) := by decide +kernel
theorem dX9_mostLeft_17 : decode cX9_mostLeft 17 = .ok (.iastore, 1) := by decide +kernel
theorem dX9_mostLeft_18 : decode cX9_mostLeft 18 = .ok (.iinc 2 1, 3) := by decide +kernel
theorem dX9_mostLeft_21 : decode cX9_mostLeft 21 = .ok (.goto (-19), 3) := by decide +kernel
theorem dX9_mostLeft_24 : decode cX9_mostLeft 24 = .ok (.iconst 0, 1) := by decide +kernel
theorem dX9_mostLeft_25 : decode cX9_mostLeft 25 = .ok (.istore_n 2, 1) := by decide +kernel
theorem dX9_mostLeft_26 : decode cX9_mostLeft 26 = .ok (.iconst 0, 1) := by decide +kernel
theorem dX9_mostLeft_27 : decode cX9_mostLeft 27 = .ok (.istore_n 3, 1) := by decide +kernel
theorem dX9_mostLeft_28 : decode cX9_mostLeft 28 = .ok (.iload_n 3, 1) := by decide +kernel
theorem dX9_mostLeft_29 : decode cX9_mostLeft 29 = .ok (.bipush 100, 2) := by decide +kernel
theorem dX9_mostLeft_31 : decode cX9_mostLeft 31 = .ok (.if_icmp .ge 54, 3) := by decide +kernel
theorem dX9_mostLeft_34 : decode cX9_mostLeft 34 = .ok (.aload_n 0, 1) := by decide +kernel
theorem dX9_mostLeft_35 : decode cX9_mostLeft 35 = .ok (.getfield 50, 3) := by decide +kernel
theorem dX9_mostLeft_38 : decode cX9_mostLeft 38 = .ok (.iload_n 3, 1) := by decide +kernel
theorem dX9_mostLeft_39 : decode cX9_mostLeft 39 = .ok (.baload, 1) := by decide +kernel
theorem dX9_mostLeft_40 : decode cX9_mostLeft 40 = .ok (.ifCond .eq 39, 3) := by decide +kernel
theorem dX9_mostLeft_43 : decode cX9_mostLeft 43 = .ok (.aload_n 0, 1) := by decide +kernel
theorem dX9_mostLeft_44 : decode cX9_mostLeft 44 = .ok (.getfield 43, 3) := by decide +kernel
theorem dX9_mostLeft_47 : decode cX9_mostLeft 47 = .ok (.iload_n 3, 1) := by decide +kernel
theorem dX9_mostLeft_48 : decode cX9_mostLeft 48 = .ok (.bipush 7, 2) := by decide +kernel
theorem dX9_mostLeft_50 : decode cX9_mostLeft 50 = .ok (.imul, 1) := by decide +kernel
theorem dX9_mostLeft_51 : decode cX9_mostLeft 51 = .ok (.iload_n 1, 1) := by decide +kernel
theorem dX9_mostLeft_52 : decode cX9_mostLeft 52 = .ok (.iadd, 1) := by decide +kernel
theorem dX9_mostLeft_53 : decode cX9_mostLeft 53 = .ok (.iaload, 1) := by decide +kernel
theorem dX9_mostLeft_54 : decode cX9_mostLeft 54 = .ok (.istore 4, 2) := by decide +kernel
theorem dX9_mostLeft_56 : decode cX9_mostLeft 56 = .ok (.aload_n 0, 1) := by decide +kernel
theorem dX9_mostLeft_57 : decode cX9_mostLeft 57 = .ok (.getfield 53, 3) := by decide +kernel
theorem dX9_mostLeft_60 : decode cX9_mostLeft 60 = .ok (.iload 4, 2) := by decide +kernel
theorem dX9_mostLeft_62 : decode cX9_mostLeft 62 = .ok (.dup2, 1) := by decide +kernel
theorem dX9_mostLeft_63 : decode cX9_mostLeft 63 = .ok (.iaload, 1) := by decide +kernel
theorem dX9_mostLeft_64 : decode cX9_mostLeft 64 = .ok (.iconst 1, 1) := by decide +kernel
theorem dX9_mostLeft_65 : decode cX9_mostLeft 65 = .ok (.iadd, 1) := by decide +kernel
theorem dX9_mostLeft_66 : decode cX9_mostLeft 66 = .ok (.iastore, 1) := by decide +kernel
theorem dX9_mostLeft_67 : decode cX9_mostLeft 67 = .ok (.iload_n 2, 1) := by decide +kernel
theorem dX9_mostLeft_68 : decode cX9_mostLeft 68 = .ok (.aload_n 0, 1) := by decide +kernel
theorem dX9_mostLeft_69 : decode cX9_mostLeft 69 = .ok (.getfield 53, 3) := by decide +kernel
theorem dX9_mostLeft_72 : decode cX9_mostLeft 72 = .ok (.iload 4, 2) := by decide +kernel
theorem dX9_mostLeft_74 : decode cX9_mostLeft 74 = .ok (.iaload, 1) := by decide +kernel
theorem dX9_mostLeft_75 : decode cX9_mostLeft 75 = .ok (.invokestatic 98, 3) := by decide +kernel
theorem dX9_mostLeft_78 : decode cX9_mostLeft 78 = .ok (.istore_n 2, 1) := by decide +kernel
theorem dX9_mostLeft_79 : decode cX9_mostLeft 79 = .ok (.iinc 3 1, 3) := by decide +kernel
theorem dX9_mostLeft_82 : decode cX9_mostLeft 82 = .ok (.goto (-54), 3) := by decide +kernel
theorem dX9_mostLeft_85 : decode cX9_mostLeft 85 = .ok (.iload_n 2, 1) := by decide +kernel
theorem dX9_mostLeft_86 : decode cX9_mostLeft 86 = .ok (.ireturn, 1) := by decide +kernel
theorem dX10_init_0 : decode cX10_init 0 = .ok (.aload_n 0, 1) := by decide +kernel
theorem dX10_init_1 : decode cX10_init 1 = .ok (.invokespecial 1, 3) := by decide +kernel
theorem dX10_init_4 : decode cX10_init 4 = .ok (.aload_n 0, 1) := by decide +kernel
theorem dX10_init_5 : decode cX10_init 5 = .ok (.sipush 1600, 3) := by decide +kernel
theorem dX10_init_8 : decode cX10_init 8 = .ok (.newarray .byte, 2) := by decide +kernel
theorem dX10_init_10 : decode cX10_init 10 = .ok (.putfield 9, 3) := by decide +kernel
theorem dX10_init_13 : decode cX10_init 13 = .ok (.aload_n 0, 1) := by decide +kernel
theorem dX10_init_14 : decode cX10_init 14 = .ok (.iconst 0, 1) := by decide +kernel
theorem dX10_init_15 : decode cX10_init 15 = .ok (.putfield 13, 3) := by decide +kernel
theorem dX10_init_18 : decode cX10_init 18 = .ok (.aload_n 0, 1) := by decide +kernel
theorem dX10_init_19 : decode cX10_init 19 = .ok (.iconst 0, 1) := by decide +kernel
theorem dX10_init_20 : decode cX10_init 20 = .ok (.putfield 17, 3) := by decide +kernel
theorem dX10_init_23 : decode cX10_init 23 = .ok (.aload_n 0, 1) := by decide +kernel
theorem dX10_init_24 : decode cX10_init 24 = .ok (.iconst 0, 1) := by decide +kernel
theorem dX10_init_25 : decode cX10_init 25 = .ok (.putfield 20, 3) := by decide +kernel
theorem dX10_init_28 : decode cX10_init 28 = .ok (.aload_n 0, 1) := by decide +kernel
theorem dX10_init_29 : decode cX10_init 29 = .ok (.iconst 0, 1) := by decide +kernel
theorem dX10_init_30 : decode cX10_init 30 = .ok (.putfield 23, 3) := by decide +kernel
theorem dX10_init_33 : decode cX10_init 33 = .ok (.aload_n 0, 1) := by decide +kernel
theorem dX10_init_34 : decode cX10_init 34 = .ok (.lconst 0, 1) := by decide +kernel
theorem dX10_init_35 : decode cX10_init 35 = .ok (.putfield 26, 3) := by decide +kernel
theorem dX10_init_38 : decode cX10_init 38 = .ok (.aload_n 0, 1) := by decide +kernel
theorem dX10_init_39 : decode cX10_init 39 = .ok (.iconst 0, 1) := by decide +kernel
theorem dX10_init_40 : decode cX10_init 40 = .ok (.putfield 30, 3) := by decide +kernel
theorem dX10_init_43 : decode cX10_init 43 = .ok (.aload_n 0, 1) := by decide +kernel
theorem dX10_init_44 : decode cX10_init 44 = .ok (.bipush 20, 2) := by decide +kernel
theorem dX10_init_46 : decode cX10_init 46 = .ok (.newarray .long, 2) := by decide +kernel
theorem dX10_init_48 : decode cX10_init 48 = .ok (.putfield 33, 3) := by decide +kernel
theorem dX10_init_51 : decode cX10_init 51 = .ok (.iconst 0, 1) := by decide +kernel
theorem dX10_init_52 : decode cX10_init 52 = .ok (.istore_n 1, 1) := by decide +kernel
theorem dX10_init_53 : decode cX10_init 53 = .ok (.iconst 0, 1) := by decide +kernel
theorem dX10_init_54 : decode cX10_init 54 = .ok (.istore_n 2, 1) := by decide +kernel
theorem dX10_init_55 : decode cX10_init 55 = .ok (.iload_n 2, 1) := by decide +kernel
theorem dX10_init_56 : decode cX10_init 56 = .ok (.ldc 37, 2) := by decide +kernel
theorem dX10_init_58 : decode cX10_init 58 = .ok (.invokevirtual 39, 3) := by decide +kernel
theorem dX10_init_61 : decode cX10_init 61 = .ok (.if_icmp .ge 51, 3) := by decide +kernel
theorem dX10_init_64 : decode cX10_init 64 = .ok (.ldc 37, 2) := by decide +kernel
theorem dX10_init_66 : decode cX10_init 66 = .ok (.iload_n 2, 1) := by decide +kernel
theorem dX10_init_67 : decode cX10_init 67 = .ok (.invokevirtual 44, 3) := by decide +kernel
theorem dX10_init_70 : decode cX10_init 70 = .ok (.istore_n 3, 1) := by decide +kernel
theorem dX10_init_71 : decode cX10_init 71 = .ok (.iload_n 3, 1) := by decide +kernel
theorem dX10_init_72 : decode cX10_init 72 = .ok (.invokestatic 48, 3) := by decide +kernel
theorem dX10_init_75 : decode cX10_init 75 = .ok (.ifCond .ne 9, 3) := by decide +kernel
theorem dX10_init_78 : decode cX10_init 78 = .ok (.iinc 1 1, 3) := by decide +kernel
theorem dX10_init_81 : decode cX10_init 81 = .ok (.goto 25, 3) := by decide +kernel
theorem dX10_init_84 : decode cX10_init 84 = .ok (.iload_n 1, 1) := by decide +kernel
theorem dX10_init_85 : decode cX10_init 85 = .ok (.bipush 20, 2) := by decide +kernel
theorem dX10_init_87 : decode cX10_init 87 = .ok (.if_icmp .ge 19, 3) := by decide +kernel
theorem dX10_init_90 : decode cX10_init 90 = .ok (.aload_n 0, 1) := by decide +kernel
theorem dX10_init_91 : decode cX10_init 91 = .ok (.getfield 33, 3) := by decide +kernel
theorem dX10_init_94 : decode cX10_init 94 = .ok (.iload_n 1, 1) := by decide +kernel
theorem dX10_init_95 : decode cX10_init 95 = .ok (.aload_n 0, 1) := by decide +kernel
theorem dX10_init_96 : decode cX10_init 96 = .ok (.getfield 33, 3) := by decide +kernel
theorem dX10_init_99 : decode cX10_init 99 = .ok (.iload_n 1, 1) := by decide +kernel
theorem dX10_init_100 : decode cX10_init 100 = .ok (.laload, 1) := by decide +kernel
theorem dX10_init_101 : decode cX10_init 101 = .ok (.iload_n 3, 1) := by decide +kernel
theorem dX10_init_102 : decode cX10_init 102 = .ok (.invokestatic 52, 3) := by decide +kernel
theorem dX10_init_105 : decode cX10_init 105 = .ok (.lastore, 1) := by decide +kernel
theorem dX10_init_106 : decode cX10_init 106 = .ok (.iinc 2 1, 3) := by decide +kernel
theorem dX10_init_109 : decode cX10_init 109 = .ok (.goto (-54), 3) := by decide +kernel
theorem dX10_init_112 : decode cX10_init 112 = .ok (.return_, 1) := by decide +kernel
theorem dX10_put_0 : decode cX10_put 0 = .ok (.bipush 24, 2) := by decide +kernel
theorem dX10_put_2 : decode cX10_put 2 = .ok (.istore_n 2, 1) := by decide +kernel
theorem dX10_put_3 : decode cX10_put 3 = .ok (.iload_n 2, 1) := by decide +kernel
theorem dX10_put_4 : decode cX10_put 4 = .ok (.ifCond .lt 42, 3) := by decide +kernel
theorem dX10_put_7 : decode cX10_put 7 = .ok (.aload_n 0, 1) := by decide +kernel
theorem dX10_put_8 : decode cX10_put 8 = .ok (.getfield 13, 3) := by decide +kernel
theorem dX10_put_11 : decode cX10_put 11 = .ok (.sipush 1600, 3) := by decide +kernel
theorem dX10_put_14 : decode cX10_put 14 = .ok (.if_icmp .ge 32, 3) := by decide +kernel
theorem dX10_put_17 : decode cX10_put 17 = .ok (.aload_n 0, 1) := by decide +kernel
theorem dX10_put_18 : decode cX10_put 18 = .ok (.getfield 9, 3) := by decide +kernel
theorem dX10_put_21 : decode cX10_put 21 = .ok (.aload_n 0, 1) := by decide +kernel
theorem dX10_put_22 : decode cX10_put 22 = .ok (.getfield 13, 3) := by decide +kernel
theorem dX10_put_25 : decode cX10_put 25 = .ok (.iload_n 1, 1) := by decide +kernel
theorem dX10_put_26 : decode cX10_put 26 = .ok (.iload_n 2, 1) := by decide +kernel
theorem dX10_put_27 : decode cX10_put 27 = .ok (.iushr, 1) := by decide +kernel
theorem dX10_put_28 : decode cX10_put 28 = .ok (.i2b, 1) := by decide +kernel
theorem dX10_put_29 : decode cX10_put 29 = .ok (.bastore, 1) := by decide +kernel
theorem dX10_put_30 : decode cX10_put 30 = .ok (.aload_n 0, 1) := by decide +kernel
theorem dX10_put_31 : decode cX10_put 31 = .ok (.dup, 1) := by decide +kernel
theorem dX10_put_32 : decode cX10_put 32 = .ok (.getfield 13, 3) := by decide +kernel
theorem dX10_put_35 : decode cX10_put 35 = .ok (.iconst 1, 1) := by decide +kernel
theorem dX10_put_36 : decode cX10_put 36 = .ok (.iadd, 1) := by decide +kernel
theorem dX10_put_37 : decode cX10_put 37 = .ok (.putfield 13, 3) := by decide +kernel
theorem dX10_put_40 : decode cX10_put 40 = .ok (.iinc 2 (-8), 3) := by decide +kernel
theorem dX10_put_43 : decode cX10_put 43 = .ok (.goto (-40), 3) := by decide +kernel
theorem dX10_put_46 : decode cX10_put 46 = .ok (.return_, 1) := by decide +kernel
theorem dX10_rewind_0 : decode cX10_rewind 0 = .ok (.aload_n 0, 1) := by decide +kernel
theorem dX10_rewind_1 : decode cX10_rewind 1 = .ok (.iconst 0, 1) := by decide +kernel
theorem dX10_rewind_2 : decode cX10_rewind 2 = .ok (.putfield 30, 3) := by decide +kernel
theorem dX10_rewind_5 : decode cX10_rewind 5 = .ok (.aload_n 0, 1) := by decide +kernel
theorem dX10_rewind_6 : decode cX10_rewind 6 = .ok (.invokevirtual 56, 3) := by decide +kernel
theorem dX10_rewind_9 : decode cX10_rewind 9 = .ok (.return_, 1) := by decide +kernel
theorem dX10_step_0 : decode cX10_step 0 = .ok (.aload_n 0, 1) := by decide +kernel
theorem dX10_step_1 : decode cX10_step 1 = .ok (.getfield 30, 3) := by decide +kernel
theorem dX10_step_4 : decode cX10_step 4 = .ok (.aload_n 0, 1) := by decide +kernel
theorem dX10_step_5 : decode cX10_step 5 = .ok (.getfield 13, 3) := by decide +kernel
theorem dX10_step_8 : decode cX10_step 8 = .ok (.if_icmp .ge 44, 3) := by decide +kernel
theorem dX10_step_11 : decode cX10_step 11 = .ok (.aload_n 0, 1) := by decide +kernel
theorem dX10_step_12 : decode cX10_step 12 = .ok (.getfield 9, 3) := by decide +kernel
theorem dX10_step_15 : decode cX10_step 15 = .ok (.aload_n 0, 1) := by decide +kernel
theorem dX10_step_16 : decode cX10_step 16 = .ok (.getfield 30, 3) := by decide +kernel
theorem dX10_step_19 : decode cX10_step 19 = .ok (.baload, 1) := by decide +kernel
theorem dX10_step_20 : decode cX10_step 20 = .ok (.bipush 32, 2) := by decide +kernel
theorem dX10_step_22 : decode cX10_step 22 = .ok (.if_icmp .eq 17, 3) := by decide +kernel
theorem dX10_step_25 : decode cX10_step 25 = .ok (.aload_n 0, 1) := by decide +kernel
theorem dX10_step_26 : decode cX10_step 26 = .ok (.getfield 9, 3) := by decide +kernel
theorem dX10_step_29 : decode cX10_step 29 = .ok (.aload_n 0, 1) := by decide +kernel
theorem dX10_step_30 : decode cX10_step 30 = .ok (.getfield 30, 3) := by decide +kernel
theorem dX10_step_33 : decode cX10_step 33 = .ok (.baload, 1) := by decide +kernel
theorem dX10_step_34 : decode cX10_step 34 = .ok (.bipush 10, 2) := by decide +kernel
theorem dX10_step_36 : decode cX10_step 36 = .ok (.if_icmp .ne 16, 3) := by decide +kernel
theorem dX10_step_39 : decode cX10_step 39 = .ok (.aload_n 0, 1) := by decide +kernel
theorem dX10_step_40 : decode cX10_step 40 = .ok (.dup, 1) := by decide +kernel
theorem dX10_step_41 : decode cX10_step 41 = .ok (.getfield 30, 3) := by decide +kernel
theorem dX10_step_44 : decode cX10_step 44 = .ok (.iconst 1, 1) := by decide +kernel
theorem dX10_step_45 : decode cX10_step 45 = .ok (.iadd, 1) := by decide +kernel
theorem dX10_step_46 : decode cX10_step 46 = .ok (.putfield 30, 3) := by decide +kernel
theorem dX10_step_49 : decode cX10_step 49 = .ok (.goto (-49), 3) := by decide +kernel
theorem dX10_step_52 : decode cX10_step 52 = .ok (.aload_n 0, 1) := by decide +kernel
theorem dX10_step_53 : decode cX10_step 53 = .ok (.aload_n 0, 1) := by decide +kernel
theorem dX10_step_54 : decode cX10_step 54 = .ok (.getfield 30, 3) := by decide +kernel
theorem dX10_step_57 : decode cX10_step 57 = .ok (.putfield 20, 3) := by decide +kernel
theorem dX10_step_60 : decode cX10_step 60 = .ok (.aload_n 0, 1) := by decide +kernel
theorem dX10_step_61 : decode cX10_step 61 = .ok (.getfield 30, 3) := by decide +kernel
theorem dX10_step_64 : decode cX10_step 64 = .ok (.aload_n 0, 1) := by decide +kernel
theorem dX10_step_65 : decode cX10_step 65 = .ok (.getfield 13, 3) := by decide +kernel
theorem dX10_step_68 : decode cX10_step 68 = .ok (.if_icmp .lt 9, 3) := by decide +kernel
theorem dX10_step_71 : decode cX10_step 71 = .ok (.aload_n 0, 1) := by decide +kernel
theorem dX10_step_72 : decode cX10_step 72 = .ok (.iconst 0, 1) := by decide +kernel
theorem dX10_step_73 : decode cX10_step 73 = .ok (.putfield 17, 3) := by decide +kernel
theorem dX10_step_76 : decode cX10_step 76 = .ok (.return_, 1) := by decide +kernel
theorem dX10_step_77 : decode cX10_step 77 = .ok (.aload_n 0, 1) := by decide +kernel
theorem dX10_step_78 : decode cX10_step 78 = .ok (.getfield 9, 3) := by decide +kernel
theorem dX10_step_81 : decode cX10_step 81 = .ok (.aload_n 0, 1) := by decide +kernel
theorem dX10_step_82 : decode cX10_step 82 = .ok (.getfield 30, 3) := by decide +kernel
theorem dX10_step_85 : decode cX10_step 85 = .ok (.baload, 1) := by decide +kernel
theorem dX10_step_86 : decode cX10_step 86 = .ok (.istore_n 1, 1) := by decide +kernel
theorem dX10_step_87 : decode cX10_step 87 = .ok (.iload_n 1, 1) := by decide +kernel
theorem dX10_step_88 : decode cX10_step 88 = .ok (.invokestatic 48, 3) := by decide +kernel
theorem dX10_step_91 : decode cX10_step 91 = .ok (.ifCond .eq 10, 3) := by decide +kernel
theorem dX10_step_94 : decode cX10_step 94 = .ok (.aload_n 0, 1) := by decide +kernel
theorem dX10_step_95 : decode cX10_step 95 = .ok (.invokevirtual 59, 3) := by decide +kernel
theorem dX10_step_98 : decode cX10_step 98 = .ok (.goto 43, 3) := by decide +kernel
theorem dX10_step_101 : decode cX10_step 101 = .ok (.iload_n 1, 1) := by decide +kernel
theorem dX10_step_102 : decode cX10_step 102 = .ok (.invokestatic 62, 3) := by decide +kernel
theorem dX10_step_105 : decode cX10_step 105 = .ok (.ifCond .eq 10, 3) := by decide +kernel
theorem dX10_step_108 : decode cX10_step 108 = .ok (.aload_n 0, 1) := by decide +kernel
theorem dX10_step_109 : decode cX10_step 109 = .ok (.invokevirtual 65, 3) := by decide +kernel
theorem dX10_step_112 : decode cX10_step 112 = .ok (.goto 29, 3) := by decide +kernel
theorem dX10_step_115 : decode cX10_step 115 = .ok (.aload_n 0, 1) := by decide +kernel
theorem dX10_step_116 : decode cX10_step 116 = .ok (.iload_n 1, 1) := by decide +kernel
theorem dX10_step_117 : decode cX10_step 117 = .ok (.invokestatic 68, 3) := by decide +kernel
theorem dX10_step_120 : decode cX10_step 120 = .ok (.ifCond .eq 7, 3) := by decide +kernel
theorem dX10_step_123 : decode cX10_step 123 = .ok (.iload_n 1, 1) := by decide +kernel
theorem dX10_step_124 : decode cX10_step 124 = .ok (.goto 4, 3) := by decide +kernel
theorem dX10_step_127 : decode cX10_step 127 = .ok (.iconst 1, 1) := by decide +kernel
theorem dX10_step_128 : decode cX10_step 128 = .ok (.putfield 17, 3) := by decide +kernel
theorem dX10_step_131 : decode cX10_step 131 = .ok (.aload_n 0, 1) := by decide +kernel
theorem dX10_step_132 : decode cX10_step 132 = .ok (.dup, 1) := by decide +kernel
theorem dX10_step_133 : decode cX10_step 133 = .ok (.getfield 30, 3) := by decide +kernel
theorem dX10_step_136 : decode cX10_step 136 = .ok (.iconst 1, 1) := by decide +kernel
theorem dX10_step_137 : decode cX10_step 137 = .ok (.iadd, 1) := by decide +kernel
theorem dX10_step_138 : decode cX10_step 138 = .ok (.putfield 30, 3) := by decide +kernel
theorem dX10_step_141 : decode cX10_step 141 = .ok (.return_, 1) := by decide +kernel
theorem dX10_readWord_0 : decode cX10_readWord 0 = .ok (.lconst 0, 1) := by decide +kernel
theorem dX10_readWord_1 : decode cX10_readWord 1 = .ok (.lstore_n 1, 1) := by decide +kernel
theorem dX10_readWord_2 : decode cX10_readWord 2 = .ok (.iconst 0, 1) := by decide +kernel
theorem dX10_readWord_3 : decode cX10_readWord 3 = .ok (.istore_n 3, 1) := by decide +kernel
theorem dX10_readWord_4 : decode cX10_readWord 4 = .ok (.aload_n 0, 1) := by decide +kernel
theorem dX10_readWord_5 : decode cX10_readWord 5 = .ok (.getfield 30, 3) := by decide +kernel
theorem dX10_readWord_8 : decode cX10_readWord 8 = .ok (.aload_n 0, 1) := by decide +kernel
theorem dX10_readWord_9 : decode cX10_readWord 9 = .ok (.getfield 13, 3) := by decide +kernel
theorem dX10_readWord_12 : decode cX10_readWord 12 = .ok (.if_icmp .ge 48, 3) := by decide +kernel
theorem dX10_readWord_15 : decode cX10_readWord 15 = .ok (.aload_n 0, 1) := by decide +kernel
theorem dX10_readWord_16 : decode cX10_readWord 16 = .ok (.getfield 9, 3) := by decide +kernel
theorem dX10_readWord_19 : decode cX10_readWord 19 = .ok (.aload_n 0, 1) := by decide +kernel
theorem dX10_readWord_20 : decode cX10_readWord 20 = .ok (.getfield 30, 3) := by decide +kernel
theorem dX10_readWord_23 : decode cX10_readWord 23 = .ok (.baload, 1) := by decide +kernel
theorem dX10_readWord_24 : decode cX10_readWord 24 = .ok (.invokestatic 48, 3) := by decide +kernel
theorem dX10_readWord_27 : decode cX10_readWord 27 = .ok (.ifCond .eq 33, 3) := by decide +kernel
theorem dX10_readWord_30 : decode cX10_readWord 30 = .ok (.lload_n 1, 1) := by decide +kernel
theorem dX10_readWord_31 : decode cX10_readWord 31 = .ok (.aload_n 0, 1) := by decide +kernel
theorem dX10_readWord_32 : decode cX10_readWord 32 = .ok (.getfield 9, 3) := by decide +kernel
theorem dX10_readWord_35 : decode cX10_readWord 35 = .ok (.aload_n 0, 1) := by decide +kernel
theorem dX10_readWord_36 : decode cX10_readWord 36 = .ok (.getfield 30, 3) := by decide +kernel
theorem dX10_readWord_39 : decode cX10_readWord 39 = .ok (.baload, 1) := by decide +kernel
theorem dX10_readWord_40 : decode cX10_readWord 40 = .ok (.invokestatic 52, 3) := by decide +kernel
theorem dX10_readWord_43 : decode cX10_readWord 43 = .ok (.lstore_n 1, 1) := by decide +kernel
theorem dX10_readWord_44 : decode cX10_readWord 44 = .ok (.iinc 3 1, 3) := by decide +kernel
theorem dX10_readWord_47 : decode cX10_readWord 47 = .ok (.aload_n 0, 1) := by decide +kernel
theorem dX10_readWord_48 : decode cX10_readWord 48 = .ok (.dup, 1) := by decide +kernel
theorem dX10_readWord_49 : decode cX10_readWord 49 = .ok (.getfield 30, 3) := by decide +kernel
theorem dX10_readWord_52 : decode cX10_readWord 52 = .ok (.iconst 1, 1) := by decide +kernel
theorem dX10_readWord_53 : decode cX10_readWord 53 = .ok (.iadd, 1) := by decide +kernel
theorem dX10_readWord_54 : decode cX10_readWord 54 = .ok (.putfield 30, 3) := by decide +kernel
theorem dX10_readWord_57 : decode cX10_readWord 57 = .ok (.goto (-53), 3) := by decide +kernel
theorem dX10_readWord_60 : decode cX10_readWord 60 = .ok (.aload_n 0, 1) := by decide +kernel
theorem dX10_readWord_61 : decode cX10_readWord 61 = .ok (.lload_n 1, 1) := by decide +kernel
theorem dX10_readWord_62 : decode cX10_readWord 62 = .ok (.putfield 26, 3) := by decide +kernel
theorem dX10_readWord_65 : decode cX10_readWord 65 = .ok (.aload_n 0, 1) := by decide +kernel
theorem dX10_readWord_66 : decode cX10_readWord 66 = .ok (.iload_n 3, 1) := by decide +kernel
theorem dX10_readWord_67 : decode cX10_readWord 67 = .ok (.bipush 8, 2) := by decide +kernel
theorem dX10_readWord_69 : decode cX10_readWord 69 = .ok (.if_icmp .gt 7, 3) := by decide +kernel
theorem dX10_readWord_72 : decode cX10_readWord 72 = .ok (.iconst 2, 1) := by decide +kernel
theorem dX10_readWord_73 : decode cX10_readWord 73 = .ok (.goto 4, 3) := by decide +kernel
theorem dX10_readWord_76 : decode cX10_readWord 76 = .ok (.iconst 1, 1) := by decide +kernel
theorem dX10_readWord_77 : decode cX10_readWord 77 = .ok (.putfield 17, 3) := by decide +kernel
theorem dX10_readWord_80 : decode cX10_readWord 80 = .ok (.iconst 0, 1) := by decide +kernel
theorem dX10_readWord_81 : decode cX10_readWord 81 = .ok (.istore 4, 2) := by decide +kernel
theorem dX10_readWord_83 : decode cX10_readWord 83 = .ok (.iload 4, 2) := by decide +kernel
theorem dX10_readWord_85 : decode cX10_readWord 85 = .ok (.bipush 20, 2) := by decide +kernel
theorem dX10_readWord_87 : decode cX10_readWord 87 = .ok (.if_icmp .ge 38, 3) := by decide +kernel
theorem dX10_readWord_90 : decode cX10_readWord 90 = .ok (.aload_n 0, 1) := by decide +kernel
theorem dX10_readWord_91 : decode cX10_readWord 91 = .ok (.getfield 17, 3) := by decide +kernel
theorem dX10_readWord_94 : decode cX10_readWord 94 = .ok (.iconst 2, 1) := by decide +kernel
theorem dX10_readWord_95 : decode cX10_readWord 95 = .ok (.if_icmp .ne 30, 3) := by decide +kernel
theorem dX10_readWord_98 : decode cX10_readWord 98 = .ok (.aload_n 0, 1) := by decide +kernel
theorem dX10_readWord_99 : decode cX10_readWord 99 = .ok (.getfield 33, 3) := by decide +kernel
theorem dX10_readWord_102 : decode cX10_readWord 102 = .ok (.iload 4, 2) := by decide +kernel
theorem dX10_readWord_104 : decode cX10_readWord 104 = .ok (.laload, 1) := by decide +kernel
theorem dX10_readWord_105 : decode cX10_readWord 105 = .ok (.lload_n 1, 1) := by decide +kernel
theorem dX10_readWord_106 : decode cX10_readWord 106 = .ok (.lcmp, 1) := by decide +kernel
theorem dX10_readWord_107 : decode cX10_readWord 107 = .ok (.ifCond .ne 12, 3) := by decide +kernel
theorem dX10_readWord_110 : decode cX10_readWord 110 = .ok (.aload_n 0, 1) := by decide +kernel
theorem dX10_readWord_111 : decode cX10_readWord 111 = .ok (.bipush 100, 2) := by decide +kernel
theorem dX10_readWord_113 : decode cX10_readWord 113 = .ok (.iload 4, 2) := by decide +kernel
theorem dX10_readWord_115 : decode cX10_readWord 115 = .ok (.iadd, 1) := by decide +kernel
theorem dX10_readWord_116 : decode cX10_readWord 116 = .ok (.putfield 17, 3) := by decide +kernel
theorem dX10_readWord_119 : decode cX10_readWord 119 = .ok (.iinc 4 1, 3) := by decide +kernel
theorem dX10_readWord_122 : decode cX10_readWord 122 = .ok (.goto (-39), 3) := by decide +kernel
theorem dX10_readWord_125 : decode cX10_readWord 125 = .ok (.return_, 1) := by decide +kernel
theorem dX10_readNumber_0 : decode cX10_readNumber 0 = .ok (.iconst 0, 1) := by decide +kernel
theorem dX10_readNumber_1 : decode cX10_readNumber 1 = .ok (.istore_n 1, 1) := by decide +kernel
theorem dX10_readNumber_2 : decode cX10_readNumber 2 = .ok (.aload_n 0, 1) := by decide +kernel
theorem dX10_readNumber_3 : decode cX10_readNumber 3 = .ok (.iconst 0, 1) := by decide +kernel
theorem dX10_readNumber_4 : decode cX10_readNumber 4 = .ok (.putfield 23, 3) := by decide +kernel
theorem dX10_readNumber_7 : decode cX10_readNumber 7 = .ok (.aload_n 0, 1) := by decide +kernel
theorem dX10_readNumber_8 : decode cX10_readNumber 8 = .ok (.getfield 30, 3) := by decide +kernel
theorem dX10_readNumber_11 : decode cX10_readNumber 11 = .ok (.aload_n 0, 1) := by decide +kernel
theorem dX10_readNumber_12 : decode cX10_readNumber 12 = .ok (.getfield 13, 3) := by decide +kernel
theorem dX10_readNumber_15 : decode cX10_readNumber 15 = .ok (.if_icmp .ge 58, 3) := by decide +kernel
theorem dX10_readNumber_18 : decode cX10_readNumber 18 = .ok (.aload_n 0, 1) := by decide +kernel
theorem dX10_readNumber_19 : decode cX10_readNumber 19 = .ok (.getfield 9, 3) := by decide +kernel
theorem dX10_readNumber_22 : decode cX10_readNumber 22 = .ok (.aload_n 0, 1) := by decide +kernel
theorem dX10_readNumber_23 : decode cX10_readNumber 23 = .ok (.getfield 30, 3) := by decide +kernel
theorem dX10_readNumber_26 : decode cX10_readNumber 26 = .ok (.baload, 1) := by decide +kernel
theorem dX10_readNumber_27 : decode cX10_readNumber 27 = .ok (.invokestatic 62, 3) := by decide +kernel
theorem dX10_readNumber_30 : decode cX10_readNumber 30 = .ok (.ifCond .eq 43, 3) := by decide +kernel
theorem dX10_readNumber_33 : decode cX10_readNumber 33 = .ok (.aload_n 0, 1) := by decide +kernel
theorem dX10_readNumber_34 : decode cX10_readNumber 34 = .ok (.aload_n 0, 1) := by decide +kernel
theorem dX10_readNumber_35 : decode cX10_readNumber 35 = .ok (.getfield 23, 3) := by decide +kernel
theorem dX10_readNumber_38 : decode cX10_readNumber 38 = .ok (.bipush 10, 2) := by decide +kernel
theorem dX10_readNumber_40 : decode cX10_readNumber 40 = .ok (.imul, 1) := by decide +kernel
theorem dX10_readNumber_41 : decode cX10_readNumber 41 = .ok (.aload_n 0, 1) := by decide +kernel
theorem dX10_readNumber_42 : decode cX10_readNumber 42 = .ok (.getfield 9, 3) := by decide +kernel
theorem dX10_readNumber_45 : decode cX10_readNumber 45 = .ok (.aload_n 0, 1) := by decide +kernel
theorem dX10_readNumber_46 : decode cX10_readNumber 46 = .ok (.getfield 30, 3) := by decide +kernel
theorem dX10_readNumber_49 : decode cX10_readNumber 49 = .ok (.baload, 1) := by decide +kernel
theorem dX10_readNumber_50 : decode cX10_readNumber 50 = .ok (.iadd, 1) := by decide +kernel
theorem dX10_readNumber_51 : decode cX10_readNumber 51 = .ok (.bipush 48, 2) := by decide +kernel
theorem dX10_readNumber_53 : decode cX10_readNumber 53 = .ok (.isub, 1) := by decide +kernel
theorem dX10_readNumber_54 : decode cX10_readNumber 54 = .ok (.putfield 23, 3) := by decide +kernel
theorem dX10_readNumber_57 : decode cX10_readNumber 57 = .ok (.iinc 1 1, 3) := by decide +kernel
theorem dX10_readNumber_60 : decode cX10_readNumber 60 = .ok (.aload_n 0, 1) := by decide +kernel
theorem dX10_readNumber_61 : decode cX10_readNumber 61 = .ok (.dup, 1) := by decide +kernel
theorem dX10_readNumber_62 : decode cX10_readNumber 62 = .ok (.getfield 30, 3) := by decide +kernel
theorem dX10_readNumber_65 : decode cX10_readNumber 65 = .ok (.iconst 1, 1) := by decide +kernel
theorem dX10_readNumber_66 : decode cX10_readNumber 66 = .ok (.iadd, 1) := by decide +kernel
theorem dX10_readNumber_67 : decode cX10_readNumber 67 = .ok (.putfield 30, 3) := by decide +kernel
theorem dX10_readNumber_70 : decode cX10_readNumber 70 = .ok (.goto (-63), 3) := by decide +kernel
theorem dX10_readNumber_73 : decode cX10_readNumber 73 = .ok (.aload_n 0, 1) := by decide +kernel
theorem dX10_readNumber_74 : decode cX10_readNumber 74 = .ok (.getfield 30, 3) := by decide +kernel
theorem dX10_readNumber_77 : decode cX10_readNumber 77 = .ok (.aload_n 0, 1) := by decide +kernel
theorem dX10_readNumber_78 : decode cX10_readNumber 78 = .ok (.getfield 13, 3) := by decide +kernel
theorem dX10_readNumber_81 : decode cX10_readNumber 81 = .ok (.if_icmp .ge 22, 3) := by decide +kernel
theorem dX10_readNumber_84 : decode cX10_readNumber 84 = .ok (.aload_n 0, 1) := by decide +kernel
theorem dX10_readNumber_85 : decode cX10_readNumber 85 = .ok (.getfield 9, 3) := by decide +kernel
theorem dX10_readNumber_88 : decode cX10_readNumber 88 = .ok (.aload_n 0, 1) := by decide +kernel
theorem dX10_readNumber_89 : decode cX10_readNumber 89 = .ok (.getfield 30, 3) := by decide +kernel
theorem dX10_readNumber_92 : decode cX10_readNumber 92 = .ok (.baload, 1) := by decide +kernel
theorem dX10_readNumber_93 : decode cX10_readNumber 93 = .ok (.invokestatic 48, 3) := by decide +kernel
theorem dX10_readNumber_96 : decode cX10_readNumber 96 = .ok (.ifCond .eq 7, 3) := by decide +kernel
theorem dX10_readNumber_99 : decode cX10_readNumber 99 = .ok (.iconst 1, 1) := by decide +kernel
theorem dX10_readNumber_100 : decode cX10_readNumber 100 = .ok (.goto 4, 3) := by decide +kernel
theorem dX10_readNumber_103 : decode cX10_readNumber 103 = .ok (.iconst 0, 1) := by decide +kernel
theorem dX10_readNumber_104 : decode cX10_readNumber 104 = .ok (.istore_n 2, 1) := by decide +kernel
theorem dX10_readNumber_105 : decode cX10_readNumber 105 = .ok (.aload_n 0, 1) := by decide +kernel
theorem dX10_readNumber_106 : decode cX10_readNumber 106 = .ok (.iload_n 1, 1) := by decide +kernel
theorem dX10_readNumber_107 : decode cX10_readNumber 107 = .ok (.iconst 4, 1) := by decide +kernel
theorem dX10_readNumber_108 : decode cX10_readNumber 108 = .ok (.if_icmp .gt 11, 3) := by decide +kernel
theorem dX10_readNumber_111 : decode cX10_readNumber 111 = .ok (.iload_n 2, 1) := by decide +kernel
theorem dX10_readNumber_112 : decode cX10_readNumber 112 = .ok (.ifCond .ne 7, 3) := by decide +kernel
theorem dX10_readNumber_115 : decode cX10_readNumber 115 = .ok (.iconst 3, 1) := by decide +kernel
theorem dX10_readNumber_116 : decode cX10_readNumber 116 = .ok (.goto 4, 3) := by decide +kernel
theorem dX10_readNumber_119 : decode cX10_readNumber 119 = .ok (.iconst 1, 1) := by decide +kernel
theorem dX10_readNumber_120 : decode cX10_readNumber 120 = .ok (.putfield 17, 3) := by decide +kernel
theorem dX10_readNumber_123 : decode cX10_readNumber 123 = .ok (.return_, 1) := by decide +kernel
theorem dX10_withLetter_0 : decode cX10_withLetter 0 = .ok (.lload_n 0, 1) := by decide +kernel
theorem dX10_withLetter_1 : decode cX10_withLetter 1 = .ok (.ldc2_w 71, 3) := by decide +kernel
theorem dX10_withLetter_4 : decode cX10_withLetter 4 = .ok (.lmul, 1) := by decide +kernel
theorem dX10_withLetter_5 : decode cX10_withLetter 5 = .ok (.iload_n 2, 1) := by decide +kernel
theorem dX10_withLetter_6 : decode cX10_withLetter 6 = .ok (.i2l, 1) := by decide +kernel
theorem dX10_withLetter_7 : decode cX10_withLetter 7 = .ok (.ladd, 1) := by decide +kernel
theorem dX10_withLetter_8 : decode cX10_withLetter 8 = .ok (.ldc2_w 73, 3) := by decide +kernel
theorem dX10_withLetter_11 : decode cX10_withLetter 11 = .ok (.lsub, 1) := by decide +kernel
theorem dX10_withLetter_12 : decode cX10_withLetter 12 = .ok (.lconst 1, 1) := by decide +kernel
theorem dX10_withLetter_13 : decode cX10_withLetter 13 = .ok (.ladd, 1) := by decide +kernel
theorem dX10_withLetter_14 : decode cX10_withLetter 14 = .ok (.lreturn, 1) := by decide +kernel
theorem dX10_isLetter_0 : decode cX10_isLetter 0 = .ok (.iload_n 0, 1) := by decide +kernel
theorem dX10_isLetter_1 : decode cX10_isLetter 1 = .ok (.bipush 97, 2) := by decide +kernel
theorem dX10_isLetter_3 : decode cX10_isLetter 3 = .ok (.if_icmp .lt 13, 3) := by decide +kernel
theorem dX10_isLetter_6 : decode cX10_isLetter 6 = .ok (.iload_n 0, 1) := by decide +kernel
theorem dX10_isLetter_7 : decode cX10_isLetter 7 = .ok (.bipush 122, 2) := by decide +kernel
theorem dX10_isLetter_9 : decode cX10_isLetter 9 = .ok (.if_icmp .gt 7, 3) := by decide +kernel
theorem dX10_isLetter_12 : decode cX10_isLetter 12 = .ok (.iconst 1, 1) := by decide +kernel
theorem dX10_isLetter_13 : decode cX10_isLetter 13 = .ok (.goto 4, 3) := by decide +kernel
theorem dX10_isLetter_16 : decode cX10_isLetter 16 = .ok (.iconst 0, 1) := by decide +kernel
theorem dX10_isLetter_17 : decode cX10_isLetter 17 = .ok (.ireturn, 1) := by decide +kernel
theorem dX10_isDigit_0 : decode cX10_isDigit 0 = .ok (.iload_n 0, 1) := by decide +kernel
theorem dX10_isDigit_1 : decode cX10_isDigit 1 = .ok (.bipush 48, 2) := by decide +kernel
theorem dX10_isDigit_3 : decode cX10_isDigit 3 = .ok (.if_icmp .lt 13, 3) := by decide +kernel
theorem dX10_isDigit_6 : decode cX10_isDigit 6 = .ok (.iload_n 0, 1) := by decide +kernel
theorem dX10_isDigit_7 : decode cX10_isDigit 7 = .ok (.bipush 57, 2) := by decide +kernel
theorem dX10_isDigit_9 : decode cX10_isDigit 9 = .ok (.if_icmp .gt 7, 3) := by decide +kernel
theorem dX10_isDigit_12 : decode cX10_isDigit 12 = .ok (.iconst 1, 1) := by decide +kernel
theorem dX10_isDigit_13 : decode cX10_isDigit 13 = .ok (.goto 4, 3) := by decide +kernel
theorem dX10_isDigit_16 : decode cX10_isDigit 16 = .ok (.iconst 0, 1) := by decide +kernel
theorem dX10_isDigit_17 : decode cX10_isDigit 17 = .ok (.ireturn, 1) := by decide +kernel
theorem dX10_isSign_0 : decode cX10_isSign 0 = .ok (.iload_n 0, 1) := by decide +kernel
theorem dX10_isSign_1 : decode cX10_isSign 1 = .ok (.tableswitch 121 37 62 #[119, 121, 121, 119, 119, 119, 119, 121, 119, 121, 119, 121, 121, 121, 121, 121, 121, 121, 121, 121, 121, 121, 119, 119, 119, 119], 119) := by decide +kernel
theorem dX10_isSign_120 : decode cX10_isSign 120 = .ok (.iconst 1, 1) := by decide +kernel
theorem dX10_isSign_121 : decode cX10_isSign 121 = .ok (.ireturn, 1) := by decide +kernel
theorem dX10_isSign_122 : decode cX10_isSign 122 = .ok (.iconst 0, 1) := by decide +kernel
theorem dX10_isSign_123 : decode cX10_isSign 123 = .ok (.ireturn, 1) := by decide +kernel
theorem dX11_init_0 : decode cX11_init 0 = .ok (.aload_n 0, 1) := by decide +kernel
theorem dX11_init_1 : decode cX11_init 1 = .ok (.invokespecial 1, 3) := by decide +kernel
theorem dX11_init_4 : decode cX11_init 4 = .ok (.aload_n 0, 1) := by decide +kernel
theorem dX11_init_5 : decode cX11_init 5 = .ok (.new 7, 3) := by decide +kernel
theorem dX11_init_8 : decode cX11_init 8 = .ok (.dup, 1) := by decide +kernel
theorem dX11_init_9 : decode cX11_init 9 = .ok (.invokespecial 9, 3) := by decide +kernel
theorem dX11_init_12 : decode cX11_init 12 = .ok (.putfield 10, 3) := by decide +kernel
theorem dX11_init_15 : decode cX11_init 15 = .ok (.aload_n 0, 1) := by decide +kernel
theorem dX11_init_16 : decode cX11_init 16 = .ok (.new 16, 3) := by decide +kernel
theorem dX11_init_19 : decode cX11_init 19 = .ok (.dup, 1) := by decide +kernel
theorem dX11_init_20 : decode cX11_init 20 = .ok (.aload_n 0, 1) := by decide +kernel
theorem dX11_init_21 : decode cX11_init 21 = .ok (.getfield 10, 3) := by decide +kernel
theorem dX11_init_24 : decode cX11_init 24 = .ok (.invokespecial 18, 3) := by decide +kernel
theorem dX11_init_27 : decode cX11_init 27 = .ok (.putfield 21, 3) := by decide +kernel
theorem dX11_init_30 : decode cX11_init 30 = .ok (.aload_n 0, 1) := by decide +kernel
theorem dX11_init_31 : decode cX11_init 31 = .ok (.new 25, 3) := by decide +kernel
theorem dX11_init_34 : decode cX11_init 34 = .ok (.dup, 1) := by decide +kernel
theorem dX11_init_35 : decode cX11_init 35 = .ok (.invokespecial 27, 3) := by decide +kernel
theorem dX11_init_38 : decode cX11_init 38 = .ok (.putfield 28, 3) := by decide +kernel
theorem dX11_init_41 : decode cX11_init 41 = .ok (.aload_n 0, 1) := by decide +kernel
theorem dX11_init_42 : decode cX11_init 42 = .ok (.new 32, 3) := by decide +kernel
theorem dX11_init_45 : decode cX11_init 45 = .ok (.dup, 1) := by decide +kernel
theorem dX11_init_46 : decode cX11_init 46 = .ok (.aload_n 0, 1) := by decide +kernel
theorem dX11_init_47 : decode cX11_init 47 = .ok (.getfield 28, 3) := by decide +kernel
theorem dX11_init_50 : decode cX11_init 50 = .ok (.invokespecial 34, 3) := by decide +kernel
theorem dX11_init_53 : decode cX11_init 53 = .ok (.putfield 37, 3) := by decide +kernel
theorem dX11_init_56 : decode cX11_init 56 = .ok (.aload_n 0, 1) := by decide +kernel
theorem dX11_init_57 : decode cX11_init 57 = .ok (.new 41, 3) := by decide +kernel
theorem dX11_init_60 : decode cX11_init 60 = .ok (.dup, 1) := by decide +kernel
theorem dX11_init_61 : decode cX11_init 61 = .ok (.aload_n 0, 1) := by decide +kernel
theorem dX11_init_62 : decode cX11_init 62 = .ok (.getfield 28, 3) := by decide +kernel
theorem dX11_init_65 : decode cX11_init 65 = .ok (.invokespecial 43, 3) := by decide +kernel
theorem dX11_init_68 : decode cX11_init 68 = .ok (.putfield 44, 3) := by decide +kernel
theorem dX11_init_71 : decode cX11_init 71 = .ok (.aload_n 0, 1) := by decide +kernel
theorem dX11_init_72 : decode cX11_init 72 = .ok (.new 48, 3) := by decide +kernel
theorem dX11_init_75 : decode cX11_init 75 = .ok (.dup, 1) := by decide +kernel
theorem dX11_init_76 : decode cX11_init 76 = .ok (.aload_n 0, 1) := by decide +kernel
theorem dX11_init_77 : decode cX11_init 77 = .ok (.getfield 28, 3) := by decide +kernel
theorem dX11_init_80 : decode cX11_init 80 = .ok (.invokespecial 50, 3) := by decide +kernel
theorem dX11_init_83 : decode cX11_init 83 = .ok (.putfield 51, 3) := by decide +kernel
theorem dX11_init_86 : decode cX11_init 86 = .ok (.aload_n 0, 1) := by decide +kernel
theorem dX11_init_87 : decode cX11_init 87 = .ok (.new 55, 3) := by decide +kernel
theorem dX11_init_90 : decode cX11_init 90 = .ok (.dup, 1) := by decide +kernel
theorem dX11_init_91 : decode cX11_init 91 = .ok (.aload_n 0, 1) := by decide +kernel
theorem dX11_init_92 : decode cX11_init 92 = .ok (.getfield 28, 3) := by decide +kernel
theorem dX11_init_95 : decode cX11_init 95 = .ok (.aload_n 0, 1) := by decide +kernel
theorem dX11_init_96 : decode cX11_init 96 = .ok (.getfield 37, 3) := by decide +kernel
theorem dX11_init_99 : decode cX11_init 99 = .ok (.aload_n 0, 1) := by decide +kernel
theorem dX11_init_100 : decode cX11_init 100 = .ok (.getfield 44, 3) := by decide +kernel
theorem dX11_init_103 : decode cX11_init 103 = .ok (.invokespecial 57, 3) := by decide +kernel
theorem dX11_init_106 : decode cX11_init 106 = .ok (.putfield 60, 3) := by decide +kernel
theorem dX11_init_109 : decode cX11_init 109 = .ok (.aload_n 0, 1) := by decide +kernel
theorem dX11_init_110 : decode cX11_init 110 = .ok (.new 64, 3) := by decide +kernel
theorem dX11_init_113 : decode cX11_init 113 = .ok (.dup, 1) := by decide +kernel
theorem dX11_init_114 : decode cX11_init 114 = .ok (.aload_n 0, 1) := by decide +kernel
theorem dX11_init_115 : decode cX11_init 115 = .ok (.getfield 28, 3) := by decide +kernel
theorem dX11_init_118 : decode cX11_init 118 = .ok (.aload_n 0, 1) := by decide +kernel
theorem dX11_init_119 : decode cX11_init 119 = .ok (.getfield 37, 3) := by decide +kernel
theorem dX11_init_122 : decode cX11_init 122 = .ok (.invokespecial 66, 3) := by decide +kernel
theorem dX11_init_125 : decode cX11_init 125 = .ok (.putfield 69, 3) := by decide +kernel
theorem dX11_init_128 : decode cX11_init 128 = .ok (.aload_n 0, 1) := by decide +kernel
theorem dX11_init_129 : decode cX11_init 129 = .ok (.new 73, 3) := by decide +kernel
theorem dX11_init_132 : decode cX11_init 132 = .ok (.dup, 1) := by decide +kernel
theorem dX11_init_133 : decode cX11_init 133 = .ok (.aload_n 0, 1) := by decide +kernel
theorem dX11_init_134 : decode cX11_init 134 = .ok (.getfield 37, 3) := by decide +kernel
theorem dX11_init_137 : decode cX11_init 137 = .ok (.invokespecial 75, 3) := by decide +kernel
theorem dX11_init_140 : decode cX11_init 140 = .ok (.putfield 78, 3) := by decide +kernel
theorem dX11_init_143 : decode cX11_init 143 = .ok (.aload_n 0, 1) := by decide +kernel
theorem dX11_init_144 : decode cX11_init 144 = .ok (.new 82, 3) := by decide +kernel
theorem dX11_init_147 : decode cX11_init 147 = .ok (.dup, 1) := by decide +kernel
theorem dX11_init_148 : decode cX11_init 148 = .ok (.aload_n 0, 1) := by decide +kernel
theorem dX11_init_149 : decode cX11_init 149 = .ok (.getfield 28, 3) := by decide +kernel
theorem dX11_init_152 : decode cX11_init 152 = .ok (.aload_n 0, 1) := by decide +kernel
theorem dX11_init_153 : decode cX11_init 153 = .ok (.getfield 44, 3) := by decide +kernel
theorem dX11_init_156 : decode cX11_init 156 = .ok (.invokespecial 84, 3) := by decide +kernel
theorem dX11_init_159 : decode cX11_init 159 = .ok (.putfield 87, 3) := by decide +kernel
theorem dX11_init_162 : decode cX11_init 162 = .ok (.aload_n 0, 1) := by decide +kernel
theorem dX11_init_163 : decode cX11_init 163 = .ok (.bipush 7, 2) := by decide +kernel
theorem dX11_init_165 : decode cX11_init 165 = .ok (.newarray .int, 2) := by decide +kernel
theorem dX11_init_167 : decode cX11_init 167 = .ok (.putfield 91, 3) := by decide +kernel
theorem dX11_init_170 : decode cX11_init 170 = .ok (.aload_n 0, 1) := by decide +kernel
theorem dX11_init_171 : decode cX11_init 171 = .ok (.iconst 0, 1) := by decide +kernel
theorem dX11_init_172 : decode cX11_init 172 = .ok (.putfield 95, 3) := by decide +kernel
theorem dX11_init_175 : decode cX11_init 175 = .ok (.aload_n 0, 1) := by decide +kernel
theorem dX11_init_176 : decode cX11_init 176 = .ok (.getfield 37, 3) := by decide +kernel
theorem dX11_init_179 : decode cX11_init 179 = .ok (.invokevirtual 99, 3) := by decide +kernel
theorem dX11_init_182 : decode cX11_init 182 = .ok (.return_, 1) := by decide +kernel
theorem dX11_feed_0 : decode cX11_feed 0 = .ok (.aload_n 0, 1) := by decide +kernel
theorem dX11_feed_1 : decode cX11_feed 1 = .ok (.getfield 10, 3) := by decide +kernel
theorem dX11_feed_4 : decode cX11_feed 4 = .ok (.getfield 102, 3) := by decide +kernel
theorem dX11_feed_7 : decode cX11_feed 7 = .ok (.bipush 20, 2) := by decide +kernel
theorem dX11_feed_9 : decode cX11_feed 9 = .ok (.iadd, 1) := by decide +kernel
theorem dX11_feed_10 : decode cX11_feed 10 = .ok (.sipush 1600, 3) := by decide +kernel
theorem dX11_feed_13 : decode cX11_feed 13 = .ok (.if_icmp .le 5, 3) := by decide +kernel
theorem dX11_feed_16 : decode cX11_feed 16 = .ok (.iconst (-1), 1) := by decide +kernel
theorem dX11_feed_17 : decode cX11_feed 17 = .ok (.ireturn, 1) := by decide +kernel
theorem dX11_feed_18 : decode cX11_feed 18 = .ok (.aload_n 0, 1) := by decide +kernel
theorem dX11_feed_19 : decode cX11_feed 19 = .ok (.getfield 10, 3) := by decide +kernel
theorem dX11_feed_22 : decode cX11_feed 22 = .ok (.iload_n 1, 1) := by decide +kernel
theorem dX11_feed_23 : decode cX11_feed 23 = .ok (.invokevirtual 105, 3) := by decide +kernel
theorem dX11_feed_26 : decode cX11_feed 26 = .ok (.aload_n 0, 1) := by decide +kernel
theorem dX11_feed_27 : decode cX11_feed 27 = .ok (.getfield 10, 3) := by decide +kernel
theorem dX11_feed_30 : decode cX11_feed 30 = .ok (.iload_n 2, 1) := by decide +kernel
theorem dX11_feed_31 : decode cX11_feed 31 = .ok (.invokevirtual 105, 3) := by decide +kernel
theorem dX11_feed_34 : decode cX11_feed 34 = .ok (.aload_n 0, 1) := by decide +kernel
theorem dX11_feed_35 : decode cX11_feed 35 = .ok (.getfield 10, 3) := by decide +kernel
theorem dX11_feed_38 : decode cX11_feed 38 = .ok (.iload_n 3, 1) := by decide +kernel
theorem dX11_feed_39 : decode cX11_feed 39 = .ok (.invokevirtual 105, 3) := by decide +kernel
theorem dX11_feed_42 : decode cX11_feed 42 = .ok (.aload_n 0, 1) := by decide +kernel
theorem dX11_feed_43 : decode cX11_feed 43 = .ok (.getfield 10, 3) := by decide +kernel
theorem dX11_feed_46 : decode cX11_feed 46 = .ok (.iload 4, 2) := by decide +kernel
theorem dX11_feed_48 : decode cX11_feed 48 = .ok (.invokevirtual 105, 3) := by decide +kernel
theorem dX11_feed_51 : decode cX11_feed 51 = .ok (.aload_n 0, 1) := by decide +kernel
theorem dX11_feed_52 : decode cX11_feed 52 = .ok (.getfield 10, 3) := by decide +kernel
theorem dX11_feed_55 : decode cX11_feed 55 = .ok (.iload 5, 2) := by decide +kernel
theorem dX11_feed_57 : decode cX11_feed 57 = .ok (.invokevirtual 105, 3) := by decide +kernel
theorem dX11_feed_60 : decode cX11_feed 60 = .ok (.aload_n 0, 1) := by decide +kernel
theorem dX11_feed_61 : decode cX11_feed 61 = .ok (.getfield 10, 3) := by decide +kernel
theorem dX11_feed_64 : decode cX11_feed 64 = .ok (.getfield 102, 3) := by decide +kernel
theorem dX11_feed_67 : decode cX11_feed 67 = .ok (.ireturn, 1) := by decide +kernel
theorem dX11_end_0 : decode cX11_end 0 = .ok (.iload_n 1, 1) := by decide +kernel
theorem dX11_end_1 : decode cX11_end 1 = .ok (.ifCond .lt 14, 3) := by decide +kernel
theorem dX11_end_4 : decode cX11_end 4 = .ok (.iload_n 1, 1) := by decide +kernel
theorem dX11_end_5 : decode cX11_end 5 = .ok (.aload_n 0, 1) := by decide +kernel
theorem dX11_end_6 : decode cX11_end 6 = .ok (.getfield 10, 3) := by decide +kernel
theorem dX11_end_9 : decode cX11_end 9 = .ok (.getfield 102, 3) := by decide +kernel
theorem dX11_end_12 : decode cX11_end 12 = .ok (.if_icmp .le 5, 3) := by decide +kernel
theorem dX11_end_15 : decode cX11_end 15 = .ok (.iconst (-1), 1) := by decide +kernel
theorem dX11_end_16 : decode cX11_end 16 = .ok (.ireturn, 1) := by decide +kernel
theorem dX11_end_17 : decode cX11_end 17 = .ok (.aload_n 0, 1) := by decide +kernel
theorem dX11_end_18 : decode cX11_end 18 = .ok (.getfield 10, 3) := by decide +kernel
theorem dX11_end_21 : decode cX11_end 21 = .ok (.iload_n 1, 1) := by decide +kernel
theorem dX11_end_22 : decode cX11_end 22 = .ok (.putfield 102, 3) := by decide +kernel
theorem dX11_end_25 : decode cX11_end 25 = .ok (.iload_n 1, 1) := by decide +kernel
theorem dX11_end_26 : decode cX11_end 26 = .ok (.ireturn, 1) := by decide +kernel
theorem dX11_wedding_0 : decode cX11_wedding 0 = .ok (.aload_n 0, 1) := by decide +kernel
theorem dX11_wedding_1 : decode cX11_wedding 1 = .ok (.getfield 21, 3) := by decide +kernel
theorem dX11_wedding_4 : decode cX11_wedding 4 = .ok (.invokevirtual 109, 3) := by decide +kernel
theorem dX11_wedding_7 : decode cX11_wedding 7 = .ok (.istore_n 1, 1) := by decide +kernel
theorem dX11_wedding_8 : decode cX11_wedding 8 = .ok (.aload_n 0, 1) := by decide +kernel
theorem dX11_wedding_9 : decode cX11_wedding 9 = .ok (.getfield 10, 3) := by decide +kernel
theorem dX11_wedding_12 : decode cX11_wedding 12 = .ok (.iconst 0, 1) := by decide +kernel
theorem dX11_wedding_13 : decode cX11_wedding 13 = .ok (.putfield 102, 3) := by decide +kernel
theorem dX11_wedding_16 : decode cX11_wedding 16 = .ok (.iload_n 1, 1) := by decide +kernel
theorem dX11_wedding_17 : decode cX11_wedding 17 = .ok (.ifCond .ne 5, 3) := by decide +kernel
theorem dX11_wedding_20 : decode cX11_wedding 20 = .ok (.iconst (-1), 1) := by decide +kernel
theorem dX11_wedding_21 : decode cX11_wedding 21 = .ok (.ireturn, 1) := by decide +kernel
theorem dX11_wedding_22 : decode cX11_wedding 22 = .ok (.aload_n 0, 1) := by decide +kernel
theorem dX11_wedding_23 : decode cX11_wedding 23 = .ok (.getfield 28, 3) := by decide +kernel
theorem dX11_wedding_26 : decode cX11_wedding 26 = .ok (.aload_n 0, 1) := by decide +kernel
theorem dX11_wedding_27 : decode cX11_wedding 27 = .ok (.getfield 21, 3) := by decide +kernel
theorem dX11_wedding_30 : decode cX11_wedding 30 = .ok (.getfield 113, 3) := by decide +kernel
theorem dX11_wedding_33 : decode cX11_wedding 33 = .ok (.invokevirtual 116, 3) := by decide +kernel
theorem dX11_wedding_36 : decode cX11_wedding 36 = .ok (.aload_n 0, 1) := by decide +kernel
theorem dX11_wedding_37 : decode cX11_wedding 37 = .ok (.getfield 37, 3) := by decide +kernel
theorem dX11_wedding_40 : decode cX11_wedding 40 = .ok (.invokevirtual 99, 3) := by decide +kernel
theorem dX11_wedding_43 : decode cX11_wedding 43 = .ok (.aload_n 0, 1) := by decide +kernel
theorem dX11_wedding_44 : decode cX11_wedding 44 = .ok (.getfield 78, 3) := by decide +kernel
theorem dX11_wedding_47 : decode cX11_wedding 47 = .ok (.invokevirtual 119, 3) := by decide +kernel
theorem dX11_wedding_50 : decode cX11_wedding 50 = .ok (.aload_n 0, 1) := by decide +kernel
theorem dX11_wedding_51 : decode cX11_wedding 51 = .ok (.getfield 78, 3) := by decide +kernel
theorem dX11_wedding_54 : decode cX11_wedding 54 = .ok (.invokevirtual 122, 3) := by decide +kernel
theorem dX11_wedding_57 : decode cX11_wedding 57 = .ok (.aload_n 0, 1) := by decide +kernel
theorem dX11_wedding_58 : decode cX11_wedding 58 = .ok (.getfield 87, 3) := by decide +kernel
theorem dX11_wedding_61 : decode cX11_wedding 61 = .ok (.invokevirtual 125, 3) := by decide +kernel
theorem dX11_wedding_64 : decode cX11_wedding 64 = .ok (.aload_n 0, 1) := by decide +kernel
theorem dX11_wedding_65 : decode cX11_wedding 65 = .ok (.iconst 0, 1) := by decide +kernel
theorem dX11_wedding_66 : decode cX11_wedding 66 = .ok (.putfield 95, 3) := by decide +kernel
theorem dX11_wedding_69 : decode cX11_wedding 69 = .ok (.aload_n 0, 1) := by decide +kernel
theorem dX11_wedding_70 : decode cX11_wedding 70 = .ok (.getfield 28, 3) := by decide +kernel
theorem dX11_wedding_73 : decode cX11_wedding 73 = .ok (.getfield 128, 3) := by decide +kernel
theorem dX11_wedding_76 : decode cX11_wedding 76 = .ok (.ireturn, 1) := by decide +kernel
theorem dX11_fault_0 : decode cX11_fault 0 = .ok (.iload_n 1, 1) := by decide +kernel
theorem dX11_fault_1 : decode cX11_fault 1 = .ok (.lookupswitch 43 #[(0, 27), (1, 35)], 27) := by decide +kernel
theorem dX11_fault_28 : decode cX11_fault 28 = .ok (.aload_n 0, 1) := by decide +kernel
theorem dX11_fault_29 : decode cX11_fault 29 = .ok (.getfield 21, 3) := by decide +kernel
theorem dX11_fault_32 : decode cX11_fault 32 = .ok (.getfield 131, 3) := by decide +kernel
theorem dX11_fault_35 : decode cX11_fault 35 = .ok (.ireturn, 1) := by decide +kernel
theorem dX11_fault_36 : decode cX11_fault 36 = .ok (.aload_n 0, 1) := by decide +kernel
theorem dX11_fault_37 : decode cX11_fault 37 = .ok (.getfield 21, 3) := by decide +kernel
theorem dX11_fault_40 : decode cX11_fault 40 = .ok (.getfield 134, 3) := by decide +kernel
theorem dX11_fault_43 : decode cX11_fault 43 = .ok (.ireturn, 1) := by decide +kernel
theorem dX11_fault_44 : decode cX11_fault 44 = .ok (.iconst (-1), 1) := by decide +kernel
theorem dX11_fault_45 : decode cX11_fault 45 = .ok (.ireturn, 1) := by decide +kernel
theorem dX11_objector_0 : decode cX11_objector 0 = .ok (.aload_n 0, 1) := by decide +kernel
theorem dX11_objector_1 : decode cX11_objector 1 = .ok (.iload_n 1, 1) := by decide +kernel
theorem dX11_objector_2 : decode cX11_objector 2 = .ok (.invokevirtual 137, 3) := by decide +kernel
theorem dX11_objector_5 : decode cX11_objector 5 = .ok (.ifCond .ne 6, 3) := by decide +kernel
theorem dX11_objector_8 : decode cX11_objector 8 = .ok (.bipush (-2), 2) := by decide +kernel
theorem dX11_objector_10 : decode cX11_objector 10 = .ok (.ireturn, 1) := by decide +kernel
theorem dX11_objector_11 : decode cX11_objector 11 = .ok (.iload_n 2, 1) := by decide +kernel
theorem dX11_objector_12 : decode cX11_objector 12 = .ok (.tableswitch 141 0 7 #[48, 57, 67, 77, 87, 111, 121, 131], 48) := by decide +kernel
theorem dX11_objector_60 : decode cX11_objector 60 = .ok (.aload_n 0, 1) := by decide +kernel
theorem dX11_objector_61 : decode cX11_objector 61 = .ok (.getfield 37, 3) := by decide +kernel
theorem dX11_objector_64 : decode cX11_objector 64 = .ok (.iload_n 1, 1) := by decide +kernel
theorem dX11_objector_65 : decode cX11_objector 65 = .ok (.invokevirtual 141, 3) := by decide +kernel
theorem dX11_objector_68 : decode cX11_objector 68 = .ok (.ireturn, 1) := by decide +kernel
theorem dX11_objector_69 : decode cX11_objector 69 = .ok (.aload_n 0, 1) := by decide +kernel
theorem dX11_objector_70 : decode cX11_objector 70 = .ok (.getfield 28, 3) := by decide +kernel
theorem dX11_objector_73 : decode cX11_objector 73 = .ok (.getfield 145, 3) := by decide +kernel
theorem dX11_objector_76 : decode cX11_objector 76 = .ok (.iload_n 1, 1) := by decide +kernel
theorem dX11_objector_77 : decode cX11_objector 77 = .ok (.iaload, 1) := by decide +kernel
theorem dX11_objector_78 : decode cX11_objector 78 = .ok (.ireturn, 1) := by decide +kernel
theorem dX11_objector_79 : decode cX11_objector 79 = .ok (.aload_n 0, 1) := by decide +kernel
theorem dX11_objector_80 : decode cX11_objector 80 = .ok (.getfield 28, 3) := by decide +kernel
theorem dX11_objector_83 : decode cX11_objector 83 = .ok (.getfield 148, 3) := by decide +kernel
theorem dX11_objector_86 : decode cX11_objector 86 = .ok (.iload_n 1, 1) := by decide +kernel
theorem dX11_objector_87 : decode cX11_objector 87 = .ok (.iaload, 1) := by decide +kernel
theorem dX11_objector_88 : decode cX11_objector 88 = .ok (.ireturn, 1) := by decide +kernel
theorem dX11_objector_89 : decode cX11_objector 89 = .ok (.aload_n 0, 1) := by decide +kernel
theorem dX11_objector_90 : decode cX11_objector 90 = .ok (.getfield 37, 3) := by decide +kernel
theorem dX11_objector_93 : decode cX11_objector 93 = .ok (.getfield 151, 3) := by decide +kernel
theorem dX11_objector_96 : decode cX11_objector 96 = .ok (.iload_n 1, 1) := by decide +kernel
theorem dX11_objector_97 : decode cX11_objector 97 = .ok (.iaload, 1) := by decide +kernel
theorem dX11_objector_98 : decode cX11_objector 98 = .ok (.ireturn, 1) := by decide +kernel
theorem dX11_objector_99 : decode cX11_objector 99 = .ok (.aload_n 0, 1) := by decide +kernel
theorem dX11_objector_100 : decode cX11_objector 100 = .ok (.getfield 37, 3) := by decide +kernel
theorem dX11_objector_103 : decode cX11_objector 103 = .ok (.iload_n 1, 1) := by decide +kernel
theorem dX11_objector_104 : decode cX11_objector 104 = .ok (.invokevirtual 154, 3) := by decide +kernel
theorem dX11_objector_107 : decode cX11_objector 107 = .ok (.ifCond .eq 14, 3) := by decide +kernel
theorem dX11_objector_110 : decode cX11_objector 110 = .ok (.aload_n 0, 1) := by decide +kernel
theorem dX11_objector_111 : decode cX11_objector 111 = .ok (.getfield 37, 3) := by decide +kernel
theorem dX11_objector_114 : decode cX11_objector 114 = .ok (.iload_n 1, 1) := by decide +kernel
theorem dX11_objector_115 : decode cX11_objector 115 = .ok (.invokevirtual 157, 3) := by decide +kernel
theorem dX11_objector_118 : decode cX11_objector 118 = .ok (.goto 4, 3) := by decide +kernel
theorem dX11_objector_121 : decode cX11_objector 121 = .ok (.iconst 0, 1) := by decide +kernel
theorem dX11_objector_122 : decode cX11_objector 122 = .ok (.ireturn, 1) := by decide +kernel
theorem dX11_objector_123 : decode cX11_objector 123 = .ok (.aload_n 0, 1) := by decide +kernel
theorem dX11_objector_124 : decode cX11_objector 124 = .ok (.getfield 28, 3) := by decide +kernel
theorem dX11_objector_127 : decode cX11_objector 127 = .ok (.getfield 160, 3) := by decide +kernel
theorem dX11_objector_130 : decode cX11_objector 130 = .ok (.iload_n 1, 1) := by decide +kernel
theorem dX11_objector_131 : decode cX11_objector 131 = .ok (.iaload, 1) := by decide +kernel
theorem dX11_objector_132 : decode cX11_objector 132 = .ok (.ireturn, 1) := by decide +kernel
theorem dX11_objector_133 : decode cX11_objector 133 = .ok (.aload_n 0, 1) := by decide +kernel
theorem dX11_objector_134 : decode cX11_objector 134 = .ok (.getfield 28, 3) := by decide +kernel
theorem dX11_objector_137 : decode cX11_objector 137 = .ok (.getfield 163, 3) := by decide +kernel
theorem dX11_objector_140 : decode cX11_objector 140 = .ok (.iload_n 1, 1) := by decide +kernel
theorem dX11_objector_141 : decode cX11_objector 141 = .ok (.iaload, 1) := by decide +kernel
theorem dX11_objector_142 : decode cX11_objector 142 = .ok (.ireturn, 1) := by decide +kernel
theorem dX11_objector_143 : decode cX11_objector 143 = .ok (.aload_n 0, 1) := by decide +kernel
theorem dX11_objector_144 : decode cX11_objector 144 = .ok (.getfield 28, 3) := by decide +kernel
theorem dX11_objector_147 : decode cX11_objector 147 = .ok (.getfield 166, 3) := by decide +kernel
theorem dX11_objector_150 : decode cX11_objector 150 = .ok (.iload_n 1, 1) := by decide +kernel
theorem dX11_objector_151 : decode cX11_objector 151 = .ok (.iaload, 1) := by decide +kernel
theorem dX11_objector_152 : decode cX11_objector 152 = .ok (.ireturn, 1) := by decide +kernel
theorem dX11_objector_153 : decode cX11_objector 153 = .ok (.bipush (-2), 2) := by decide +kernel
theorem dX11_objector_155 : decode cX11_objector 155 = .ok (.ireturn, 1) := by decide +kernel
theorem dX11_ranks_0 : decode cX11_ranks 0 = .ok (.aload_n 0, 1) := by decide +kernel
theorem dX11_ranks_1 : decode cX11_ranks 1 = .ok (.iload_n 1, 1) := by decide +kernel
theorem dX11_ranks_2 : decode cX11_ranks 2 = .ok (.invokevirtual 169, 3) := by decide +kernel
theorem dX11_ranks_5 : decode cX11_ranks 5 = .ok (.ifCond .eq 23, 3) := by decide +kernel
theorem dX11_ranks_8 : decode cX11_ranks 8 = .ok (.aload_n 0, 1) := by decide +kernel
theorem dX11_ranks_9 : decode cX11_ranks 9 = .ok (.getfield 37, 3) := by decide +kernel
theorem dX11_ranks_12 : decode cX11_ranks 12 = .ok (.iload_n 1, 1) := by decide +kernel
theorem dX11_ranks_13 : decode cX11_ranks 13 = .ok (.aload_n 0, 1) := by decide +kernel
theorem dX11_ranks_14 : decode cX11_ranks 14 = .ok (.getfield 28, 3) := by decide +kernel
theorem dX11_ranks_17 : decode cX11_ranks 17 = .ok (.getfield 145, 3) := by decide +kernel
theorem dX11_ranks_20 : decode cX11_ranks 20 = .ok (.iload_n 1, 1) := by decide +kernel
theorem dX11_ranks_21 : decode cX11_ranks 21 = .ok (.iaload, 1) := by decide +kernel
theorem dX11_ranks_22 : decode cX11_ranks 22 = .ok (.invokevirtual 172, 3) := by decide +kernel
theorem dX11_ranks_25 : decode cX11_ranks 25 = .ok (.goto 5, 3) := by decide +kernel
theorem dX11_ranks_28 : decode cX11_ranks 28 = .ok (.ldc 176, 2) := by decide +kernel
theorem dX11_ranks_30 : decode cX11_ranks 30 = .ok (.ireturn, 1) := by decide +kernel
theorem dX11_hear_0 : decode cX11_hear 0 = .ok (.aload_n 0, 1) := by decide +kernel
theorem dX11_hear_1 : decode cX11_hear 1 = .ok (.getfield 37, 3) := by decide +kernel
theorem dX11_hear_4 : decode cX11_hear 4 = .ok (.invokevirtual 177, 3) := by decide +kernel
theorem dX11_hear_7 : decode cX11_hear 7 = .ok (.istore_n 1, 1) := by decide +kernel
theorem dX11_hear_8 : decode cX11_hear 8 = .ok (.iload_n 1, 1) := by decide +kernel
theorem dX11_hear_9 : decode cX11_hear 9 = .ok (.ifCond .ge 5, 3) := by decide +kernel
theorem dX11_hear_12 : decode cX11_hear 12 = .ok (.iconst (-1), 1) := by decide +kernel
theorem dX11_hear_13 : decode cX11_hear 13 = .ok (.ireturn, 1) := by decide +kernel
theorem dX11_hear_14 : decode cX11_hear 14 = .ok (.aload_n 0, 1) := by decide +kernel
theorem dX11_hear_15 : decode cX11_hear 15 = .ok (.getfield 78, 3) := by decide +kernel
theorem dX11_hear_18 : decode cX11_hear 18 = .ok (.invokevirtual 181, 3) := by decide +kernel
theorem dX11_hear_21 : decode cX11_hear 21 = .ok (.aload_n 0, 1) := by decide +kernel
theorem dX11_hear_22 : decode cX11_hear 22 = .ok (.getfield 37, 3) := by decide +kernel
theorem dX11_hear_25 : decode cX11_hear 25 = .ok (.iload_n 1, 1) := by decide +kernel
theorem dX11_hear_26 : decode cX11_hear 26 = .ok (.invokevirtual 184, 3) := by decide +kernel
theorem dX11_hear_29 : decode cX11_hear 29 = .ok (.iload_n 1, 1) := by decide +kernel
theorem dX11_hear_30 : decode cX11_hear 30 = .ok (.ireturn, 1) := by decide +kernel
theorem dX11_buy_0 : decode cX11_buy 0 = .ok (.aload_n 0, 1) := by decide +kernel
theorem dX11_buy_1 : decode cX11_buy 1 = .ok (.iload_n 1, 1) := by decide +kernel
theorem dX11_buy_2 : decode cX11_buy 2 = .ok (.invokevirtual 169, 3) := by decide +kernel
theorem dX11_buy_5 : decode cX11_buy 5 = .ok (.ifCond .ne 5, 3) := by decide +kernel
theorem dX11_buy_8 : decode cX11_buy 8 = .ok (.iconst (-1), 1) := by decide +kernel
theorem dX11_buy_9 : decode cX11_buy 9 = .ok (.ireturn, 1) := by decide +kernel
theorem dX11_buy_10 : decode cX11_buy 10 = .ok (.aload_n 0, 1) := by decide +kernel
theorem dX11_buy_11 : decode cX11_buy 11 = .ok (.getfield 78, 3) := by decide +kernel
theorem dX11_buy_14 : decode cX11_buy 14 = .ok (.invokevirtual 181, 3) := by decide +kernel
theorem dX11_buy_17 : decode cX11_buy 17 = .ok (.aload_n 0, 1) := by decide +kernel
theorem dX11_buy_18 : decode cX11_buy 18 = .ok (.getfield 37, 3) := by decide +kernel
theorem dX11_buy_21 : decode cX11_buy 21 = .ok (.dup, 1) := by decide +kernel
theorem dX11_buy_22 : decode cX11_buy 22 = .ok (.getfield 187, 3) := by decide +kernel
theorem dX11_buy_25 : decode cX11_buy 25 = .ok (.aload_n 0, 1) := by decide +kernel
theorem dX11_buy_26 : decode cX11_buy 26 = .ok (.getfield 28, 3) := by decide +kernel
theorem dX11_buy_29 : decode cX11_buy 29 = .ok (.getfield 160, 3) := by decide +kernel
theorem dX11_buy_32 : decode cX11_buy 32 = .ok (.iload_n 1, 1) := by decide +kernel
theorem dX11_buy_33 : decode cX11_buy 33 = .ok (.iaload, 1) := by decide +kernel
theorem dX11_buy_34 : decode cX11_buy 34 = .ok (.iadd, 1) := by decide +kernel
theorem dX11_buy_35 : decode cX11_buy 35 = .ok (.putfield 187, 3) := by decide +kernel
theorem dX11_buy_38 : decode cX11_buy 38 = .ok (.aload_n 0, 1) := by decide +kernel
theorem dX11_buy_39 : decode cX11_buy 39 = .ok (.getfield 37, 3) := by decide +kernel
theorem dX11_buy_42 : decode cX11_buy 42 = .ok (.iconst 1, 1) := by decide +kernel
theorem dX11_buy_43 : decode cX11_buy 43 = .ok (.iload_n 1, 1) := by decide +kernel
theorem dX11_buy_44 : decode cX11_buy 44 = .ok (.ishl, 1) := by decide +kernel
theorem dX11_buy_45 : decode cX11_buy 45 = .ok (.iconst 0, 1) := by decide +kernel
theorem dX11_buy_46 : decode cX11_buy 46 = .ok (.iconst 5, 1) := by decide +kernel
theorem dX11_buy_47 : decode cX11_buy 47 = .ok (.invokevirtual 190, 3) := by decide +kernel
theorem dX11_buy_50 : decode cX11_buy 50 = .ok (.aload_n 0, 1) := by decide +kernel
theorem dX11_buy_51 : decode cX11_buy 51 = .ok (.getfield 37, 3) := by decide +kernel
theorem dX11_buy_54 : decode cX11_buy 54 = .ok (.getfield 187, 3) := by decide +kernel
theorem dX11_buy_57 : decode cX11_buy 57 = .ok (.ireturn, 1) := by decide +kernel
theorem dX11_pause_0 : decode cX11_pause 0 = .ok (.iload_n 1, 1) := by decide +kernel
theorem dX11_pause_1 : decode cX11_pause 1 = .ok (.iconst 1, 1) := by decide +kernel
theorem dX11_pause_2 : decode cX11_pause 2 = .ok (.if_icmp .lt 9, 3) := by decide +kernel
theorem dX11_pause_5 : decode cX11_pause 5 = .ok (.iload_n 1, 1) := by decide +kernel
theorem dX11_pause_6 : decode cX11_pause 6 = .ok (.bipush 60, 2) := by decide +kernel
theorem dX11_pause_8 : decode cX11_pause 8 = .ok (.if_icmp .le 5, 3) := by decide +kernel
theorem dX11_pause_11 : decode cX11_pause 11 = .ok (.iconst (-1), 1) := by decide +kernel
theorem dX11_pause_12 : decode cX11_pause 12 = .ok (.ireturn, 1) := by decide +kernel
theorem dX11_pause_13 : decode cX11_pause 13 = .ok (.aload_n 0, 1) := by decide +kernel
theorem dX11_pause_14 : decode cX11_pause 14 = .ok (.getfield 78, 3) := by decide +kernel
theorem dX11_pause_17 : decode cX11_pause 17 = .ok (.invokevirtual 181, 3) := by decide +kernel
theorem dX11_pause_20 : decode cX11_pause 20 = .ok (.aload_n 0, 1) := by decide +kernel
theorem dX11_pause_21 : decode cX11_pause 21 = .ok (.getfield 37, 3) := by decide +kernel
theorem dX11_pause_24 : decode cX11_pause 24 = .ok (.iload_n 1, 1) := by decide +kernel
theorem dX11_pause_25 : decode cX11_pause 25 = .ok (.invokevirtual 194, 3) := by decide +kernel
theorem dX11_pause_28 : decode cX11_pause 28 = .ok (.ireturn, 1) := by decide +kernel
theorem dX11_trade_0 : decode cX11_trade 0 = .ok (.aload_n 0, 1) := by decide +kernel
theorem dX11_trade_1 : decode cX11_trade 1 = .ok (.iload_n 1, 1) := by decide +kernel
theorem dX11_trade_2 : decode cX11_trade 2 = .ok (.invokevirtual 169, 3) := by decide +kernel
theorem dX11_trade_5 : decode cX11_trade 5 = .ok (.ifCond .eq 16, 3) := by decide +kernel
theorem dX11_trade_8 : decode cX11_trade 8 = .ok (.aload_n 0, 1) := by decide +kernel
theorem dX11_trade_9 : decode cX11_trade 9 = .ok (.iload_n 2, 1) := by decide +kernel
theorem dX11_trade_10 : decode cX11_trade 10 = .ok (.invokevirtual 169, 3) := by decide +kernel
theorem dX11_trade_13 : decode cX11_trade 13 = .ok (.ifCond .eq 8, 3) := by decide +kernel
theorem dX11_trade_16 : decode cX11_trade 16 = .ok (.iload_n 1, 1) := by decide +kernel
theorem dX11_trade_17 : decode cX11_trade 17 = .ok (.iload_n 2, 1) := by decide +kernel
theorem dX11_trade_18 : decode cX11_trade 18 = .ok (.if_icmp .ne 5, 3) := by decide +kernel
theorem dX11_trade_21 : decode cX11_trade 21 = .ok (.iconst (-1), 1) := by decide +kernel
theorem dX11_trade_22 : decode cX11_trade 22 = .ok (.ireturn, 1) := by decide +kernel
theorem dX11_trade_23 : decode cX11_trade 23 = .ok (.aload_n 0, 1) := by decide +kernel
theorem dX11_trade_24 : decode cX11_trade 24 = .ok (.getfield 78, 3) := by decide +kernel
theorem dX11_trade_27 : decode cX11_trade 27 = .ok (.invokevirtual 181, 3) := by decide +kernel
theorem dX11_trade_30 : decode cX11_trade 30 = .ok (.aload_n 0, 1) := by decide +kernel
theorem dX11_trade_31 : decode cX11_trade 31 = .ok (.getfield 37, 3) := by decide +kernel
theorem dX11_trade_34 : decode cX11_trade 34 = .ok (.iload_n 1, 1) := by decide +kernel
theorem dX11_trade_35 : decode cX11_trade 35 = .ok (.iload_n 2, 1) := by decide +kernel
theorem dX11_trade_36 : decode cX11_trade 36 = .ok (.invokevirtual 197, 3) := by decide +kernel
theorem dX11_trade_39 : decode cX11_trade 39 = .ok (.aload_n 0, 1) := by decide +kernel
theorem dX11_trade_40 : decode cX11_trade 40 = .ok (.getfield 37, 3) := by decide +kernel
theorem dX11_trade_43 : decode cX11_trade 43 = .ok (.getfield 151, 3) := by decide +kernel
theorem dX11_trade_46 : decode cX11_trade 46 = .ok (.iload_n 1, 1) := by decide +kernel
theorem dX11_trade_47 : decode cX11_trade 47 = .ok (.iaload, 1) := by decide +kernel
theorem dX11_trade_48 : decode cX11_trade 48 = .ok (.ireturn, 1) := by decide +kernel
theorem dX11_undo_0 : decode cX11_undo 0 = .ok (.aload_n 0, 1) := by decide +kernel
theorem dX11_undo_1 : decode cX11_undo 1 = .ok (.getfield 78, 3) := by decide +kernel
theorem dX11_undo_4 : decode cX11_undo 4 = .ok (.invokevirtual 201, 3) := by decide +kernel
theorem dX11_undo_7 : decode cX11_undo 7 = .ok (.ireturn, 1) := by decide +kernel
theorem dX11_redo_0 : decode cX11_redo 0 = .ok (.aload_n 0, 1) := by decide +kernel
theorem dX11_redo_1 : decode cX11_redo 1 = .ok (.getfield 78, 3) := by decide +kernel
theorem dX11_redo_4 : decode cX11_redo 4 = .ok (.invokevirtual 204, 3) := by decide +kernel
theorem dX11_redo_7 : decode cX11_redo 7 = .ok (.ireturn, 1) := by decide +kernel
theorem dX11_next_0 : decode cX11_next 0 = .ok (.aload_n 0, 1) := by decide +kernel
theorem dX11_next_1 : decode cX11_next 1 = .ok (.getfield 37, 3) := by decide +kernel
theorem dX11_next_4 : decode cX11_next 4 = .ok (.invokevirtual 177, 3) := by decide +kernel
theorem dX11_next_7 : decode cX11_next 7 = .ok (.ireturn, 1) := by decide +kernel
theorem dX11_queue_0 : decode cX11_queue 0 = .ok (.aload_n 0, 1) := by decide +kernel
theorem dX11_queue_1 : decode cX11_queue 1 = .ok (.getfield 44, 3) := by decide +kernel
theorem dX11_queue_4 : decode cX11_queue 4 = .ok (.getfield 207, 3) := by decide +kernel
theorem dX11_queue_7 : decode cX11_queue 7 = .ok (.astore_n 1, 1) := by decide +kernel
theorem dX11_queue_8 : decode cX11_queue 8 = .ok (.aload_n 1, 1) := by decide +kernel
theorem dX11_queue_9 : decode cX11_queue 9 = .ok (.aload_n 0, 1) := by decide +kernel
theorem dX11_queue_10 : decode cX11_queue 10 = .ok (.getfield 37, 3) := by decide +kernel
theorem dX11_queue_13 : decode cX11_queue 13 = .ok (.invokevirtual 210, 3) := by decide +kernel
theorem dX11_queue_16 : decode cX11_queue 16 = .ok (.aload_n 0, 1) := by decide +kernel
theorem dX11_queue_17 : decode cX11_queue 17 = .ok (.iconst 0, 1) := by decide +kernel
theorem dX11_queue_18 : decode cX11_queue 18 = .ok (.putfield 95, 3) := by decide +kernel
theorem dX11_queue_21 : decode cX11_queue 21 = .ok (.iconst 0, 1) := by decide +kernel
theorem dX11_queue_22 : decode cX11_queue 22 = .ok (.istore_n 2, 1) := by decide +kernel
theorem dX11_queue_23 : decode cX11_queue 23 = .ok (.iload_n 2, 1) := by decide +kernel
theorem dX11_queue_24 : decode cX11_queue 24 = .ok (.bipush 7, 2) := by decide +kernel
theorem dX11_queue_26 : decode cX11_queue 26 = .ok (.if_icmp .ge 46, 3) := by decide +kernel
theorem dX11_queue_29 : decode cX11_queue 29 = .ok (.aload_n 1, 1) := by decide +kernel
theorem dX11_queue_30 : decode cX11_queue 30 = .ok (.invokevirtual 177, 3) := by decide +kernel
theorem dX11_queue_33 : decode cX11_queue 33 = .ok (.istore_n 3, 1) := by decide +kernel
theorem dX11_queue_34 : decode cX11_queue 34 = .ok (.iload_n 3, 1) := by decide +kernel
theorem dX11_queue_35 : decode cX11_queue 35 = .ok (.ifCond .ge 8, 3) := by decide +kernel
theorem dX11_queue_38 : decode cX11_queue 38 = .ok (.aload_n 0, 1) := by decide +kernel
theorem dX11_queue_39 : decode cX11_queue 39 = .ok (.getfield 95, 3) := by decide +kernel
theorem dX11_queue_42 : decode cX11_queue 42 = .ok (.ireturn, 1) := by decide +kernel
theorem dX11_queue_43 : decode cX11_queue 43 = .ok (.aload_n 0, 1) := by decide +kernel
theorem dX11_queue_44 : decode cX11_queue 44 = .ok (.getfield 91, 3) := by decide +kernel
theorem dX11_queue_47 : decode cX11_queue 47 = .ok (.iload_n 2, 1) := by decide +kernel
theorem dX11_queue_48 : decode cX11_queue 48 = .ok (.iload_n 3, 1) := by decide +kernel
theorem dX11_queue_49 : decode cX11_queue 49 = .ok (.iastore, 1) := by decide +kernel
theorem dX11_queue_50 : decode cX11_queue 50 = .ok (.aload_n 0, 1) := by decide +kernel
theorem dX11_queue_51 : decode cX11_queue 51 = .ok (.iload_n 2, 1) := by decide +kernel
theorem dX11_queue_52 : decode cX11_queue 52 = .ok (.iconst 1, 1) := by decide +kernel
theorem dX11_queue_53 : decode cX11_queue 53 = .ok (.iadd, 1) := by decide +kernel
theorem dX11_queue_54 : decode cX11_queue 54 = .ok (.putfield 95, 3) := by decide +kernel
theorem dX11_queue_57 : decode cX11_queue 57 = .ok (.aload_n 1, 1) := by decide +kernel
theorem dX11_queue_58 : decode cX11_queue 58 = .ok (.iconst 1, 1) := by decide +kernel
theorem dX11_queue_59 : decode cX11_queue 59 = .ok (.iload_n 3, 1) := by decide +kernel
theorem dX11_queue_60 : decode cX11_queue 60 = .ok (.ishl, 1) := by decide +kernel
theorem dX11_queue_61 : decode cX11_queue 61 = .ok (.iconst 0, 1) := by decide +kernel
theorem dX11_queue_62 : decode cX11_queue 62 = .ok (.iconst 5, 1) := by decide +kernel
theorem dX11_queue_63 : decode cX11_queue 63 = .ok (.invokevirtual 190, 3) := by decide +kernel
theorem dX11_queue_66 : decode cX11_queue 66 = .ok (.iinc 2 1, 3) := by decide +kernel
theorem dX11_queue_69 : decode cX11_queue 69 = .ok (.goto (-46), 3) := by decide +kernel
theorem dX11_queue_72 : decode cX11_queue 72 = .ok (.aload_n 0, 1) := by decide +kernel
theorem dX11_queue_73 : decode cX11_queue 73 = .ok (.getfield 95, 3) := by decide +kernel
theorem dX11_queue_76 : decode cX11_queue 76 = .ok (.ireturn, 1) := by decide +kernel
theorem dX11_dusk_0 : decode cX11_dusk 0 = .ok (.aload_n 0, 1) := by decide +kernel
theorem dX11_dusk_1 : decode cX11_dusk 1 = .ok (.getfield 44, 3) := by decide +kernel
theorem dX11_dusk_4 : decode cX11_dusk 4 = .ok (.aload_n 0, 1) := by decide +kernel
theorem dX11_dusk_5 : decode cX11_dusk 5 = .ok (.getfield 37, 3) := by decide +kernel
theorem dX11_dusk_8 : decode cX11_dusk 8 = .ok (.invokevirtual 212, 3) := by decide +kernel
theorem dX11_dusk_11 : decode cX11_dusk 11 = .ok (.ireturn, 1) := by decide +kernel
theorem dX11_when_0 : decode cX11_when 0 = .ok (.aload_n 0, 1) := by decide +kernel
theorem dX11_when_1 : decode cX11_when 1 = .ok (.getfield 44, 3) := by decide +kernel
theorem dX11_when_4 : decode cX11_when 4 = .ok (.aload_n 0, 1) := by decide +kernel
theorem dX11_when_5 : decode cX11_when 5 = .ok (.getfield 37, 3) := by decide +kernel
theorem dX11_when_8 : decode cX11_when 8 = .ok (.invokevirtual 212, 3) := by decide +kernel
theorem dX11_when_11 : decode cX11_when 11 = .ok (.pop, 1) := by decide +kernel
theorem dX11_when_12 : decode cX11_when 12 = .ok (.iconst 0, 1) := by decide +kernel
theorem dX11_when_13 : decode cX11_when 13 = .ok (.istore_n 2, 1) := by decide +kernel
theorem dX11_when_14 : decode cX11_when 14 = .ok (.iload_n 2, 1) := by decide +kernel
theorem dX11_when_15 : decode cX11_when 15 = .ok (.aload_n 0, 1) := by decide +kernel
theorem dX11_when_16 : decode cX11_when 16 = .ok (.getfield 44, 3) := by decide +kernel
theorem dX11_when_19 : decode cX11_when 19 = .ok (.getfield 216, 3) := by decide +kernel
theorem dX11_when_22 : decode cX11_when 22 = .ok (.if_icmp .ge 32, 3) := by decide +kernel
theorem dX11_when_25 : decode cX11_when 25 = .ok (.aload_n 0, 1) := by decide +kernel
theorem dX11_when_26 : decode cX11_when 26 = .ok (.getfield 44, 3) := by decide +kernel
theorem dX11_when_29 : decode cX11_when 29 = .ok (.getfield 217, 3) := by decide +kernel
theorem dX11_when_32 : decode cX11_when 32 = .ok (.iload_n 2, 1) := by decide +kernel
theorem dX11_when_33 : decode cX11_when 33 = .ok (.iaload, 1) := by decide +kernel
theorem dX11_when_34 : decode cX11_when 34 = .ok (.iload_n 1, 1) := by decide +kernel
theorem dX11_when_35 : decode cX11_when 35 = .ok (.if_icmp .ne 13, 3) := by decide +kernel
theorem dX11_when_38 : decode cX11_when 38 = .ok (.aload_n 0, 1) := by decide +kernel
theorem dX11_when_39 : decode cX11_when 39 = .ok (.getfield 44, 3) := by decide +kernel
theorem dX11_when_42 : decode cX11_when 42 = .ok (.getfield 220, 3) := by decide +kernel
theorem dX11_when_45 : decode cX11_when 45 = .ok (.iload_n 2, 1) := by decide +kernel
theorem dX11_when_46 : decode cX11_when 46 = .ok (.iaload, 1) := by decide +kernel
theorem dX11_when_47 : decode cX11_when 47 = .ok (.ireturn, 1) := by decide +kernel
theorem dX11_when_48 : decode cX11_when 48 = .ok (.iinc 2 1, 3) := by decide +kernel
theorem dX11_when_51 : decode cX11_when 51 = .ok (.goto (-37), 3) := by decide +kernel
theorem dX11_when_54 : decode cX11_when 54 = .ok (.iconst (-1), 1) := by decide +kernel
theorem dX11_when_55 : decode cX11_when 55 = .ok (.ireturn, 1) := by decide +kernel
theorem dX11_course_0 : decode cX11_course 0 = .ok (.aload_n 0, 1) := by decide +kernel
theorem dX11_course_1 : decode cX11_course 1 = .ok (.getfield 44, 3) := by decide +kernel
theorem dX11_course_4 : decode cX11_course 4 = .ok (.aload_n 0, 1) := by decide +kernel
theorem dX11_course_5 : decode cX11_course 5 = .ok (.getfield 37, 3) := by decide +kernel
theorem dX11_course_8 : decode cX11_course 8 = .ok (.invokevirtual 212, 3) := by decide +kernel
theorem dX11_course_11 : decode cX11_course 11 = .ok (.pop, 1) := by decide +kernel
theorem dX11_course_12 : decode cX11_course 12 = .ok (.aload_n 0, 1) := by decide +kernel
theorem dX11_course_13 : decode cX11_course 13 = .ok (.aload_n 0, 1) := by decide +kernel
theorem dX11_course_14 : decode cX11_course 14 = .ok (.getfield 44, 3) := by decide +kernel
theorem dX11_course_17 : decode cX11_course 17 = .ok (.getfield 217, 3) := by decide +kernel
theorem dX11_course_20 : decode cX11_course 20 = .ok (.aload_n 0, 1) := by decide +kernel
theorem dX11_course_21 : decode cX11_course 21 = .ok (.getfield 44, 3) := by decide +kernel
theorem dX11_course_24 : decode cX11_course 24 = .ok (.getfield 216, 3) := by decide +kernel
theorem dX11_course_27 : decode cX11_course 27 = .ok (.invokevirtual 223, 3) := by decide +kernel
theorem dX11_course_30 : decode cX11_course 30 = .ok (.aload_n 0, 1) := by decide +kernel
theorem dX11_course_31 : decode cX11_course 31 = .ok (.getfield 95, 3) := by decide +kernel
theorem dX11_course_34 : decode cX11_course 34 = .ok (.ireturn, 1) := by decide +kernel
theorem dX11_leavers_0 : decode cX11_leavers 0 = .ok (.aload_n 0, 1) := by decide +kernel
theorem dX11_leavers_1 : decode cX11_leavers 1 = .ok (.getfield 44, 3) := by decide +kernel
theorem dX11_leavers_4 : decode cX11_leavers 4 = .ok (.aload_n 0, 1) := by decide +kernel
theorem dX11_leavers_5 : decode cX11_leavers 5 = .ok (.getfield 37, 3) := by decide +kernel
theorem dX11_leavers_8 : decode cX11_leavers 8 = .ok (.invokevirtual 212, 3) := by decide +kernel
theorem dX11_leavers_11 : decode cX11_leavers 11 = .ok (.pop, 1) := by decide +kernel
theorem dX11_leavers_12 : decode cX11_leavers 12 = .ok (.aload_n 0, 1) := by decide +kernel
theorem dX11_leavers_13 : decode cX11_leavers 13 = .ok (.getfield 37, 3) := by decide +kernel
theorem dX11_leavers_16 : decode cX11_leavers 16 = .ok (.getfield 227, 3) := by decide +kernel
theorem dX11_leavers_19 : decode cX11_leavers 19 = .ok (.iconst 0, 1) := by decide +kernel
theorem dX11_leavers_20 : decode cX11_leavers 20 = .ok (.iaload, 1) := by decide +kernel
theorem dX11_leavers_21 : decode cX11_leavers 21 = .ok (.aload_n 0, 1) := by decide +kernel
theorem dX11_leavers_22 : decode cX11_leavers 22 = .ok (.getfield 44, 3) := by decide +kernel
theorem dX11_leavers_25 : decode cX11_leavers 25 = .ok (.getfield 207, 3) := by decide +kernel
theorem dX11_leavers_28 : decode cX11_leavers 28 = .ok (.getfield 227, 3) := by decide +kernel
theorem dX11_leavers_31 : decode cX11_leavers 31 = .ok (.iconst 4, 1) := by decide +kernel
theorem dX11_leavers_32 : decode cX11_leavers 32 = .ok (.iaload, 1) := by decide +kernel
theorem dX11_leavers_33 : decode cX11_leavers 33 = .ok (.iand, 1) := by decide +kernel
theorem dX11_leavers_34 : decode cX11_leavers 34 = .ok (.ireturn, 1) := by decide +kernel
theorem dX11_soonest_0 : decode cX11_soonest 0 = .ok (.aload_n 0, 1) := by decide +kernel
theorem dX11_soonest_1 : decode cX11_soonest 1 = .ok (.getfield 51, 3) := by decide +kernel
theorem dX11_soonest_4 : decode cX11_soonest 4 = .ok (.aload_n 0, 1) := by decide +kernel
theorem dX11_soonest_5 : decode cX11_soonest 5 = .ok (.getfield 37, 3) := by decide +kernel
theorem dX11_soonest_8 : decode cX11_soonest 8 = .ok (.invokevirtual 230, 3) := by decide +kernel
theorem dX11_soonest_11 : decode cX11_soonest 11 = .ok (.aload_n 0, 1) := by decide +kernel
theorem dX11_soonest_12 : decode cX11_soonest 12 = .ok (.aload_n 0, 1) := by decide +kernel
theorem dX11_soonest_13 : decode cX11_soonest 13 = .ok (.getfield 51, 3) := by decide +kernel
theorem dX11_soonest_16 : decode cX11_soonest 16 = .ok (.getfield 233, 3) := by decide +kernel
theorem dX11_soonest_19 : decode cX11_soonest 19 = .ok (.aload_n 0, 1) := by decide +kernel
theorem dX11_soonest_20 : decode cX11_soonest 20 = .ok (.getfield 51, 3) := by decide +kernel
theorem dX11_soonest_23 : decode cX11_soonest 23 = .ok (.getfield 236, 3) := by decide +kernel
theorem dX11_soonest_26 : decode cX11_soonest 26 = .ok (.invokevirtual 223, 3) := by decide +kernel
theorem dX11_soonest_29 : decode cX11_soonest 29 = .ok (.aload_n 0, 1) := by decide +kernel
theorem dX11_soonest_30 : decode cX11_soonest 30 = .ok (.getfield 51, 3) := by decide +kernel
theorem dX11_soonest_33 : decode cX11_soonest 33 = .ok (.getfield 239, 3) := by decide +kernel
theorem dX11_soonest_36 : decode cX11_soonest 36 = .ok (.ireturn, 1) := by decide +kernel
theorem dX11_first_0 : decode cX11_first 0 = .ok (.iload_n 1, 1) := by decide +kernel
theorem dX11_first_1 : decode cX11_first 1 = .ok (.ifCond .lt 18, 3) := by decide +kernel
theorem dX11_first_4 : decode cX11_first 4 = .ok (.iload_n 1, 1) := by decide +kernel
theorem dX11_first_5 : decode cX11_first 5 = .ok (.iconst 1, 1) := by decide +kernel
theorem dX11_first_6 : decode cX11_first 6 = .ok (.if_icmp .gt 13, 3) := by decide +kernel
theorem dX11_first_9 : decode cX11_first 9 = .ok (.aload_n 0, 1) := by decide +kernel
theorem dX11_first_10 : decode cX11_first 10 = .ok (.getfield 60, 3) := by decide +kernel
theorem dX11_first_13 : decode cX11_first 13 = .ok (.invokevirtual 242, 3) := by decide +kernel
theorem dX11_first_16 : decode cX11_first 16 = .ok (.ifCond .ne 5, 3) := by decide +kernel
theorem dX11_first_19 : decode cX11_first 19 = .ok (.iconst (-1), 1) := by decide +kernel
theorem dX11_first_20 : decode cX11_first 20 = .ok (.ireturn, 1) := by decide +kernel
theorem dX11_first_21 : decode cX11_first 21 = .ok (.iload_n 1, 1) := by decide +kernel
theorem dX11_first_22 : decode cX11_first 22 = .ok (.ifCond .ne 13, 3) := by decide +kernel
theorem dX11_first_25 : decode cX11_first 25 = .ok (.aload_n 0, 1) := by decide +kernel
theorem dX11_first_26 : decode cX11_first 26 = .ok (.getfield 60, 3) := by decide +kernel
theorem dX11_first_29 : decode cX11_first 29 = .ok (.getfield 245, 3) := by decide +kernel
theorem dX11_first_32 : decode cX11_first 32 = .ok (.goto 10, 3) := by decide +kernel
theorem dX11_first_35 : decode cX11_first 35 = .ok (.aload_n 0, 1) := by decide +kernel
theorem dX11_first_36 : decode cX11_first 36 = .ok (.getfield 60, 3) := by decide +kernel
theorem dX11_first_39 : decode cX11_first 39 = .ok (.getfield 247, 3) := by decide +kernel
theorem dX11_first_42 : decode cX11_first 42 = .ok (.ireturn, 1) := by decide +kernel
theorem dX11_purchase_0 : decode cX11_purchase 0 = .ok (.iload_n 1, 1) := by decide +kernel
theorem dX11_purchase_1 : decode cX11_purchase 1 = .ok (.ifCond .lt 23, 3) := by decide +kernel
theorem dX11_purchase_4 : decode cX11_purchase 4 = .ok (.iload_n 1, 1) := by decide +kernel
theorem dX11_purchase_5 : decode cX11_purchase 5 = .ok (.sipush 9999, 3) := by decide +kernel
theorem dX11_purchase_8 : decode cX11_purchase 8 = .ok (.if_icmp .gt 16, 3) := by decide +kernel
theorem dX11_purchase_11 : decode cX11_purchase 11 = .ok (.iload_n 2, 1) := by decide +kernel
theorem dX11_purchase_12 : decode cX11_purchase 12 = .ok (.ifCond .eq 8, 3) := by decide +kernel
theorem dX11_purchase_15 : decode cX11_purchase 15 = .ok (.iload_n 2, 1) := by decide +kernel
theorem dX11_purchase_16 : decode cX11_purchase 16 = .ok (.iconst 1, 1) := by decide +kernel
theorem dX11_purchase_17 : decode cX11_purchase 17 = .ok (.if_icmp .ne 7, 3) := by decide +kernel
theorem dX11_purchase_20 : decode cX11_purchase 20 = .ok (.iconst 1, 1) := by decide +kernel
theorem dX11_purchase_21 : decode cX11_purchase 21 = .ok (.goto 4, 3) := by decide +kernel
theorem dX11_purchase_24 : decode cX11_purchase 24 = .ok (.iconst 0, 1) := by decide +kernel
theorem dX11_purchase_25 : decode cX11_purchase 25 = .ok (.istore_n 3, 1) := by decide +kernel
theorem dX11_purchase_26 : decode cX11_purchase 26 = .ok (.iload_n 3, 1) := by decide +kernel
theorem dX11_purchase_27 : decode cX11_purchase 27 = .ok (.ifCond .eq 14, 3) := by decide +kernel
theorem dX11_purchase_30 : decode cX11_purchase 30 = .ok (.aload_n 0, 1) := by decide +kernel
theorem dX11_purchase_31 : decode cX11_purchase 31 = .ok (.getfield 60, 3) := by decide +kernel
theorem dX11_purchase_34 : decode cX11_purchase 34 = .ok (.iload_n 1, 1) := by decide +kernel
theorem dX11_purchase_35 : decode cX11_purchase 35 = .ok (.invokevirtual 250, 3) := by decide +kernel
theorem dX11_purchase_38 : decode cX11_purchase 38 = .ok (.ifCond .ne 5, 3) := by decide +kernel
theorem dX11_purchase_41 : decode cX11_purchase 41 = .ok (.iconst (-1), 1) := by decide +kernel
theorem dX11_purchase_42 : decode cX11_purchase 42 = .ok (.ireturn, 1) := by decide +kernel
theorem dX11_purchase_43 : decode cX11_purchase 43 = .ok (.iload_n 2, 1) := by decide +kernel
theorem dX11_purchase_44 : decode cX11_purchase 44 = .ok (.ifCond .ne 13, 3) := by decide +kernel
theorem dX11_purchase_47 : decode cX11_purchase 47 = .ok (.aload_n 0, 1) := by decide +kernel
theorem dX11_purchase_48 : decode cX11_purchase 48 = .ok (.getfield 60, 3) := by decide +kernel
theorem dX11_purchase_51 : decode cX11_purchase 51 = .ok (.getfield 253, 3) := by decide +kernel
theorem dX11_purchase_54 : decode cX11_purchase 54 = .ok (.goto 10, 3) := by decide +kernel
theorem dX11_purchase_57 : decode cX11_purchase 57 = .ok (.aload_n 0, 1) := by decide +kernel
theorem dX11_purchase_58 : decode cX11_purchase 58 = .ok (.getfield 60, 3) := by decide +kernel
theorem dX11_purchase_61 : decode cX11_purchase 61 = .ok (.getfield 245, 3) := by decide +kernel
theorem dX11_purchase_64 : decode cX11_purchase 64 = .ok (.ireturn, 1) := by decide +kernel
theorem dX11_boast_0 : decode cX11_boast 0 = .ok (.aload_n 0, 1) := by decide +kernel
theorem dX11_boast_1 : decode cX11_boast 1 = .ok (.iload_n 1, 1) := by decide +kernel
theorem dX11_boast_2 : decode cX11_boast 2 = .ok (.invokevirtual 169, 3) := by decide +kernel
theorem dX11_boast_5 : decode cX11_boast 5 = .ok (.ifCond .eq 14, 3) := by decide +kernel
theorem dX11_boast_8 : decode cX11_boast 8 = .ok (.aload_n 0, 1) := by decide +kernel
theorem dX11_boast_9 : decode cX11_boast 9 = .ok (.getfield 60, 3) := by decide +kernel
theorem dX11_boast_12 : decode cX11_boast 12 = .ok (.iload_n 1, 1) := by decide +kernel
theorem dX11_boast_13 : decode cX11_boast 13 = .ok (.invokevirtual 255, 3) := by decide +kernel
theorem dX11_boast_16 : decode cX11_boast 16 = .ok (.goto 4, 3) := by decide +kernel
theorem dX11_boast_19 : decode cX11_boast 19 = .ok (.iconst (-1), 1) := by decide +kernel
theorem dX11_boast_20 : decode cX11_boast 20 = .ok (.ireturn, 1) := by decide +kernel
theorem dX11_weight_0 : decode cX11_weight 0 = .ok (.aload_n 0, 1) := by decide +kernel
theorem dX11_weight_1 : decode cX11_weight 1 = .ok (.getfield 69, 3) := by decide +kernel
theorem dX11_weight_4 : decode cX11_weight 4 = .ok (.aload_n 0, 1) := by decide +kernel
theorem dX11_weight_5 : decode cX11_weight 5 = .ok (.getfield 37, 3) := by decide +kernel
theorem dX11_weight_8 : decode cX11_weight 8 = .ok (.getfield 227, 3) := by decide +kernel
theorem dX11_weight_11 : decode cX11_weight 11 = .ok (.iconst 2, 1) := by decide +kernel
theorem dX11_weight_12 : decode cX11_weight 12 = .ok (.iaload, 1) := by decide +kernel
theorem dX11_weight_13 : decode cX11_weight 13 = .ok (.invokevirtual 258, 3) := by decide +kernel
theorem dX11_weight_16 : decode cX11_weight 16 = .ok (.ireturn, 1) := by decide +kernel
theorem dX11_threat_0 : decode cX11_threat 0 = .ok (.iload_n 1, 1) := by decide +kernel
theorem dX11_threat_1 : decode cX11_threat 1 = .ok (.ifCond .lt 18, 3) := by decide +kernel
theorem dX11_threat_4 : decode cX11_threat 4 = .ok (.iload_n 1, 1) := by decide +kernel
theorem dX11_threat_5 : decode cX11_threat 5 = .ok (.iconst 1, 1) := by decide +kernel
theorem dX11_threat_6 : decode cX11_threat 6 = .ok (.if_icmp .gt 13, 3) := by decide +kernel
theorem dX11_threat_9 : decode cX11_threat 9 = .ok (.aload_n 0, 1) := by decide +kernel
theorem dX11_threat_10 : decode cX11_threat 10 = .ok (.getfield 69, 3) := by decide +kernel
theorem dX11_threat_13 : decode cX11_threat 13 = .ok (.invokevirtual 261, 3) := by decide +kernel
theorem dX11_threat_16 : decode cX11_threat 16 = .ok (.ifCond .ne 5, 3) := by decide +kernel
theorem dX11_threat_19 : decode cX11_threat 19 = .ok (.iconst (-1), 1) := by decide +kernel
theorem dX11_threat_20 : decode cX11_threat 20 = .ok (.ireturn, 1) := by decide +kernel
theorem dX11_threat_21 : decode cX11_threat 21 = .ok (.iload_n 1, 1) := by decide +kernel
theorem dX11_threat_22 : decode cX11_threat 22 = .ok (.ifCond .ne 16, 3) := by decide +kernel
theorem dX11_threat_25 : decode cX11_threat 25 = .ok (.aload_n 0, 1) := by decide +kernel
theorem dX11_threat_26 : decode cX11_threat 26 = .ok (.getfield 69, 3) := by decide +kernel
theorem dX11_threat_29 : decode cX11_threat 29 = .ok (.getfield 264, 3) := by decide +kernel
theorem dX11_threat_32 : decode cX11_threat 32 = .ok (.invokestatic 267, 3) := by decide +kernel
theorem dX11_threat_35 : decode cX11_threat 35 = .ok (.goto 10, 3) := by decide +kernel
theorem dX11_threat_38 : decode cX11_threat 38 = .ok (.aload_n 0, 1) := by decide +kernel
theorem dX11_threat_39 : decode cX11_threat 39 = .ok (.getfield 69, 3) := by decide +kernel
theorem dX11_threat_42 : decode cX11_threat 42 = .ok (.getfield 264, 3) := by decide +kernel
theorem dX11_threat_45 : decode cX11_threat 45 = .ok (.ireturn, 1) := by decide +kernel
theorem dX11_bars_0 : decode cX11_bars 0 = .ok (.aload_n 0, 1) := by decide +kernel
theorem dX11_bars_1 : decode cX11_bars 1 = .ok (.getfield 69, 3) := by decide +kernel
theorem dX11_bars_4 : decode cX11_bars 4 = .ok (.invokevirtual 272, 3) := by decide +kernel
theorem dX11_bars_7 : decode cX11_bars 7 = .ok (.ireturn, 1) := by decide +kernel
theorem dX11_gain_0 : decode cX11_gain 0 = .ok (.aload_n 0, 1) := by decide +kernel
theorem dX11_gain_1 : decode cX11_gain 1 = .ok (.iload_n 1, 1) := by decide +kernel
theorem dX11_gain_2 : decode cX11_gain 2 = .ok (.invokevirtual 169, 3) := by decide +kernel
theorem dX11_gain_5 : decode cX11_gain 5 = .ok (.ifCond .ne 6, 3) := by decide +kernel
theorem dX11_gain_8 : decode cX11_gain 8 = .ok (.ldc 176, 2) := by decide +kernel
theorem dX11_gain_10 : decode cX11_gain 10 = .ok (.ireturn, 1) := by decide +kernel
theorem dX11_gain_11 : decode cX11_gain 11 = .ok (.aload_n 0, 1) := by decide +kernel
theorem dX11_gain_12 : decode cX11_gain 12 = .ok (.getfield 60, 3) := by decide +kernel
theorem dX11_gain_15 : decode cX11_gain 15 = .ok (.iconst 0, 1) := by decide +kernel
theorem dX11_gain_16 : decode cX11_gain 16 = .ok (.invokevirtual 275, 3) := by decide +kernel
theorem dX11_gain_19 : decode cX11_gain 19 = .ok (.aload_n 0, 1) := by decide +kernel
theorem dX11_gain_20 : decode cX11_gain 20 = .ok (.getfield 60, 3) := by decide +kernel
theorem dX11_gain_23 : decode cX11_gain 23 = .ok (.iconst 1, 1) := by decide +kernel
theorem dX11_gain_24 : decode cX11_gain 24 = .ok (.iload_n 1, 1) := by decide +kernel
theorem dX11_gain_25 : decode cX11_gain 25 = .ok (.ishl, 1) := by decide +kernel
theorem dX11_gain_26 : decode cX11_gain 26 = .ok (.invokevirtual 275, 3) := by decide +kernel
theorem dX11_gain_29 : decode cX11_gain 29 = .ok (.isub, 1) := by decide +kernel
theorem dX11_gain_30 : decode cX11_gain 30 = .ok (.ireturn, 1) := by decide +kernel
theorem dX11_crowd_0 : decode cX11_crowd 0 = .ok (.aload_n 0, 1) := by decide +kernel
theorem dX11_crowd_1 : decode cX11_crowd 1 = .ok (.iload_n 1, 1) := by decide +kernel
theorem dX11_crowd_2 : decode cX11_crowd 2 = .ok (.invokevirtual 137, 3) := by decide +kernel
theorem dX11_crowd_5 : decode cX11_crowd 5 = .ok (.ifCond .eq 14, 3) := by decide +kernel
theorem dX11_crowd_8 : decode cX11_crowd 8 = .ok (.aload_n 0, 1) := by decide +kernel
theorem dX11_crowd_9 : decode cX11_crowd 9 = .ok (.getfield 28, 3) := by decide +kernel
theorem dX11_crowd_12 : decode cX11_crowd 12 = .ok (.iload_n 1, 1) := by decide +kernel
theorem dX11_crowd_13 : decode cX11_crowd 13 = .ok (.invokevirtual 278, 3) := by decide +kernel
theorem dX11_crowd_16 : decode cX11_crowd 16 = .ok (.goto 4, 3) := by decide +kernel
theorem dX11_crowd_19 : decode cX11_crowd 19 = .ok (.iconst (-1), 1) := by decide +kernel
theorem dX11_crowd_20 : decode cX11_crowd 20 = .ok (.ireturn, 1) := by decide +kernel
theorem dX11_odds_0 : decode cX11_odds 0 = .ok (.aload_n 0, 1) := by decide +kernel
theorem dX11_odds_1 : decode cX11_odds 1 = .ok (.iload_n 1, 1) := by decide +kernel
theorem dX11_odds_2 : decode cX11_odds 2 = .ok (.iload_n 2, 1) := by decide +kernel
theorem dX11_odds_3 : decode cX11_odds 3 = .ok (.invokevirtual 281, 3) := by decide +kernel
theorem dX11_odds_6 : decode cX11_odds 6 = .ok (.ifCond .eq 15, 3) := by decide +kernel
theorem dX11_odds_9 : decode cX11_odds 9 = .ok (.aload_n 0, 1) := by decide +kernel
theorem dX11_odds_10 : decode cX11_odds 10 = .ok (.getfield 69, 3) := by decide +kernel
theorem dX11_odds_13 : decode cX11_odds 13 = .ok (.iload_n 1, 1) := by decide +kernel
theorem dX11_odds_14 : decode cX11_odds 14 = .ok (.iload_n 2, 1) := by decide +kernel
theorem dX11_odds_15 : decode cX11_odds 15 = .ok (.invokevirtual 285, 3) := by decide +kernel
theorem dX11_odds_18 : decode cX11_odds 18 = .ok (.goto 4, 3) := by decide +kernel
theorem dX11_odds_21 : decode cX11_odds 21 = .ok (.iconst (-1), 1) := by decide +kernel
theorem dX11_odds_22 : decode cX11_odds 22 = .ok (.ireturn, 1) := by decide +kernel
theorem dX11_peril_0 : decode cX11_peril 0 = .ok (.aload_n 0, 1) := by decide +kernel
theorem dX11_peril_1 : decode cX11_peril 1 = .ok (.iload_n 1, 1) := by decide +kernel
theorem dX11_peril_2 : decode cX11_peril 2 = .ok (.iload_n 2, 1) := by decide +kernel
theorem dX11_peril_3 : decode cX11_peril 3 = .ok (.invokevirtual 281, 3) := by decide +kernel
theorem dX11_peril_6 : decode cX11_peril 6 = .ok (.ifCond .eq 15, 3) := by decide +kernel
theorem dX11_peril_9 : decode cX11_peril 9 = .ok (.aload_n 0, 1) := by decide +kernel
theorem dX11_peril_10 : decode cX11_peril 10 = .ok (.getfield 69, 3) := by decide +kernel
theorem dX11_peril_13 : decode cX11_peril 13 = .ok (.iload_n 1, 1) := by decide +kernel
theorem dX11_peril_14 : decode cX11_peril 14 = .ok (.iload_n 2, 1) := by decide +kernel
theorem dX11_peril_15 : decode cX11_peril 15 = .ok (.invokevirtual 288, 3) := by decide +kernel
theorem dX11_peril_18 : decode cX11_peril 18 = .ok (.goto 4, 3) := by decide +kernel
theorem dX11_peril_21 : decode cX11_peril 21 = .ok (.iconst (-1), 1) := by decide +kernel
theorem dX11_peril_22 : decode cX11_peril 22 = .ok (.ireturn, 1) := by decide +kernel
theorem dX11_tarry_0 : decode cX11_tarry 0 = .ok (.iload_n 1, 1) := by decide +kernel
theorem dX11_tarry_1 : decode cX11_tarry 1 = .ok (.ifCond .lt 8, 3) := by decide +kernel
theorem dX11_tarry_4 : decode cX11_tarry 4 = .ok (.iload_n 1, 1) := by decide +kernel
theorem dX11_tarry_5 : decode cX11_tarry 5 = .ok (.iconst 1, 1) := by decide +kernel
theorem dX11_tarry_6 : decode cX11_tarry 6 = .ok (.if_icmp .le 5, 3) := by decide +kernel
theorem dX11_tarry_9 : decode cX11_tarry 9 = .ok (.iconst (-1), 1) := by decide +kernel
theorem dX11_tarry_10 : decode cX11_tarry 10 = .ok (.ireturn, 1) := by decide +kernel
theorem dX11_tarry_11 : decode cX11_tarry 11 = .ok (.aload_n 0, 1) := by decide +kernel
theorem dX11_tarry_12 : decode cX11_tarry 12 = .ok (.getfield 60, 3) := by decide +kernel
theorem dX11_tarry_15 : decode cX11_tarry 15 = .ok (.bipush 60, 2) := by decide +kernel
theorem dX11_tarry_17 : decode cX11_tarry 17 = .ok (.invokevirtual 291, 3) := by decide +kernel
theorem dX11_tarry_20 : decode cX11_tarry 20 = .ok (.iload_n 1, 1) := by decide +kernel
theorem dX11_tarry_21 : decode cX11_tarry 21 = .ok (.ifCond .ne 13, 3) := by decide +kernel
theorem dX11_tarry_24 : decode cX11_tarry 24 = .ok (.aload_n 0, 1) := by decide +kernel
theorem dX11_tarry_25 : decode cX11_tarry 25 = .ok (.getfield 60, 3) := by decide +kernel
theorem dX11_tarry_28 : decode cX11_tarry 28 = .ok (.getfield 294, 3) := by decide +kernel
theorem dX11_tarry_31 : decode cX11_tarry 31 = .ok (.goto 10, 3) := by decide +kernel
theorem dX11_tarry_34 : decode cX11_tarry 34 = .ok (.aload_n 0, 1) := by decide +kernel
theorem dX11_tarry_35 : decode cX11_tarry 35 = .ok (.getfield 60, 3) := by decide +kernel
theorem dX11_tarry_38 : decode cX11_tarry 38 = .ok (.getfield 247, 3) := by decide +kernel
theorem dX11_tarry_41 : decode cX11_tarry 41 = .ok (.ireturn, 1) := by decide +kernel
theorem dX11_swap_0 : decode cX11_swap 0 = .ok (.iload_n 1, 1) := by decide +kernel
theorem dX11_swap_1 : decode cX11_swap 1 = .ok (.ifCond .lt 18, 3) := by decide +kernel
theorem dX11_swap_4 : decode cX11_swap 4 = .ok (.iload_n 1, 1) := by decide +kernel
theorem dX11_swap_5 : decode cX11_swap 5 = .ok (.iconst 2, 1) := by decide +kernel
theorem dX11_swap_6 : decode cX11_swap 6 = .ok (.if_icmp .gt 13, 3) := by decide +kernel
theorem dX11_swap_9 : decode cX11_swap 9 = .ok (.aload_n 0, 1) := by decide +kernel
theorem dX11_swap_10 : decode cX11_swap 10 = .ok (.getfield 60, 3) := by decide +kernel
theorem dX11_swap_13 : decode cX11_swap 13 = .ok (.invokevirtual 296, 3) := by decide +kernel
theorem dX11_swap_16 : decode cX11_swap 16 = .ok (.ifCond .ne 5, 3) := by decide +kernel
theorem dX11_swap_19 : decode cX11_swap 19 = .ok (.iconst (-1), 1) := by decide +kernel
theorem dX11_swap_20 : decode cX11_swap 20 = .ok (.ireturn, 1) := by decide +kernel
theorem dX11_swap_21 : decode cX11_swap 21 = .ok (.iload_n 1, 1) := by decide +kernel
theorem dX11_swap_22 : decode cX11_swap 22 = .ok (.lookupswitch 42 #[(0, 26), (1, 34)], 26) := by decide +kernel
theorem dX11_swap_48 : decode cX11_swap 48 = .ok (.aload_n 0, 1) := by decide +kernel
theorem dX11_swap_49 : decode cX11_swap 49 = .ok (.getfield 60, 3) := by decide +kernel
theorem dX11_swap_52 : decode cX11_swap 52 = .ok (.getfield 245, 3) := by decide +kernel
theorem dX11_swap_55 : decode cX11_swap 55 = .ok (.ireturn, 1) := by decide +kernel
theorem dX11_swap_56 : decode cX11_swap 56 = .ok (.aload_n 0, 1) := by decide +kernel
theorem dX11_swap_57 : decode cX11_swap 57 = .ok (.getfield 60, 3) := by decide +kernel
theorem dX11_swap_60 : decode cX11_swap 60 = .ok (.getfield 299, 3) := by decide +kernel
theorem dX11_swap_63 : decode cX11_swap 63 = .ok (.ireturn, 1) := by decide +kernel
theorem dX11_swap_64 : decode cX11_swap 64 = .ok (.aload_n 0, 1) := by decide +kernel
theorem dX11_swap_65 : decode cX11_swap 65 = .ok (.getfield 60, 3) := by decide +kernel
theorem dX11_swap_68 : decode cX11_swap 68 = .ok (.getfield 247, 3) := by decide +kernel
theorem dX11_swap_71 : decode cX11_swap 71 = .ok (.ireturn, 1) := by decide +kernel
theorem dX11_by_0 : decode cX11_by 0 = .ok (.iload_n 1, 1) := by decide +kernel
theorem dX11_by_1 : decode cX11_by 1 = .ok (.ifCond .lt 10, 3) := by decide +kernel
theorem dX11_by_4 : decode cX11_by 4 = .ok (.iload_n 1, 1) := by decide +kernel
theorem dX11_by_5 : decode cX11_by 5 = .ok (.sipush 9999, 3) := by decide +kernel
theorem dX11_by_8 : decode cX11_by 8 = .ok (.if_icmp .le 5, 3) := by decide +kernel
theorem dX11_by_11 : decode cX11_by 11 = .ok (.iconst (-1), 1) := by decide +kernel
theorem dX11_by_12 : decode cX11_by 12 = .ok (.ireturn, 1) := by decide +kernel
theorem dX11_by_13 : decode cX11_by 13 = .ok (.aload_n 0, 1) := by decide +kernel
theorem dX11_by_14 : decode cX11_by 14 = .ok (.getfield 44, 3) := by decide +kernel
theorem dX11_by_17 : decode cX11_by 17 = .ok (.aload_n 0, 1) := by decide +kernel
theorem dX11_by_18 : decode cX11_by 18 = .ok (.getfield 37, 3) := by decide +kernel
theorem dX11_by_21 : decode cX11_by 21 = .ok (.invokevirtual 212, 3) := by decide +kernel
theorem dX11_by_24 : decode cX11_by 24 = .ok (.pop, 1) := by decide +kernel
theorem dX11_by_25 : decode cX11_by 25 = .ok (.iconst 0, 1) := by decide +kernel
theorem dX11_by_26 : decode cX11_by 26 = .ok (.istore_n 2, 1) := by decide +kernel
theorem dX11_by_27 : decode cX11_by 27 = .ok (.iconst 0, 1) := by decide +kernel
theorem dX11_by_28 : decode cX11_by 28 = .ok (.istore_n 3, 1) := by decide +kernel
theorem dX11_by_29 : decode cX11_by 29 = .ok (.iload_n 3, 1) := by decide +kernel
theorem dX11_by_30 : decode cX11_by 30 = .ok (.aload_n 0, 1) := by decide +kernel
theorem dX11_by_31 : decode cX11_by 31 = .ok (.getfield 44, 3) := by decide +kernel
theorem dX11_by_34 : decode cX11_by 34 = .ok (.getfield 216, 3) := by decide +kernel
theorem dX11_by_37 : decode cX11_by 37 = .ok (.if_icmp .ge 25, 3) := by decide +kernel
theorem dX11_by_40 : decode cX11_by 40 = .ok (.aload_n 0, 1) := by decide +kernel
theorem dX11_by_41 : decode cX11_by 41 = .ok (.getfield 44, 3) := by decide +kernel
theorem dX11_by_44 : decode cX11_by 44 = .ok (.getfield 220, 3) := by decide +kernel
theorem dX11_by_47 : decode cX11_by 47 = .ok (.iload_n 3, 1) := by decide +kernel
theorem dX11_by_48 : decode cX11_by 48 = .ok (.iaload, 1) := by decide +kernel
theorem dX11_by_49 : decode cX11_by 49 = .ok (.iload_n 1, 1) := by decide +kernel
theorem dX11_by_50 : decode cX11_by 50 = .ok (.if_icmp .gt 6, 3) := by decide +kernel
theorem dX11_by_53 : decode cX11_by 53 = .ok (.iinc 2 1, 3) := by decide +kernel
theorem dX11_by_56 : decode cX11_by 56 = .ok (.iinc 3 1, 3) := by decide +kernel
theorem dX11_by_59 : decode cX11_by 59 = .ok (.goto (-30), 3) := by decide +kernel
theorem dX11_by_62 : decode cX11_by 62 = .ok (.iload_n 2, 1) := by decide +kernel
theorem dX11_by_63 : decode cX11_by 63 = .ok (.ireturn, 1) := by decide +kernel
theorem dX11_upset_0 : decode cX11_upset 0 = .ok (.aload_n 0, 1) := by decide +kernel
theorem dX11_upset_1 : decode cX11_upset 1 = .ok (.getfield 44, 3) := by decide +kernel
theorem dX11_upset_4 : decode cX11_upset 4 = .ok (.aload_n 0, 1) := by decide +kernel
theorem dX11_upset_5 : decode cX11_upset 5 = .ok (.getfield 37, 3) := by decide +kernel
theorem dX11_upset_8 : decode cX11_upset 8 = .ok (.invokevirtual 212, 3) := by decide +kernel
theorem dX11_upset_11 : decode cX11_upset 11 = .ok (.pop, 1) := by decide +kernel
theorem dX11_upset_12 : decode cX11_upset 12 = .ok (.iconst 0, 1) := by decide +kernel
theorem dX11_upset_13 : decode cX11_upset 13 = .ok (.istore_n 1, 1) := by decide +kernel
theorem dX11_upset_14 : decode cX11_upset 14 = .ok (.iconst 1, 1) := by decide +kernel
theorem dX11_upset_15 : decode cX11_upset 15 = .ok (.istore_n 2, 1) := by decide +kernel
theorem dX11_upset_16 : decode cX11_upset 16 = .ok (.iload_n 2, 1) := by decide +kernel
theorem dX11_upset_17 : decode cX11_upset 17 = .ok (.aload_n 0, 1) := by decide +kernel
theorem dX11_upset_18 : decode cX11_upset 18 = .ok (.getfield 44, 3) := by decide +kernel
theorem dX11_upset_21 : decode cX11_upset 21 = .ok (.getfield 216, 3) := by decide +kernel
theorem dX11_upset_24 : decode cX11_upset 24 = .ok (.if_icmp .ge 51, 3) := by decide +kernel
theorem dX11_upset_27 : decode cX11_upset 27 = .ok (.aload_n 0, 1) := by decide +kernel
theorem dX11_upset_28 : decode cX11_upset 28 = .ok (.getfield 28, 3) := by decide +kernel
theorem dX11_upset_31 : decode cX11_upset 31 = .ok (.getfield 145, 3) := by decide +kernel
theorem dX11_upset_34 : decode cX11_upset 34 = .ok (.aload_n 0, 1) := by decide +kernel
theorem dX11_upset_35 : decode cX11_upset 35 = .ok (.getfield 44, 3) := by decide +kernel
theorem dX11_upset_38 : decode cX11_upset 38 = .ok (.getfield 217, 3) := by decide +kernel
theorem dX11_upset_41 : decode cX11_upset 41 = .ok (.iload_n 2, 1) := by decide +kernel
theorem dX11_upset_42 : decode cX11_upset 42 = .ok (.iconst 1, 1) := by decide +kernel
theorem dX11_upset_43 : decode cX11_upset 43 = .ok (.isub, 1) := by decide +kernel
theorem dX11_upset_44 : decode cX11_upset 44 = .ok (.iaload, 1) := by decide +kernel
theorem dX11_upset_45 : decode cX11_upset 45 = .ok (.iaload, 1) := by decide +kernel
theorem dX11_upset_46 : decode cX11_upset 46 = .ok (.aload_n 0, 1) := by decide +kernel
theorem dX11_upset_47 : decode cX11_upset 47 = .ok (.getfield 28, 3) := by decide +kernel
theorem dX11_upset_50 : decode cX11_upset 50 = .ok (.getfield 145, 3) := by decide +kernel
theorem dX11_upset_53 : decode cX11_upset 53 = .ok (.aload_n 0, 1) := by decide +kernel
theorem dX11_upset_54 : decode cX11_upset 54 = .ok (.getfield 44, 3) := by decide +kernel
theorem dX11_upset_57 : decode cX11_upset 57 = .ok (.getfield 217, 3) := by decide +kernel
theorem dX11_upset_60 : decode cX11_upset 60 = .ok (.iload_n 2, 1) := by decide +kernel
theorem dX11_upset_61 : decode cX11_upset 61 = .ok (.iaload, 1) := by decide +kernel
theorem dX11_upset_62 : decode cX11_upset 62 = .ok (.iaload, 1) := by decide +kernel
theorem dX11_upset_63 : decode cX11_upset 63 = .ok (.if_icmp .ge 6, 3) := by decide +kernel
theorem dX11_upset_66 : decode cX11_upset 66 = .ok (.iinc 1 1, 3) := by decide +kernel
theorem dX11_upset_69 : decode cX11_upset 69 = .ok (.iinc 2 1, 3) := by decide +kernel
theorem dX11_upset_72 : decode cX11_upset 72 = .ok (.goto (-56), 3) := by decide +kernel
theorem dX11_upset_75 : decode cX11_upset 75 = .ok (.iload_n 1, 1) := by decide +kernel
theorem dX11_upset_76 : decode cX11_upset 76 = .ok (.ireturn, 1) := by decide +kernel
theorem dX11_lies_0 : decode cX11_lies 0 = .ok (.iload_n 1, 1) := by decide +kernel
theorem dX11_lies_1 : decode cX11_lies 1 = .ok (.ifCond .lt 20, 3) := by decide +kernel
theorem dX11_lies_4 : decode cX11_lies 4 = .ok (.iload_n 1, 1) := by decide +kernel
theorem dX11_lies_5 : decode cX11_lies 5 = .ok (.aload_n 0, 1) := by decide +kernel
theorem dX11_lies_6 : decode cX11_lies 6 = .ok (.getfield 95, 3) := by decide +kernel
theorem dX11_lies_9 : decode cX11_lies 9 = .ok (.if_icmp .ge 12, 3) := by decide +kernel
theorem dX11_lies_12 : decode cX11_lies 12 = .ok (.aload_n 0, 1) := by decide +kernel
theorem dX11_lies_13 : decode cX11_lies 13 = .ok (.getfield 91, 3) := by decide +kernel
theorem dX11_lies_16 : decode cX11_lies 16 = .ok (.iload_n 1, 1) := by decide +kernel
theorem dX11_lies_17 : decode cX11_lies 17 = .ok (.iaload, 1) := by decide +kernel
theorem dX11_lies_18 : decode cX11_lies 18 = .ok (.goto 4, 3) := by decide +kernel
theorem dX11_lies_21 : decode cX11_lies 21 = .ok (.iconst (-1), 1) := by decide +kernel
theorem dX11_lies_22 : decode cX11_lies 22 = .ok (.ireturn, 1) := by decide +kernel
theorem dX11_seen_0 : decode cX11_seen 0 = .ok (.iload_n 1, 1) := by decide +kernel
theorem dX11_seen_1 : decode cX11_seen 1 = .ok (.iconst 1, 1) := by decide +kernel
theorem dX11_seen_2 : decode cX11_seen 2 = .ok (.if_icmp .lt 21, 3) := by decide +kernel
theorem dX11_seen_5 : decode cX11_seen 5 = .ok (.iload_n 1, 1) := by decide +kernel
theorem dX11_seen_6 : decode cX11_seen 6 = .ok (.bipush 7, 2) := by decide +kernel
theorem dX11_seen_8 : decode cX11_seen 8 = .ok (.if_icmp .gt 15, 3) := by decide +kernel
theorem dX11_seen_11 : decode cX11_seen 11 = .ok (.aload_n 0, 1) := by decide +kernel
theorem dX11_seen_12 : decode cX11_seen 12 = .ok (.iload_n 2, 1) := by decide +kernel
theorem dX11_seen_13 : decode cX11_seen 13 = .ok (.invokevirtual 137, 3) := by decide +kernel
theorem dX11_seen_16 : decode cX11_seen 16 = .ok (.ifCond .eq 7, 3) := by decide +kernel
theorem dX11_seen_19 : decode cX11_seen 19 = .ok (.iconst 1, 1) := by decide +kernel
theorem dX11_seen_20 : decode cX11_seen 20 = .ok (.goto 4, 3) := by decide +kernel
theorem dX11_seen_23 : decode cX11_seen 23 = .ok (.iconst 0, 1) := by decide +kernel
theorem dX11_seen_24 : decode cX11_seen 24 = .ok (.istore 4, 2) := by decide +kernel
theorem dX11_seen_26 : decode cX11_seen 26 = .ok (.iload 4, 2) := by decide +kernel
theorem dX11_seen_28 : decode cX11_seen 28 = .ok (.ifCond .eq 18, 3) := by decide +kernel
theorem dX11_seen_31 : decode cX11_seen 31 = .ok (.aload_n 0, 1) := by decide +kernel
theorem dX11_seen_32 : decode cX11_seen 32 = .ok (.getfield 87, 3) := by decide +kernel
theorem dX11_seen_35 : decode cX11_seen 35 = .ok (.iload_n 1, 1) := by decide +kernel
theorem dX11_seen_36 : decode cX11_seen 36 = .ok (.iconst 1, 1) := by decide +kernel
theorem dX11_seen_37 : decode cX11_seen 37 = .ok (.isub, 1) := by decide +kernel
theorem dX11_seen_38 : decode cX11_seen 38 = .ok (.iload_n 2, 1) := by decide +kernel
theorem dX11_seen_39 : decode cX11_seen 39 = .ok (.iload_n 3, 1) := by decide +kernel
theorem dX11_seen_40 : decode cX11_seen 40 = .ok (.invokevirtual 302, 3) := by decide +kernel
theorem dX11_seen_43 : decode cX11_seen 43 = .ok (.goto 4, 3) := by decide +kernel
theorem dX11_seen_46 : decode cX11_seen 46 = .ok (.iconst (-1), 1) := by decide +kernel
theorem dX11_seen_47 : decode cX11_seen 47 = .ok (.ireturn, 1) := by decide +kernel
theorem dX11_untell_0 : decode cX11_untell 0 = .ok (.aload_n 0, 1) := by decide +kernel
theorem dX11_untell_1 : decode cX11_untell 1 = .ok (.getfield 87, 3) := by decide +kernel
theorem dX11_untell_4 : decode cX11_untell 4 = .ok (.iload_n 1, 1) := by decide +kernel
theorem dX11_untell_5 : decode cX11_untell 5 = .ok (.invokevirtual 306, 3) := by decide +kernel
theorem dX11_untell_8 : decode cX11_untell 8 = .ok (.ireturn, 1) := by decide +kernel
theorem dX11_later_0 : decode cX11_later 0 = .ok (.aload_n 0, 1) := by decide +kernel
theorem dX11_later_1 : decode cX11_later 1 = .ok (.getfield 87, 3) := by decide +kernel
theorem dX11_later_4 : decode cX11_later 4 = .ok (.iload_n 1, 1) := by decide +kernel
theorem dX11_later_5 : decode cX11_later 5 = .ok (.invokevirtual 308, 3) := by decide +kernel
theorem dX11_later_8 : decode cX11_later 8 = .ok (.ireturn, 1) := by decide +kernel
theorem dX11_fits_0 : decode cX11_fits 0 = .ok (.aload_n 0, 1) := by decide +kernel
theorem dX11_fits_1 : decode cX11_fits 1 = .ok (.getfield 87, 3) := by decide +kernel
theorem dX11_fits_4 : decode cX11_fits 4 = .ok (.iload_n 1, 1) := by decide +kernel
theorem dX11_fits_5 : decode cX11_fits 5 = .ok (.invokevirtual 311, 3) := by decide +kernel
theorem dX11_fits_8 : decode cX11_fits 8 = .ok (.ireturn, 1) := by decide +kernel
theorem dX11_sure_0 : decode cX11_sure 0 = .ok (.iload_n 1, 1) := by decide +kernel
theorem dX11_sure_1 : decode cX11_sure 1 = .ok (.ifCond .lt 19, 3) := by decide +kernel
theorem dX11_sure_4 : decode cX11_sure 4 = .ok (.iload_n 1, 1) := by decide +kernel
theorem dX11_sure_5 : decode cX11_sure 5 = .ok (.iconst 1, 1) := by decide +kernel
theorem dX11_sure_6 : decode cX11_sure 6 = .ok (.if_icmp .gt 14, 3) := by decide +kernel
theorem dX11_sure_9 : decode cX11_sure 9 = .ok (.aload_n 0, 1) := by decide +kernel
theorem dX11_sure_10 : decode cX11_sure 10 = .ok (.getfield 87, 3) := by decide +kernel
theorem dX11_sure_13 : decode cX11_sure 13 = .ok (.iload_n 2, 1) := by decide +kernel
theorem dX11_sure_14 : decode cX11_sure 14 = .ok (.invokevirtual 311, 3) := by decide +kernel
theorem dX11_sure_17 : decode cX11_sure 17 = .ok (.ifCond .ne 5, 3) := by decide +kernel
theorem dX11_sure_20 : decode cX11_sure 20 = .ok (.iconst (-1), 1) := by decide +kernel
theorem dX11_sure_21 : decode cX11_sure 21 = .ok (.ireturn, 1) := by decide +kernel
theorem dX11_sure_22 : decode cX11_sure 22 = .ok (.iload_n 1, 1) := by decide +kernel
theorem dX11_sure_23 : decode cX11_sure 23 = .ok (.ifCond .ne 13, 3) := by decide +kernel
theorem dX11_sure_26 : decode cX11_sure 26 = .ok (.aload_n 0, 1) := by decide +kernel
theorem dX11_sure_27 : decode cX11_sure 27 = .ok (.getfield 87, 3) := by decide +kernel
theorem dX11_sure_30 : decode cX11_sure 30 = .ok (.invokevirtual 314, 3) := by decide +kernel
theorem dX11_sure_33 : decode cX11_sure 33 = .ok (.goto 10, 3) := by decide +kernel
theorem dX11_sure_36 : decode cX11_sure 36 = .ok (.aload_n 0, 1) := by decide +kernel
theorem dX11_sure_37 : decode cX11_sure 37 = .ok (.getfield 87, 3) := by decide +kernel
theorem dX11_sure_40 : decode cX11_sure 40 = .ok (.invokevirtual 317, 3) := by decide +kernel
theorem dX11_sure_43 : decode cX11_sure 43 = .ok (.ireturn, 1) := by decide +kernel
theorem dX11_ask_0 : decode cX11_ask 0 = .ok (.iload_n 1, 1) := by decide +kernel
theorem dX11_ask_1 : decode cX11_ask 1 = .ok (.ifCond .lt 19, 3) := by decide +kernel
theorem dX11_ask_4 : decode cX11_ask 4 = .ok (.iload_n 1, 1) := by decide +kernel
theorem dX11_ask_5 : decode cX11_ask 5 = .ok (.iconst 1, 1) := by decide +kernel
theorem dX11_ask_6 : decode cX11_ask 6 = .ok (.if_icmp .gt 14, 3) := by decide +kernel
theorem dX11_ask_9 : decode cX11_ask 9 = .ok (.aload_n 0, 1) := by decide +kernel
theorem dX11_ask_10 : decode cX11_ask 10 = .ok (.getfield 87, 3) := by decide +kernel
theorem dX11_ask_13 : decode cX11_ask 13 = .ok (.iload_n 2, 1) := by decide +kernel
theorem dX11_ask_14 : decode cX11_ask 14 = .ok (.invokevirtual 311, 3) := by decide +kernel
theorem dX11_ask_17 : decode cX11_ask 17 = .ok (.ifCond .ne 5, 3) := by decide +kernel
theorem dX11_ask_20 : decode cX11_ask 20 = .ok (.iconst (-1), 1) := by decide +kernel
theorem dX11_ask_21 : decode cX11_ask 21 = .ok (.ireturn, 1) := by decide +kernel
theorem dX11_ask_22 : decode cX11_ask 22 = .ok (.aload_n 0, 1) := by decide +kernel
theorem dX11_ask_23 : decode cX11_ask 23 = .ok (.getfield 87, 3) := by decide +kernel
theorem dX11_ask_26 : decode cX11_ask 26 = .ok (.invokevirtual 320, 3) := by decide +kernel
theorem dX11_ask_29 : decode cX11_ask 29 = .ok (.iload_n 1, 1) := by decide +kernel
theorem dX11_ask_30 : decode cX11_ask 30 = .ok (.ifCond .ne 15, 3) := by decide +kernel
theorem dX11_ask_33 : decode cX11_ask 33 = .ok (.aload_n 0, 1) := by decide +kernel
theorem dX11_ask_34 : decode cX11_ask 34 = .ok (.getfield 87, 3) := by decide +kernel
theorem dX11_ask_37 : decode cX11_ask 37 = .ok (.getfield 323, 3) := by decide +kernel
theorem dX11_ask_40 : decode cX11_ask 40 = .ok (.iconst 1, 1) := by decide +kernel
theorem dX11_ask_41 : decode cX11_ask 41 = .ok (.iadd, 1) := by decide +kernel
theorem dX11_ask_42 : decode cX11_ask 42 = .ok (.goto 10, 3) := by decide +kernel
theorem dX11_ask_45 : decode cX11_ask 45 = .ok (.aload_n 0, 1) := by decide +kernel
theorem dX11_ask_46 : decode cX11_ask 46 = .ok (.getfield 87, 3) := by decide +kernel
theorem dX11_ask_49 : decode cX11_ask 49 = .ok (.getfield 326, 3) := by decide +kernel
theorem dX11_ask_52 : decode cX11_ask 52 = .ok (.ireturn, 1) := by decide +kernel
theorem dX11_image_0 : decode cX11_image 0 = .ok (.iload_n 1, 1) := by decide +kernel
theorem dX11_image_1 : decode cX11_image 1 = .ok (.ifCond .lt 8, 3) := by decide +kernel
theorem dX11_image_4 : decode cX11_image 4 = .ok (.iload_n 1, 1) := by decide +kernel
theorem dX11_image_5 : decode cX11_image 5 = .ok (.iconst 3, 1) := by decide +kernel
theorem dX11_image_6 : decode cX11_image 6 = .ok (.if_icmp .lt 5, 3) := by decide +kernel
theorem dX11_image_9 : decode cX11_image 9 = .ok (.iconst (-1), 1) := by decide +kernel
theorem dX11_image_10 : decode cX11_image 10 = .ok (.ireturn, 1) := by decide +kernel
theorem dX11_image_11 : decode cX11_image 11 = .ok (.aload_n 0, 1) := by decide +kernel
theorem dX11_image_12 : decode cX11_image 12 = .ok (.getfield 78, 3) := by decide +kernel
theorem dX11_image_15 : decode cX11_image 15 = .ok (.iload_n 1, 1) := by decide +kernel
theorem dX11_image_16 : decode cX11_image 16 = .ok (.invokevirtual 329, 3) := by decide +kernel
theorem dX11_image_19 : decode cX11_image 19 = .ok (.aload_n 0, 1) := by decide +kernel
theorem dX11_image_20 : decode cX11_image 20 = .ok (.getfield 37, 3) := by decide +kernel
theorem dX11_image_23 : decode cX11_image 23 = .ok (.getfield 332, 3) := by decide +kernel
theorem dX11_image_26 : decode cX11_image 26 = .ok (.ireturn, 1) := by decide +kernel
theorem dX11_back_0 : decode cX11_back 0 = .ok (.iload_n 1, 1) := by decide +kernel
theorem dX11_back_1 : decode cX11_back 1 = .ok (.ifCond .lt 19, 3) := by decide +kernel
theorem dX11_back_4 : decode cX11_back 4 = .ok (.iload_n 1, 1) := by decide +kernel
theorem dX11_back_5 : decode cX11_back 5 = .ok (.iconst 3, 1) := by decide +kernel
theorem dX11_back_6 : decode cX11_back 6 = .ok (.if_icmp .ge 14, 3) := by decide +kernel
theorem dX11_back_9 : decode cX11_back 9 = .ok (.aload_n 0, 1) := by decide +kernel
theorem dX11_back_10 : decode cX11_back 10 = .ok (.getfield 78, 3) := by decide +kernel
theorem dX11_back_13 : decode cX11_back 13 = .ok (.iload_n 1, 1) := by decide +kernel
theorem dX11_back_14 : decode cX11_back 14 = .ok (.invokevirtual 333, 3) := by decide +kernel
theorem dX11_back_17 : decode cX11_back 17 = .ok (.ifCond .ne 5, 3) := by decide +kernel
theorem dX11_back_20 : decode cX11_back 20 = .ok (.iconst (-1), 1) := by decide +kernel
theorem dX11_back_21 : decode cX11_back 21 = .ok (.ireturn, 1) := by decide +kernel
theorem dX11_back_22 : decode cX11_back 22 = .ok (.aload_n 0, 1) := by decide +kernel
theorem dX11_back_23 : decode cX11_back 23 = .ok (.getfield 37, 3) := by decide +kernel
theorem dX11_back_26 : decode cX11_back 26 = .ok (.getfield 332, 3) := by decide +kernel
theorem dX11_back_29 : decode cX11_back 29 = .ok (.ireturn, 1) := by decide +kernel
theorem dX11_about_0 : decode cX11_about 0 = .ok (.iload_n 1, 1) := by decide +kernel
theorem dX11_about_1 : decode cX11_about 1 = .ok (.tableswitch 213 0 14 #[75, 83, 91, 99, 107, 115, 140, 150, 160, 168, 176, 184, 192, 200, 208], 75) := by decide +kernel
theorem dX11_about_76 : decode cX11_about 76 = .ok (.aload_n 0, 1) := by decide +kernel
theorem dX11_about_77 : decode cX11_about 77 = .ok (.getfield 28, 3) := by decide +kernel
theorem dX11_about_80 : decode cX11_about 80 = .ok (.getfield 128, 3) := by decide +kernel
theorem dX11_about_83 : decode cX11_about 83 = .ok (.ireturn, 1) := by decide +kernel
theorem dX11_about_84 : decode cX11_about 84 = .ok (.aload_n 0, 1) := by decide +kernel
theorem dX11_about_85 : decode cX11_about 85 = .ok (.getfield 37, 3) := by decide +kernel
theorem dX11_about_88 : decode cX11_about 88 = .ok (.getfield 332, 3) := by decide +kernel
theorem dX11_about_91 : decode cX11_about 91 = .ok (.ireturn, 1) := by decide +kernel
theorem dX11_about_92 : decode cX11_about 92 = .ok (.aload_n 0, 1) := by decide +kernel
theorem dX11_about_93 : decode cX11_about 93 = .ok (.getfield 37, 3) := by decide +kernel
theorem dX11_about_96 : decode cX11_about 96 = .ok (.getfield 336, 3) := by decide +kernel
theorem dX11_about_99 : decode cX11_about 99 = .ok (.ireturn, 1) := by decide +kernel
theorem dX11_about_100 : decode cX11_about 100 = .ok (.aload_n 0, 1) := by decide +kernel
theorem dX11_about_101 : decode cX11_about 101 = .ok (.getfield 37, 3) := by decide +kernel
theorem dX11_about_104 : decode cX11_about 104 = .ok (.getfield 187, 3) := by decide +kernel
theorem dX11_about_107 : decode cX11_about 107 = .ok (.ireturn, 1) := by decide +kernel
theorem dX11_about_108 : decode cX11_about 108 = .ok (.aload_n 0, 1) := by decide +kernel
theorem dX11_about_109 : decode cX11_about 109 = .ok (.getfield 28, 3) := by decide +kernel
theorem dX11_about_112 : decode cX11_about 112 = .ok (.getfield 339, 3) := by decide +kernel
theorem dX11_about_115 : decode cX11_about 115 = .ok (.ireturn, 1) := by decide +kernel
theorem dX11_about_116 : decode cX11_about 116 = .ok (.aload_n 0, 1) := by decide +kernel
theorem dX11_about_117 : decode cX11_about 117 = .ok (.getfield 69, 3) := by decide +kernel
theorem dX11_about_120 : decode cX11_about 120 = .ok (.aload_n 0, 1) := by decide +kernel
theorem dX11_about_121 : decode cX11_about 121 = .ok (.getfield 37, 3) := by decide +kernel
theorem dX11_about_124 : decode cX11_about 124 = .ok (.getfield 227, 3) := by decide +kernel
theorem dX11_about_127 : decode cX11_about 127 = .ok (.iconst 2, 1) := by decide +kernel
theorem dX11_about_128 : decode cX11_about 128 = .ok (.iaload, 1) := by decide +kernel
theorem dX11_about_129 : decode cX11_about 129 = .ok (.invokevirtual 342, 3) := by decide +kernel
theorem dX11_about_132 : decode cX11_about 132 = .ok (.ifCond .eq 7, 3) := by decide +kernel
theorem dX11_about_135 : decode cX11_about 135 = .ok (.iconst 1, 1) := by decide +kernel
theorem dX11_about_136 : decode cX11_about 136 = .ok (.goto 4, 3) := by decide +kernel
theorem dX11_about_139 : decode cX11_about 139 = .ok (.iconst 0, 1) := by decide +kernel
theorem dX11_about_140 : decode cX11_about 140 = .ok (.ireturn, 1) := by decide +kernel
theorem dX11_about_141 : decode cX11_about 141 = .ok (.aload_n 0, 1) := by decide +kernel
theorem dX11_about_142 : decode cX11_about 142 = .ok (.getfield 37, 3) := by decide +kernel
theorem dX11_about_145 : decode cX11_about 145 = .ok (.getfield 227, 3) := by decide +kernel
theorem dX11_about_148 : decode cX11_about 148 = .ok (.iconst 0, 1) := by decide +kernel
theorem dX11_about_149 : decode cX11_about 149 = .ok (.iaload, 1) := by decide +kernel
theorem dX11_about_150 : decode cX11_about 150 = .ok (.ireturn, 1) := by decide +kernel
theorem dX11_about_151 : decode cX11_about 151 = .ok (.aload_n 0, 1) := by decide +kernel
theorem dX11_about_152 : decode cX11_about 152 = .ok (.getfield 37, 3) := by decide +kernel
theorem dX11_about_155 : decode cX11_about 155 = .ok (.getfield 227, 3) := by decide +kernel
theorem dX11_about_158 : decode cX11_about 158 = .ok (.iconst 2, 1) := by decide +kernel
theorem dX11_about_159 : decode cX11_about 159 = .ok (.iaload, 1) := by decide +kernel
theorem dX11_about_160 : decode cX11_about 160 = .ok (.ireturn, 1) := by decide +kernel
theorem dX11_about_161 : decode cX11_about 161 = .ok (.aload_n 0, 1) := by decide +kernel
theorem dX11_about_162 : decode cX11_about 162 = .ok (.getfield 78, 3) := by decide +kernel
theorem dX11_about_165 : decode cX11_about 165 = .ok (.getfield 345, 3) := by decide +kernel
theorem dX11_about_168 : decode cX11_about 168 = .ok (.ireturn, 1) := by decide +kernel
theorem dX11_about_169 : decode cX11_about 169 = .ok (.aload_n 0, 1) := by decide +kernel
theorem dX11_about_170 : decode cX11_about 170 = .ok (.getfield 78, 3) := by decide +kernel
theorem dX11_about_173 : decode cX11_about 173 = .ok (.getfield 348, 3) := by decide +kernel
theorem dX11_about_176 : decode cX11_about 176 = .ok (.ireturn, 1) := by decide +kernel
theorem dX11_about_177 : decode cX11_about 177 = .ok (.aload_n 0, 1) := by decide +kernel
theorem dX11_about_178 : decode cX11_about 178 = .ok (.getfield 87, 3) := by decide +kernel
theorem dX11_about_181 : decode cX11_about 181 = .ok (.getfield 351, 3) := by decide +kernel
theorem dX11_about_184 : decode cX11_about 184 = .ok (.ireturn, 1) := by decide +kernel
theorem dX11_about_185 : decode cX11_about 185 = .ok (.aload_n 0, 1) := by decide +kernel
theorem dX11_about_186 : decode cX11_about 186 = .ok (.getfield 87, 3) := by decide +kernel
theorem dX11_about_189 : decode cX11_about 189 = .ok (.getfield 352, 3) := by decide +kernel
theorem dX11_about_192 : decode cX11_about 192 = .ok (.ireturn, 1) := by decide +kernel
theorem dX11_about_193 : decode cX11_about 193 = .ok (.aload_n 0, 1) := by decide +kernel
theorem dX11_about_194 : decode cX11_about 194 = .ok (.getfield 10, 3) := by decide +kernel
theorem dX11_about_197 : decode cX11_about 197 = .ok (.getfield 102, 3) := by decide +kernel
theorem dX11_about_200 : decode cX11_about 200 = .ok (.ireturn, 1) := by decide +kernel
theorem dX11_about_201 : decode cX11_about 201 = .ok (.aload_n 0, 1) := by decide +kernel
theorem dX11_about_202 : decode cX11_about 202 = .ok (.getfield 28, 3) := by decide +kernel
theorem dX11_about_205 : decode cX11_about 205 = .ok (.getfield 355, 3) := by decide +kernel
theorem dX11_about_208 : decode cX11_about 208 = .ok (.ireturn, 1) := by decide +kernel
theorem dX11_about_209 : decode cX11_about 209 = .ok (.aload_n 0, 1) := by decide +kernel
theorem dX11_about_210 : decode cX11_about 210 = .ok (.getfield 95, 3) := by decide +kernel
theorem dX11_about_213 : decode cX11_about 213 = .ok (.ireturn, 1) := by decide +kernel
theorem dX11_about_214 : decode cX11_about 214 = .ok (.iconst (-1), 1) := by decide +kernel
theorem dX11_about_215 : decode cX11_about 215 = .ok (.ireturn, 1) := by decide +kernel
theorem dX11_isTold_0 : decode cX11_isTold 0 = .ok (.iload_n 1, 1) := by decide +kernel
theorem dX11_isTold_1 : decode cX11_isTold 1 = .ok (.ifCond .lt 18, 3) := by decide +kernel
theorem dX11_isTold_4 : decode cX11_isTold 4 = .ok (.iload_n 1, 1) := by decide +kernel
theorem dX11_isTold_5 : decode cX11_isTold 5 = .ok (.aload_n 0, 1) := by decide +kernel
theorem dX11_isTold_6 : decode cX11_isTold 6 = .ok (.getfield 28, 3) := by decide +kernel
theorem dX11_isTold_9 : decode cX11_isTold 9 = .ok (.getfield 128, 3) := by decide +kernel
theorem dX11_isTold_12 : decode cX11_isTold 12 = .ok (.if_icmp .ge 7, 3) := by decide +kernel
theorem dX11_isTold_15 : decode cX11_isTold 15 = .ok (.iconst 1, 1) := by decide +kernel
theorem dX11_isTold_16 : decode cX11_isTold 16 = .ok (.goto 4, 3) := by decide +kernel
theorem dX11_isTold_19 : decode cX11_isTold 19 = .ok (.iconst 0, 1) := by decide +kernel
theorem dX11_isTold_20 : decode cX11_isTold 20 = .ok (.ireturn, 1) := by decide +kernel
theorem dX11_isWaiting_0 : decode cX11_isWaiting 0 = .ok (.aload_n 0, 1) := by decide +kernel
theorem dX11_isWaiting_1 : decode cX11_isWaiting 1 = .ok (.iload_n 1, 1) := by decide +kernel
theorem dX11_isWaiting_2 : decode cX11_isWaiting 2 = .ok (.invokevirtual 137, 3) := by decide +kernel
theorem dX11_isWaiting_5 : decode cX11_isWaiting 5 = .ok (.ifCond .eq 18, 3) := by decide +kernel
theorem dX11_isWaiting_8 : decode cX11_isWaiting 8 = .ok (.aload_n 0, 1) := by decide +kernel
theorem dX11_isWaiting_9 : decode cX11_isWaiting 9 = .ok (.getfield 37, 3) := by decide +kernel
theorem dX11_isWaiting_12 : decode cX11_isWaiting 12 = .ok (.iload_n 1, 1) := by decide +kernel
theorem dX11_isWaiting_13 : decode cX11_isWaiting 13 = .ok (.invokevirtual 154, 3) := by decide +kernel
theorem dX11_isWaiting_16 : decode cX11_isWaiting 16 = .ok (.ifCond .eq 7, 3) := by decide +kernel
theorem dX11_isWaiting_19 : decode cX11_isWaiting 19 = .ok (.iconst 1, 1) := by decide +kernel
theorem dX11_isWaiting_20 : decode cX11_isWaiting 20 = .ok (.goto 4, 3) := by decide +kernel
theorem dX11_isWaiting_23 : decode cX11_isWaiting 23 = .ok (.iconst 0, 1) := by decide +kernel
theorem dX11_isWaiting_24 : decode cX11_isWaiting 24 = .ok (.ireturn, 1) := by decide +kernel
theorem dX11_canBeDrawn_0 : decode cX11_canBeDrawn 0 = .ok (.iload_n 1, 1) := by decide +kernel
theorem dX11_canBeDrawn_1 : decode cX11_canBeDrawn 1 = .ok (.aload_n 0, 1) := by decide +kernel
theorem dX11_canBeDrawn_2 : decode cX11_canBeDrawn 2 = .ok (.getfield 37, 3) := by decide +kernel
theorem dX11_canBeDrawn_5 : decode cX11_canBeDrawn 5 = .ok (.getfield 227, 3) := by decide +kernel
theorem dX11_canBeDrawn_8 : decode cX11_canBeDrawn 8 = .ok (.iconst 0, 1) := by decide +kernel
theorem dX11_canBeDrawn_9 : decode cX11_canBeDrawn 9 = .ok (.iaload, 1) := by decide +kernel
theorem dX11_canBeDrawn_10 : decode cX11_canBeDrawn 10 = .ok (.iconst (-1), 1) := by decide +kernel
theorem dX11_canBeDrawn_11 : decode cX11_canBeDrawn 11 = .ok (.ixor, 1) := by decide +kernel
theorem dX11_canBeDrawn_12 : decode cX11_canBeDrawn 12 = .ok (.iand, 1) := by decide +kernel
theorem dX11_canBeDrawn_13 : decode cX11_canBeDrawn 13 = .ok (.ifCond .ne 7, 3) := by decide +kernel
theorem dX11_canBeDrawn_16 : decode cX11_canBeDrawn 16 = .ok (.iconst 1, 1) := by decide +kernel
theorem dX11_canBeDrawn_17 : decode cX11_canBeDrawn 17 = .ok (.goto 4, 3) := by decide +kernel
theorem dX11_canBeDrawn_20 : decode cX11_canBeDrawn 20 = .ok (.iconst 0, 1) := by decide +kernel
theorem dX11_canBeDrawn_21 : decode cX11_canBeDrawn 21 = .ok (.istore_n 3, 1) := by decide +kernel
theorem dX11_canBeDrawn_22 : decode cX11_canBeDrawn 22 = .ok (.iload_n 3, 1) := by decide +kernel
theorem dX11_canBeDrawn_23 : decode cX11_canBeDrawn 23 = .ok (.ifCond .eq 24, 3) := by decide +kernel
theorem dX11_canBeDrawn_26 : decode cX11_canBeDrawn 26 = .ok (.iload_n 1, 1) := by decide +kernel
theorem dX11_canBeDrawn_27 : decode cX11_canBeDrawn 27 = .ok (.invokestatic 267, 3) := by decide +kernel
theorem dX11_canBeDrawn_30 : decode cX11_canBeDrawn 30 = .ok (.iconst 4, 1) := by decide +kernel
theorem dX11_canBeDrawn_31 : decode cX11_canBeDrawn 31 = .ok (.if_icmp .gt 16, 3) := by decide +kernel
theorem dX11_canBeDrawn_34 : decode cX11_canBeDrawn 34 = .ok (.iload_n 2, 1) := by decide +kernel
theorem dX11_canBeDrawn_35 : decode cX11_canBeDrawn 35 = .ok (.ifCond .eq 8, 3) := by decide +kernel
theorem dX11_canBeDrawn_38 : decode cX11_canBeDrawn 38 = .ok (.iload_n 2, 1) := by decide +kernel
theorem dX11_canBeDrawn_39 : decode cX11_canBeDrawn 39 = .ok (.iconst 1, 1) := by decide +kernel
theorem dX11_canBeDrawn_40 : decode cX11_canBeDrawn 40 = .ok (.if_icmp .ne 7, 3) := by decide +kernel
theorem dX11_canBeDrawn_43 : decode cX11_canBeDrawn 43 = .ok (.iconst 1, 1) := by decide +kernel
theorem dX11_canBeDrawn_44 : decode cX11_canBeDrawn 44 = .ok (.goto 4, 3) := by decide +kernel
theorem dX11_canBeDrawn_47 : decode cX11_canBeDrawn 47 = .ok (.iconst 0, 1) := by decide +kernel
theorem dX11_canBeDrawn_48 : decode cX11_canBeDrawn 48 = .ok (.ireturn, 1) := by decide +kernel
theorem dX11_lay_0 : decode cX11_lay 0 = .ok (.aload_n 0, 1) := by decide +kernel
theorem dX11_lay_1 : decode cX11_lay 1 = .ok (.iload_n 2, 1) := by decide +kernel
theorem dX11_lay_2 : decode cX11_lay 2 = .ok (.putfield 95, 3) := by decide +kernel
theorem dX11_lay_5 : decode cX11_lay 5 = .ok (.aload_n 1, 1) := by decide +kernel
theorem dX11_lay_6 : decode cX11_lay 6 = .ok (.iconst 0, 1) := by decide +kernel
theorem dX11_lay_7 : decode cX11_lay 7 = .ok (.aload_n 0, 1) := by decide +kernel
theorem dX11_lay_8 : decode cX11_lay 8 = .ok (.getfield 91, 3) := by decide +kernel
theorem dX11_lay_11 : decode cX11_lay 11 = .ok (.iconst 0, 1) := by decide +kernel
theorem dX11_lay_12 : decode cX11_lay 12 = .ok (.iload_n 2, 1) := by decide +kernel
theorem dX11_lay_13 : decode cX11_lay 13 = .ok (.invokestatic 358, 3) := by decide +kernel
theorem dX11_lay_16 : decode cX11_lay 16 = .ok (.return_, 1) := by decide +kernel
theorem dX12_init_0 : decode cX12_init 0 = .ok (.aload_n 0, 1) := by decide +kernel
theorem dX12_init_1 : decode cX12_init 1 = .ok (.invokespecial 1, 3) := by decide +kernel
theorem dX12_init_4 : decode cX12_init 4 = .ok (.aload_n 0, 1) := by decide +kernel
theorem dX12_init_5 : decode cX12_init 5 = .ok (.sipush 1600, 3) := by decide +kernel
theorem dX12_init_8 : decode cX12_init 8 = .ok (.newarray .int, 2) := by decide +kernel
theorem dX12_init_10 : decode cX12_init 10 = .ok (.putfield 7, 3) := by decide +kernel
theorem dX12_init_13 : decode cX12_init 13 = .ok (.aload_n 0, 1) := by decide +kernel
theorem dX12_init_14 : decode cX12_init 14 = .ok (.iconst (-1), 1) := by decide +kernel
theorem dX12_init_15 : decode cX12_init 15 = .ok (.putfield 13, 3) := by decide +kernel
theorem dX12_init_18 : decode cX12_init 18 = .ok (.aload_n 0, 1) := by decide +kernel
theorem dX12_init_19 : decode cX12_init 19 = .ok (.bipush 7, 2) := by decide +kernel
theorem dX12_init_21 : decode cX12_init 21 = .ok (.newarray .long, 2) := by decide +kernel
theorem dX12_init_23 : decode cX12_init 23 = .ok (.putfield 17, 3) := by decide +kernel
theorem dX12_init_26 : decode cX12_init 26 = .ok (.aload_n 0, 1) := by decide +kernel
theorem dX12_init_27 : decode cX12_init 27 = .ok (.sipush 640, 3) := by decide +kernel
theorem dX12_init_30 : decode cX12_init 30 = .ok (.newarray .int, 2) := by decide +kernel
theorem dX12_init_32 : decode cX12_init 32 = .ok (.putfield 21, 3) := by decide +kernel
theorem dX12_init_35 : decode cX12_init 35 = .ok (.aload_n 0, 1) := by decide +kernel
theorem dX12_init_36 : decode cX12_init 36 = .ok (.sipush 640, 3) := by decide +kernel
theorem dX12_init_39 : decode cX12_init 39 = .ok (.newarray .int, 2) := by decide +kernel
theorem dX12_init_41 : decode cX12_init 41 = .ok (.putfield 24, 3) := by decide +kernel
theorem dX12_init_44 : decode cX12_init 44 = .ok (.aload_n 0, 1) := by decide +kernel
theorem dX12_init_45 : decode cX12_init 45 = .ok (.iconst 2, 1) := by decide +kernel
theorem dX12_init_46 : decode cX12_init 46 = .ok (.newarray .int, 2) := by decide +kernel
theorem dX12_init_48 : decode cX12_init 48 = .ok (.putfield 27, 3) := by decide +kernel
theorem dX12_init_51 : decode cX12_init 51 = .ok (.aload_n 0, 1) := by decide +kernel
theorem dX12_init_52 : decode cX12_init 52 = .ok (.sipush 640, 3) := by decide +kernel
theorem dX12_init_55 : decode cX12_init 55 = .ok (.newarray .int, 2) := by decide +kernel
theorem dX12_init_57 : decode cX12_init 57 = .ok (.putfield 30, 3) := by decide +kernel
theorem dX12_init_60 : decode cX12_init 60 = .ok (.aload_n 0, 1) := by decide +kernel
theorem dX12_init_61 : decode cX12_init 61 = .ok (.sipush 640, 3) := by decide +kernel
theorem dX12_init_64 : decode cX12_init 64 = .ok (.newarray .int, 2) := by decide +kernel
theorem dX12_init_66 : decode cX12_init 66 = .ok (.putfield 33, 3) := by decide +kernel
theorem dX12_init_69 : decode cX12_init 69 = .ok (.aload_n 0, 1) := by decide +kernel
theorem dX12_init_70 : decode cX12_init 70 = .ok (.iconst 2, 1) := by decide +kernel
theorem dX12_init_71 : decode cX12_init 71 = .ok (.newarray .int, 2) := by decide +kernel
theorem dX12_init_73 : decode cX12_init 73 = .ok (.putfield 36, 3) := by decide +kernel
theorem dX12_init_76 : decode cX12_init 76 = .ok (.aload_n 0, 1) := by decide +kernel
theorem dX12_init_77 : decode cX12_init 77 = .ok (.sipush 160, 3) := by decide +kernel
theorem dX12_init_80 : decode cX12_init 80 = .ok (.newarray .int, 2) := by decide +kernel
theorem dX12_init_82 : decode cX12_init 82 = .ok (.putfield 39, 3) := by decide +kernel
theorem dX12_init_85 : decode cX12_init 85 = .ok (.aload_n 0, 1) := by decide +kernel
theorem dX12_init_86 : decode cX12_init 86 = .ok (.bipush 64, 2) := by decide +kernel
theorem dX12_init_88 : decode cX12_init 88 = .ok (.newarray .int, 2) := by decide +kernel
theorem dX12_init_90 : decode cX12_init 90 = .ok (.putfield 42, 3) := by decide +kernel
theorem dX12_init_93 : decode cX12_init 93 = .ok (.aload_n 0, 1) := by decide +kernel
theorem dX12_init_94 : decode cX12_init 94 = .ok (.iconst 2, 1) := by decide +kernel
theorem dX12_init_95 : decode cX12_init 95 = .ok (.newarray .boolean, 2) := by decide +kernel
theorem dX12_init_97 : decode cX12_init 97 = .ok (.putfield 45, 3) := by decide +kernel
theorem dX12_init_100 : decode cX12_init 100 = .ok (.aload_n 0, 1) := by decide +kernel
theorem dX12_init_101 : decode cX12_init 101 = .ok (.bipush 6, 2) := by decide +kernel
theorem dX12_init_103 : decode cX12_init 103 = .ok (.newarray .int, 2) := by decide +kernel
theorem dX12_init_105 : decode cX12_init 105 = .ok (.putfield 49, 3) := by decide +kernel
theorem dX12_init_108 : decode cX12_init 108 = .ok (.aload_n 0, 1) := by decide +kernel
theorem dX12_init_109 : decode cX12_init 109 = .ok (.bipush 7, 2) := by decide +kernel
theorem dX12_init_111 : decode cX12_init 111 = .ok (.newarray .int, 2) := by decide +kernel
theorem dX12_init_113 : decode cX12_init 113 = .ok (.putfield 52, 3) := by decide +kernel
theorem dX12_init_116 : decode cX12_init 116 = .ok (.aload_n 0, 1) := by decide +kernel
theorem dX12_init_117 : decode cX12_init 117 = .ok (.bipush 7, 2) := by decide +kernel
theorem dX12_init_119 : decode cX12_init 119 = .ok (.newarray .int, 2) := by decide +kernel
theorem dX12_init_121 : decode cX12_init 121 = .ok (.putfield 55, 3) := by decide +kernel
theorem dX12_init_124 : decode cX12_init 124 = .ok (.aload_n 0, 1) := by decide +kernel
theorem dX12_init_125 : decode cX12_init 125 = .ok (.bipush 7, 2) := by decide +kernel
theorem dX12_init_127 : decode cX12_init 127 = .ok (.newarray .int, 2) := by decide +kernel
theorem dX12_init_129 : decode cX12_init 129 = .ok (.putfield 58, 3) := by decide +kernel
theorem dX12_init_132 : decode cX12_init 132 = .ok (.aload_n 0, 1) := by decide +kernel
theorem dX12_init_133 : decode cX12_init 133 = .ok (.bipush 7, 2) := by decide +kernel
theorem dX12_init_135 : decode cX12_init 135 = .ok (.newarray .int, 2) := by decide +kernel
theorem dX12_init_137 : decode cX12_init 137 = .ok (.putfield 61, 3) := by decide +kernel
theorem dX12_init_140 : decode cX12_init 140 = .ok (.aload_n 0, 1) := by decide +kernel
theorem dX12_init_141 : decode cX12_init 141 = .ok (.bipush 7, 2) := by decide +kernel
theorem dX12_init_143 : decode cX12_init 143 = .ok (.newarray .int, 2) := by decide +kernel
theorem dX12_init_145 : decode cX12_init 145 = .ok (.putfield 64, 3) := by decide +kernel
theorem dX12_init_148 : decode cX12_init 148 = .ok (.aload_n 0, 1) := by decide +kernel
theorem dX12_init_149 : decode cX12_init 149 = .ok (.bipush 7, 2) := by decide +kernel
theorem dX12_init_151 : decode cX12_init 151 = .ok (.newarray .int, 2) := by decide +kernel
theorem dX12_init_153 : decode cX12_init 153 = .ok (.putfield 67, 3) := by decide +kernel
theorem dX12_init_156 : decode cX12_init 156 = .ok (.aload_n 0, 1) := by decide +kernel
theorem dX12_init_157 : decode cX12_init 157 = .ok (.bipush 49, 2) := by decide +kernel
theorem dX12_init_159 : decode cX12_init 159 = .ok (.newarray .int, 2) := by decide +kernel
theorem dX12_init_161 : decode cX12_init 161 = .ok (.putfield 70, 3) := by decide +kernel
theorem dX12_init_164 : decode cX12_init 164 = .ok (.aload_n 0, 1) := by decide +kernel
theorem dX12_init_165 : decode cX12_init 165 = .ok (.bipush 7, 2) := by decide +kernel
theorem dX12_init_167 : decode cX12_init 167 = .ok (.newarray .int, 2) := by decide +kernel
theorem dX12_init_169 : decode cX12_init 169 = .ok (.putfield 73, 3) := by decide +kernel
theorem dX12_init_172 : decode cX12_init 172 = .ok (.aload_n 0, 1) := by decide +kernel
theorem dX12_init_173 : decode cX12_init 173 = .ok (.bipush 7, 2) := by decide +kernel
theorem dX12_init_175 : decode cX12_init 175 = .ok (.newarray .int, 2) := by decide +kernel
theorem dX12_init_177 : decode cX12_init 177 = .ok (.putfield 76, 3) := by decide +kernel
theorem dX12_init_180 : decode cX12_init 180 = .ok (.aload_n 0, 1) := by decide +kernel
theorem dX12_init_181 : decode cX12_init 181 = .ok (.bipush 7, 2) := by decide +kernel
theorem dX12_init_183 : decode cX12_init 183 = .ok (.newarray .int, 2) := by decide +kernel
theorem dX12_init_185 : decode cX12_init 185 = .ok (.putfield 79, 3) := by decide +kernel
theorem dX12_init_188 : decode cX12_init 188 = .ok (.aload_n 0, 1) := by decide +kernel
theorem dX12_init_189 : decode cX12_init 189 = .ok (.bipush 7, 2) := by decide +kernel
theorem dX12_init_191 : decode cX12_init 191 = .ok (.newarray .int, 2) := by decide +kernel
theorem dX12_init_193 : decode cX12_init 193 = .ok (.putfield 82, 3) := by decide +kernel
theorem dX12_init_196 : decode cX12_init 196 = .ok (.aload_n 0, 1) := by decide +kernel
theorem dX12_init_197 : decode cX12_init 197 = .ok (.bipush 7, 2) := by decide +kernel
theorem dX12_init_199 : decode cX12_init 199 = .ok (.newarray .int, 2) := by decide +kernel
theorem dX12_init_201 : decode cX12_init 201 = .ok (.putfield 85, 3) := by decide +kernel
theorem dX12_init_204 : decode cX12_init 204 = .ok (.aload_n 0, 1) := by decide +kernel
theorem dX12_init_205 : decode cX12_init 205 = .ok (.bipush 7, 2) := by decide +kernel
theorem dX12_init_207 : decode cX12_init 207 = .ok (.newarray .int, 2) := by decide +kernel
theorem dX12_init_209 : decode cX12_init 209 = .ok (.putfield 88, 3) := by decide +kernel
theorem dX12_init_212 : decode cX12_init 212 = .ok (.aload_n 0, 1) := by decide +kernel
theorem dX12_init_213 : decode cX12_init 213 = .ok (.bipush 49, 2) := by decide +kernel
theorem dX12_init_215 : decode cX12_init 215 = .ok (.newarray .int, 2) := by decide +kernel
theorem dX12_init_217 : decode cX12_init 217 = .ok (.putfield 91, 3) := by decide +kernel
theorem dX12_init_220 : decode cX12_init 220 = .ok (.aload_n 0, 1) := by decide +kernel
theorem dX12_init_221 : decode cX12_init 221 = .ok (.bipush 100, 2) := by decide +kernel
theorem dX12_init_223 : decode cX12_init 223 = .ok (.putfield 94, 3) := by decide +kernel
theorem dX12_init_226 : decode cX12_init 226 = .ok (.aload_n 0, 1) := by decide +kernel
theorem dX12_init_227 : decode cX12_init 227 = .ok (.bipush 24, 2) := by decide +kernel
theorem dX12_init_229 : decode cX12_init 229 = .ok (.newarray .int, 2) := by decide +kernel
theorem dX12_init_231 : decode cX12_init 231 = .ok (.putfield 97, 3) := by decide +kernel
theorem dX12_init_234 : decode cX12_init 234 = .ok (.aload_n 0, 1) := by decide +kernel
theorem dX12_init_235 : decode cX12_init 235 = .ok (.bipush 24, 2) := by decide +kernel
theorem dX12_init_237 : decode cX12_init 237 = .ok (.newarray .int, 2) := by decide +kernel
theorem dX12_init_239 : decode cX12_init 239 = .ok (.putfield 100, 3) := by decide +kernel
theorem dX12_init_242 : decode cX12_init 242 = .ok (.aload_n 0, 1) := by decide +kernel
theorem dX12_init_243 : decode cX12_init 243 = .ok (.bipush 7, 2) := by decide +kernel
theorem dX12_init_245 : decode cX12_init 245 = .ok (.newarray .int, 2) := by decide +kernel
theorem dX12_init_247 : decode cX12_init 247 = .ok (.putfield 103, 3) := by decide +kernel
theorem dX12_init_250 : decode cX12_init 250 = .ok (.aload_n 0, 1) := by decide +kernel
theorem dX12_init_251 : decode cX12_init 251 = .ok (.bipush 7, 2) := by decide +kernel
theorem dX12_init_253 : decode cX12_init 253 = .ok (.newarray .int, 2) := by decide +kernel
theorem dX12_init_255 : decode cX12_init 255 = .ok (.putfield 106, 3) := by decide +kernel
theorem dX12_init_258 : decode cX12_init 258 = .ok (.aload_n 0, 1) := by decide +kernel
theorem dX12_init_259 : decode cX12_init 259 = .ok (.sipush 960, 3) := by decide +kernel
theorem dX12_init_262 : decode cX12_init 262 = .ok (.newarray .int, 2) := by decide +kernel
theorem dX12_init_264 : decode cX12_init 264 = .ok (.putfield 109, 3) := by decide +kernel
theorem dX12_init_267 : decode cX12_init 267 = .ok (.aload_n 0, 1) := by decide +kernel
theorem dX12_init_268 : decode cX12_init 268 = .ok (.bipush 7, 2) := by decide +kernel
theorem dX12_init_270 : decode cX12_init 270 = .ok (.newarray .int, 2) := by decide +kernel
theorem dX12_init_272 : decode cX12_init 272 = .ok (.putfield 112, 3) := by decide +kernel
theorem dX12_init_275 : decode cX12_init 275 = .ok (.aload_n 0, 1) := by decide +kernel
theorem dX12_init_276 : decode cX12_init 276 = .ok (.bipush 8, 2) := by decide +kernel
theorem dX12_init_278 : decode cX12_init 278 = .ok (.newarray .int, 2) := by decide +kernel
theorem dX12_init_280 : decode cX12_init 280 = .ok (.putfield 115, 3) := by decide +kernel
theorem dX12_init_283 : decode cX12_init 283 = .ok (.aload_n 0, 1) := by decide +kernel
theorem dX12_init_284 : decode cX12_init 284 = .ok (.sipush 192, 3) := by decide +kernel
theorem dX12_init_287 : decode cX12_init 287 = .ok (.newarray .int, 2) := by decide +kernel
theorem dX12_init_289 : decode cX12_init 289 = .ok (.putfield 118, 3) := by decide +kernel
theorem dX12_init_292 : decode cX12_init 292 = .ok (.aload_n 0, 1) := by decide +kernel
theorem dX12_init_293 : decode cX12_init 293 = .ok (.bipush 30, 2) := by decide +kernel
theorem dX12_init_295 : decode cX12_init 295 = .ok (.newarray .int, 2) := by decide +kernel
theorem dX12_init_297 : decode cX12_init 297 = .ok (.putfield 121, 3) := by decide +kernel
theorem dX12_init_300 : decode cX12_init 300 = .ok (.aload_n 0, 1) := by decide +kernel
theorem dX12_init_301 : decode cX12_init 301 = .ok (.bipush 30, 2) := by decide +kernel
theorem dX12_init_303 : decode cX12_init 303 = .ok (.newarray .int, 2) := by decide +kernel
theorem dX12_init_305 : decode cX12_init 305 = .ok (.putfield 124, 3) := by decide +kernel
theorem dX12_init_308 : decode cX12_init 308 = .ok (.aload_n 0, 1) := by decide +kernel
theorem dX12_init_309 : decode cX12_init 309 = .ok (.bipush 30, 2) := by decide +kernel
theorem dX12_init_311 : decode cX12_init 311 = .ok (.newarray .int, 2) := by decide +kernel
theorem dX12_init_313 : decode cX12_init 313 = .ok (.putfield 127, 3) := by decide +kernel
theorem dX12_init_316 : decode cX12_init 316 = .ok (.aload_n 0, 1) := by decide +kernel
theorem dX12_init_317 : decode cX12_init 317 = .ok (.bipush 30, 2) := by decide +kernel
theorem dX12_init_319 : decode cX12_init 319 = .ok (.newarray .int, 2) := by decide +kernel
theorem dX12_init_321 : decode cX12_init 321 = .ok (.putfield 130, 3) := by decide +kernel
theorem dX12_init_324 : decode cX12_init 324 = .ok (.aload_n 0, 1) := by decide +kernel
theorem dX12_init_325 : decode cX12_init 325 = .ok (.bipush 30, 2) := by decide +kernel
theorem dX12_init_327 : decode cX12_init 327 = .ok (.newarray .boolean, 2) := by decide +kernel
theorem dX12_init_329 : decode cX12_init 329 = .ok (.putfield 133, 3) := by decide +kernel
theorem dX12_init_332 : decode cX12_init 332 = .ok (.aload_n 0, 1) := by decide +kernel
theorem dX12_init_333 : decode cX12_init 333 = .ok (.sipush 700, 3) := by decide +kernel
theorem dX12_init_336 : decode cX12_init 336 = .ok (.newarray .int, 2) := by decide +kernel
theorem dX12_init_338 : decode cX12_init 338 = .ok (.putfield 136, 3) := by decide +kernel
theorem dX12_init_341 : decode cX12_init 341 = .ok (.aload_n 0, 1) := by decide +kernel
theorem dX12_init_342 : decode cX12_init 342 = .ok (.bipush 100, 2) := by decide +kernel
theorem dX12_init_344 : decode cX12_init 344 = .ok (.newarray .boolean, 2) := by decide +kernel
theorem dX12_init_346 : decode cX12_init 346 = .ok (.putfield 139, 3) := by decide +kernel
theorem dX12_init_349 : decode cX12_init 349 = .ok (.aload_n 0, 1) := by decide +kernel
theorem dX12_init_350 : decode cX12_init 350 = .ok (.iconst 3, 1) := by decide +kernel
theorem dX12_init_351 : decode cX12_init 351 = .ok (.newarray .boolean, 2) := by decide +kernel
theorem dX12_init_353 : decode cX12_init 353 = .ok (.putfield 142, 3) := by decide +kernel
theorem dX12_init_356 : decode cX12_init 356 = .ok (.aload_n 0, 1) := by decide +kernel
theorem dX12_init_357 : decode cX12_init 357 = .ok (.bipush 72, 2) := by decide +kernel
theorem dX12_init_359 : decode cX12_init 359 = .ok (.newarray .int, 2) := by decide +kernel
theorem dX12_init_361 : decode cX12_init 361 = .ok (.putfield 145, 3) := by decide +kernel
theorem dX12_init_364 : decode cX12_init 364 = .ok (.return_, 1) := by decide +kernel
theorem dX12_feed_0 : decode cX12_feed 0 = .ok (.aload_n 0, 1) := by decide +kernel
theorem dX12_feed_1 : decode cX12_feed 1 = .ok (.getfield 148, 3) := by decide +kernel
theorem dX12_feed_4 : decode cX12_feed 4 = .ok (.bipush 20, 2) := by decide +kernel
theorem dX12_feed_6 : decode cX12_feed 6 = .ok (.iadd, 1) := by decide +kernel
theorem dX12_feed_7 : decode cX12_feed 7 = .ok (.sipush 1600, 3) := by decide +kernel
theorem dX12_feed_10 : decode cX12_feed 10 = .ok (.if_icmp .le 5, 3) := by decide +kernel
theorem dX12_feed_13 : decode cX12_feed 13 = .ok (.iconst (-1), 1) := by decide +kernel
theorem dX12_feed_14 : decode cX12_feed 14 = .ok (.ireturn, 1) := by decide +kernel
theorem dX12_feed_15 : decode cX12_feed 15 = .ok (.aload_n 0, 1) := by decide +kernel
theorem dX12_feed_16 : decode cX12_feed 16 = .ok (.iload_n 1, 1) := by decide +kernel
theorem dX12_feed_17 : decode cX12_feed 17 = .ok (.invokevirtual 151, 3) := by decide +kernel
theorem dX12_feed_20 : decode cX12_feed 20 = .ok (.aload_n 0, 1) := by decide +kernel
theorem dX12_feed_21 : decode cX12_feed 21 = .ok (.iload_n 2, 1) := by decide +kernel
theorem dX12_feed_22 : decode cX12_feed 22 = .ok (.invokevirtual 151, 3) := by decide +kernel
theorem dX12_feed_25 : decode cX12_feed 25 = .ok (.aload_n 0, 1) := by decide +kernel
theorem dX12_feed_26 : decode cX12_feed 26 = .ok (.iload_n 3, 1) := by decide +kernel
theorem dX12_feed_27 : decode cX12_feed 27 = .ok (.invokevirtual 151, 3) := by decide +kernel
theorem dX12_feed_30 : decode cX12_feed 30 = .ok (.aload_n 0, 1) := by decide +kernel
theorem dX12_feed_31 : decode cX12_feed 31 = .ok (.iload 4, 2) := by decide +kernel
theorem dX12_feed_33 : decode cX12_feed 33 = .ok (.invokevirtual 151, 3) := by decide +kernel
theorem dX12_feed_36 : decode cX12_feed 36 = .ok (.aload_n 0, 1) := by decide +kernel
theorem dX12_feed_37 : decode cX12_feed 37 = .ok (.iload 5, 2) := by decide +kernel
theorem dX12_feed_39 : decode cX12_feed 39 = .ok (.invokevirtual 151, 3) := by decide +kernel
theorem dX12_feed_42 : decode cX12_feed 42 = .ok (.aload_n 0, 1) := by decide +kernel
theorem dX12_feed_43 : decode cX12_feed 43 = .ok (.getfield 148, 3) := by decide +kernel
theorem dX12_feed_46 : decode cX12_feed 46 = .ok (.ireturn, 1) := by decide +kernel
theorem dX12_four_0 : decode cX12_four 0 = .ok (.bipush 24, 2) := by decide +kernel
theorem dX12_four_2 : decode cX12_four 2 = .ok (.istore_n 2, 1) := by decide +kernel
theorem dX12_four_3 : decode cX12_four 3 = .ok (.iload_n 2, 1) := by decide +kernel
theorem dX12_four_4 : decode cX12_four 4 = .ok (.ifCond .lt 35, 3) := by decide +kernel
theorem dX12_four_7 : decode cX12_four 7 = .ok (.aload_n 0, 1) := by decide +kernel
theorem dX12_four_8 : decode cX12_four 8 = .ok (.getfield 7, 3) := by decide +kernel
theorem dX12_four_11 : decode cX12_four 11 = .ok (.aload_n 0, 1) := by decide +kernel
theorem dX12_four_12 : decode cX12_four 12 = .ok (.getfield 148, 3) := by decide +kernel
theorem dX12_four_15 : decode cX12_four 15 = .ok (.iload_n 1, 1) := by decide +kernel
theorem dX12_four_16 : decode cX12_four 16 = .ok (.iload_n 2, 1) := by decide +kernel
theorem dX12_four_17 : decode cX12_four 17 = .ok (.ishr, 1) := by decide +kernel
theorem dX12_four_18 : decode cX12_four 18 = .ok (.sipush 255, 3) := by decide +kernel
theorem dX12_four_21 : decode cX12_four 21 = .ok (.iand, 1) := by decide +kernel
theorem dX12_four_22 : decode cX12_four 22 = .ok (.iastore, 1) := by decide +kernel
theorem dX12_four_23 : decode cX12_four 23 = .ok (.aload_n 0, 1) := by decide +kernel
theorem dX12_four_24 : decode cX12_four 24 = .ok (.dup, 1) := by decide +kernel
theorem dX12_four_25 : decode cX12_four 25 = .ok (.getfield 148, 3) := by decide +kernel
theorem dX12_four_28 : decode cX12_four 28 = .ok (.iconst 1, 1) := by decide +kernel
theorem dX12_four_29 : decode cX12_four 29 = .ok (.iadd, 1) := by decide +kernel
theorem dX12_four_30 : decode cX12_four 30 = .ok (.putfield 148, 3) := by decide +kernel
theorem dX12_four_33 : decode cX12_four 33 = .ok (.iinc 2 (-8), 3) := by decide +kernel
theorem dX12_four_36 : decode cX12_four 36 = .ok (.goto (-33), 3) := by decide +kernel
theorem dX12_four_39 : decode cX12_four 39 = .ok (.return_, 1) := by decide +kernel
theorem dX12_end_0 : decode cX12_end 0 = .ok (.iload_n 1, 1) := by decide +kernel
theorem dX12_end_1 : decode cX12_end 1 = .ok (.ifCond .lt 11, 3) := by decide +kernel
theorem dX12_end_4 : decode cX12_end 4 = .ok (.iload_n 1, 1) := by decide +kernel
theorem dX12_end_5 : decode cX12_end 5 = .ok (.aload_n 0, 1) := by decide +kernel
theorem dX12_end_6 : decode cX12_end 6 = .ok (.getfield 148, 3) := by decide +kernel
theorem dX12_end_9 : decode cX12_end 9 = .ok (.if_icmp .le 5, 3) := by decide +kernel
theorem dX12_end_12 : decode cX12_end 12 = .ok (.iconst (-1), 1) := by decide +kernel
theorem dX12_end_13 : decode cX12_end 13 = .ok (.ireturn, 1) := by decide +kernel
theorem dX12_end_14 : decode cX12_end 14 = .ok (.aload_n 0, 1) := by decide +kernel
theorem dX12_end_15 : decode cX12_end 15 = .ok (.iload_n 1, 1) := by decide +kernel
theorem dX12_end_16 : decode cX12_end 16 = .ok (.putfield 148, 3) := by decide +kernel
theorem dX12_end_19 : decode cX12_end 19 = .ok (.iload_n 1, 1) := by decide +kernel
theorem dX12_end_20 : decode cX12_end 20 = .ok (.ireturn, 1) := by decide +kernel
theorem dX12_here_0 : decode cX12_here 0 = .ok (.aload_n 0, 1) := by decide +kernel
theorem dX12_here_1 : decode cX12_here 1 = .ok (.getfield 155, 3) := by decide +kernel
theorem dX12_here_4 : decode cX12_here 4 = .ok (.iload_n 1, 1) := by decide +kernel
theorem dX12_here_5 : decode cX12_here 5 = .ok (.iadd, 1) := by decide +kernel
theorem dX12_here_6 : decode cX12_here 6 = .ok (.aload_n 0, 1) := by decide +kernel
theorem dX12_here_7 : decode cX12_here 7 = .ok (.getfield 158, 3) := by decide +kernel
theorem dX12_here_10 : decode cX12_here 10 = .ok (.if_icmp .ge 17, 3) := by decide +kernel
theorem dX12_here_13 : decode cX12_here 13 = .ok (.aload_n 0, 1) := by decide +kernel
theorem dX12_here_14 : decode cX12_here 14 = .ok (.getfield 7, 3) := by decide +kernel
theorem dX12_here_17 : decode cX12_here 17 = .ok (.aload_n 0, 1) := by decide +kernel
theorem dX12_here_18 : decode cX12_here 18 = .ok (.getfield 155, 3) := by decide +kernel
theorem dX12_here_21 : decode cX12_here 21 = .ok (.iload_n 1, 1) := by decide +kernel
theorem dX12_here_22 : decode cX12_here 22 = .ok (.iadd, 1) := by decide +kernel
theorem dX12_here_23 : decode cX12_here 23 = .ok (.iaload, 1) := by decide +kernel
theorem dX12_here_24 : decode cX12_here 24 = .ok (.goto 4, 3) := by decide +kernel
theorem dX12_here_27 : decode cX12_here 27 = .ok (.iconst (-1), 1) := by decide +kernel
theorem dX12_here_28 : decode cX12_here 28 = .ok (.ireturn, 1) := by decide +kernel
theorem dX12_isLetter_0 : decode cX12_isLetter 0 = .ok (.iload_n 0, 1) := by decide +kernel
theorem dX12_isLetter_1 : decode cX12_isLetter 1 = .ok (.bipush 97, 2) := by decide +kernel
theorem dX12_isLetter_3 : decode cX12_isLetter 3 = .ok (.if_icmp .lt 13, 3) := by decide +kernel
theorem dX12_isLetter_6 : decode cX12_isLetter 6 = .ok (.iload_n 0, 1) := by decide +kernel
theorem dX12_isLetter_7 : decode cX12_isLetter 7 = .ok (.bipush 122, 2) := by decide +kernel
theorem dX12_isLetter_9 : decode cX12_isLetter 9 = .ok (.if_icmp .gt 7, 3) := by decide +kernel
theorem dX12_isLetter_12 : decode cX12_isLetter 12 = .ok (.iconst 1, 1) := by decide +kernel
theorem dX12_isLetter_13 : decode cX12_isLetter 13 = .ok (.goto 4, 3) := by decide +kernel
theorem dX12_isLetter_16 : decode cX12_isLetter 16 = .ok (.iconst 0, 1) := by decide +kernel
theorem dX12_isLetter_17 : decode cX12_isLetter 17 = .ok (.ireturn, 1) := by decide +kernel
theorem dX12_isDigit_0 : decode cX12_isDigit 0 = .ok (.iload_n 0, 1) := by decide +kernel
theorem dX12_isDigit_1 : decode cX12_isDigit 1 = .ok (.bipush 48, 2) := by decide +kernel
theorem dX12_isDigit_3 : decode cX12_isDigit 3 = .ok (.if_icmp .lt 13, 3) := by decide +kernel
theorem dX12_isDigit_6 : decode cX12_isDigit 6 = .ok (.iload_n 0, 1) := by decide +kernel
theorem dX12_isDigit_7 : decode cX12_isDigit 7 = .ok (.bipush 57, 2) := by decide +kernel
theorem dX12_isDigit_9 : decode cX12_isDigit 9 = .ok (.if_icmp .gt 7, 3) := by decide +kernel
theorem dX12_isDigit_12 : decode cX12_isDigit 12 = .ok (.iconst 1, 1) := by decide +kernel
theorem dX12_isDigit_13 : decode cX12_isDigit 13 = .ok (.goto 4, 3) := by decide +kernel
theorem dX12_isDigit_16 : decode cX12_isDigit 16 = .ok (.iconst 0, 1) := by decide +kernel
theorem dX12_isDigit_17 : decode cX12_isDigit 17 = .ok (.ireturn, 1) := by decide +kernel
theorem dX12_isSign_0 : decode cX12_isSign 0 = .ok (.iload_n 0, 1) := by decide +kernel
theorem dX12_isSign_1 : decode cX12_isSign 1 = .ok (.bipush 59, 2) := by decide +kernel
theorem dX12_isSign_3 : decode cX12_isSign 3 = .ok (.if_icmp .eq 63, 3) := by decide +kernel
theorem dX12_isSign_6 : decode cX12_isSign 6 = .ok (.iload_n 0, 1) := by decide +kernel
theorem dX12_isSign_7 : decode cX12_isSign 7 = .ok (.bipush 40, 2) := by decide +kernel
theorem dX12_isSign_9 : decode cX12_isSign 9 = .ok (.if_icmp .eq 57, 3) := by decide +kernel
theorem dX12_isSign_12 : decode cX12_isSign 12 = .ok (.iload_n 0, 1) := by decide +kernel
theorem dX12_isSign_13 : decode cX12_isSign 13 = .ok (.bipush 41, 2) := by decide +kernel
theorem dX12_isSign_15 : decode cX12_isSign 15 = .ok (.if_icmp .eq 51, 3) := by decide +kernel
theorem dX12_isSign_18 : decode cX12_isSign 18 = .ok (.iload_n 0, 1) := by decide +kernel
theorem dX12_isSign_19 : decode cX12_isSign 19 = .ok (.bipush 60, 2) := by decide +kernel
theorem dX12_isSign_21 : decode cX12_isSign 21 = .ok (.if_icmp .eq 45, 3) := by decide +kernel
theorem dX12_isSign_24 : decode cX12_isSign 24 = .ok (.iload_n 0, 1) := by decide +kernel
theorem dX12_isSign_25 : decode cX12_isSign 25 = .ok (.bipush 62, 2) := by decide +kernel
theorem dX12_isSign_27 : decode cX12_isSign 27 = .ok (.if_icmp .eq 39, 3) := by decide +kernel
theorem dX12_isSign_30 : decode cX12_isSign 30 = .ok (.iload_n 0, 1) := by decide +kernel
theorem dX12_isSign_31 : decode cX12_isSign 31 = .ok (.bipush 61, 2) := by decide +kernel
theorem dX12_isSign_33 : decode cX12_isSign 33 = .ok (.if_icmp .eq 33, 3) := by decide +kernel
theorem dX12_isSign_36 : decode cX12_isSign 36 = .ok (.iload_n 0, 1) := by decide +kernel
theorem dX12_isSign_37 : decode cX12_isSign 37 = .ok (.bipush 43, 2) := by decide +kernel
theorem dX12_isSign_39 : decode cX12_isSign 39 = .ok (.if_icmp .eq 27, 3) := by decide +kernel
theorem dX12_isSign_42 : decode cX12_isSign 42 = .ok (.iload_n 0, 1) := by decide +kernel
theorem dX12_isSign_43 : decode cX12_isSign 43 = .ok (.bipush 45, 2) := by decide +kernel
theorem dX12_isSign_45 : decode cX12_isSign 45 = .ok (.if_icmp .eq 21, 3) := by decide +kernel
theorem dX12_isSign_48 : decode cX12_isSign 48 = .ok (.iload_n 0, 1) := by decide +kernel
theorem dX12_isSign_49 : decode cX12_isSign 49 = .ok (.bipush 42, 2) := by decide +kernel
theorem dX12_isSign_51 : decode cX12_isSign 51 = .ok (.if_icmp .eq 15, 3) := by decide +kernel
theorem dX12_isSign_54 : decode cX12_isSign 54 = .ok (.iload_n 0, 1) := by decide +kernel
theorem dX12_isSign_55 : decode cX12_isSign 55 = .ok (.bipush 47, 2) := by decide +kernel
theorem dX12_isSign_57 : decode cX12_isSign 57 = .ok (.if_icmp .eq 9, 3) := by decide +kernel
theorem dX12_isSign_60 : decode cX12_isSign 60 = .ok (.iload_n 0, 1) := by decide +kernel
theorem dX12_isSign_61 : decode cX12_isSign 61 = .ok (.bipush 37, 2) := by decide +kernel
theorem dX12_isSign_63 : decode cX12_isSign 63 = .ok (.if_icmp .ne 7, 3) := by decide +kernel
theorem dX12_isSign_66 : decode cX12_isSign 66 = .ok (.iconst 1, 1) := by decide +kernel
theorem dX12_isSign_67 : decode cX12_isSign 67 = .ok (.goto 4, 3) := by decide +kernel
theorem dX12_isSign_70 : decode cX12_isSign 70 = .ok (.iconst 0, 1) := by decide +kernel
theorem dX12_isSign_71 : decode cX12_isSign 71 = .ok (.ireturn, 1) := by decide +kernel
theorem dX12_token_0 : decode cX12_token 0 = .ok (.aload_n 0, 1) := by decide +kernel
theorem dX12_token_1 : decode cX12_token 1 = .ok (.iconst 0, 1) := by decide +kernel
theorem dX12_token_2 : decode cX12_token 2 = .ok (.invokevirtual 161, 3) := by decide +kernel
theorem dX12_token_5 : decode cX12_token 5 = .ok (.bipush 32, 2) := by decide +kernel
theorem dX12_token_7 : decode cX12_token 7 = .ok (.if_icmp .eq 13, 3) := by decide +kernel
theorem dX12_token_10 : decode cX12_token 10 = .ok (.aload_n 0, 1) := by decide +kernel
theorem dX12_token_11 : decode cX12_token 11 = .ok (.iconst 0, 1) := by decide +kernel
theorem dX12_token_12 : decode cX12_token 12 = .ok (.invokevirtual 161, 3) := by decide +kernel
theorem dX12_token_15 : decode cX12_token 15 = .ok (.bipush 10, 2) := by decide +kernel
theorem dX12_token_17 : decode cX12_token 17 = .ok (.if_icmp .ne 16, 3) := by decide +kernel
theorem dX12_token_20 : decode cX12_token 20 = .ok (.aload_n 0, 1) := by decide +kernel
theorem dX12_token_21 : decode cX12_token 21 = .ok (.dup, 1) := by decide +kernel
theorem dX12_token_22 : decode cX12_token 22 = .ok (.getfield 155, 3) := by decide +kernel
theorem dX12_token_25 : decode cX12_token 25 = .ok (.iconst 1, 1) := by decide +kernel
theorem dX12_token_26 : decode cX12_token 26 = .ok (.iadd, 1) := by decide +kernel
theorem dX12_token_27 : decode cX12_token 27 = .ok (.putfield 155, 3) := by decide +kernel
theorem dX12_token_30 : decode cX12_token 30 = .ok (.goto (-30), 3) := by decide +kernel
theorem dX12_token_33 : decode cX12_token 33 = .ok (.aload_n 0, 1) := by decide +kernel
theorem dX12_token_34 : decode cX12_token 34 = .ok (.aload_n 0, 1) := by decide +kernel
theorem dX12_token_35 : decode cX12_token 35 = .ok (.getfield 155, 3) := by decide +kernel
theorem dX12_token_38 : decode cX12_token 38 = .ok (.putfield 165, 3) := by decide +kernel
theorem dX12_token_41 : decode cX12_token 41 = .ok (.aload_n 0, 1) := by decide +kernel
theorem dX12_token_42 : decode cX12_token 42 = .ok (.iconst 0, 1) := by decide +kernel
theorem dX12_token_43 : decode cX12_token 43 = .ok (.invokevirtual 161, 3) := by decide +kernel
theorem dX12_token_46 : decode cX12_token 46 = .ok (.istore_n 1, 1) := by decide +kernel
theorem dX12_token_47 : decode cX12_token 47 = .ok (.iconst 0, 1) := by decide +kernel
theorem dX12_token_48 : decode cX12_token 48 = .ok (.istore_n 2, 1) := by decide +kernel
theorem dX12_token_49 : decode cX12_token 49 = .ok (.aload_n 0, 1) := by decide +kernel
theorem dX12_token_50 : decode cX12_token 50 = .ok (.lconst 0, 1) := by decide +kernel
theorem dX12_token_51 : decode cX12_token 51 = .ok (.putfield 168, 3) := by decide +kernel
theorem dX12_token_54 : decode cX12_token 54 = .ok (.aload_n 0, 1) := by decide +kernel
theorem dX12_token_55 : decode cX12_token 55 = .ok (.iconst 0, 1) := by decide +kernel
theorem dX12_token_56 : decode cX12_token 56 = .ok (.putfield 172, 3) := by decide +kernel
theorem dX12_token_59 : decode cX12_token 59 = .ok (.iload_n 1, 1) := by decide +kernel
theorem dX12_token_60 : decode cX12_token 60 = .ok (.ifCond .ge 11, 3) := by decide +kernel
theorem dX12_token_63 : decode cX12_token 63 = .ok (.aload_n 0, 1) := by decide +kernel
theorem dX12_token_64 : decode cX12_token 64 = .ok (.iconst 0, 1) := by decide +kernel
theorem dX12_token_65 : decode cX12_token 65 = .ok (.putfield 175, 3) := by decide +kernel
theorem dX12_token_68 : decode cX12_token 68 = .ok (.goto 164, 3) := by decide +kernel
theorem dX12_token_71 : decode cX12_token 71 = .ok (.iload_n 1, 1) := by decide +kernel
theorem dX12_token_72 : decode cX12_token 72 = .ok (.invokestatic 178, 3) := by decide +kernel
theorem dX12_token_75 : decode cX12_token 75 = .ok (.ifCond .eq 62, 3) := by decide +kernel
theorem dX12_token_78 : decode cX12_token 78 = .ok (.aload_n 0, 1) := by decide +kernel
theorem dX12_token_79 : decode cX12_token 79 = .ok (.iload_n 2, 1) := by decide +kernel
theorem dX12_token_80 : decode cX12_token 80 = .ok (.invokevirtual 161, 3) := by decide +kernel
theorem dX12_token_83 : decode cX12_token 83 = .ok (.invokestatic 178, 3) := by decide +kernel
theorem dX12_token_86 : decode cX12_token 86 = .ok (.ifCond .eq 33, 3) := by decide +kernel
theorem dX12_token_89 : decode cX12_token 89 = .ok (.iload_n 2, 1) := by decide +kernel
theorem dX12_token_90 : decode cX12_token 90 = .ok (.bipush 8, 2) := by decide +kernel
theorem dX12_token_92 : decode cX12_token 92 = .ok (.if_icmp .ge 21, 3) := by decide +kernel
theorem dX12_token_95 : decode cX12_token 95 = .ok (.aload_n 0, 1) := by decide +kernel
theorem dX12_token_96 : decode cX12_token 96 = .ok (.aload_n 0, 1) := by decide +kernel
theorem dX12_token_97 : decode cX12_token 97 = .ok (.getfield 168, 3) := by decide +kernel
theorem dX12_token_100 : decode cX12_token 100 = .ok (.bipush 8, 2) := by decide +kernel
theorem dX12_token_102 : decode cX12_token 102 = .ok (.lshl, 1) := by decide +kernel
theorem dX12_token_103 : decode cX12_token 103 = .ok (.aload_n 0, 1) := by decide +kernel
theorem dX12_token_104 : decode cX12_token 104 = .ok (.iload_n 2, 1) := by decide +kernel
theorem dX12_token_105 : decode cX12_token 105 = .ok (.invokevirtual 161, 3) := by decide +kernel
theorem dX12_token_108 : decode cX12_token 108 = .ok (.i2l, 1) := by decide +kernel
theorem dX12_token_109 : decode cX12_token 109 = .ok (.lor, 1) := by decide +kernel
theorem dX12_token_110 : decode cX12_token 110 = .ok (.putfield 168, 3) := by decide +kernel
theorem dX12_token_113 : decode cX12_token 113 = .ok (.iinc 2 1, 3) := by decide +kernel
theorem dX12_token_116 : decode cX12_token 116 = .ok (.goto (-38), 3) := by decide +kernel
theorem dX12_token_119 : decode cX12_token 119 = .ok (.aload_n 0, 1) := by decide +kernel
theorem dX12_token_120 : decode cX12_token 120 = .ok (.iload_n 2, 1) := by decide +kernel
theorem dX12_token_121 : decode cX12_token 121 = .ok (.bipush 8, 2) := by decide +kernel
theorem dX12_token_123 : decode cX12_token 123 = .ok (.if_icmp .le 7, 3) := by decide +kernel
theorem dX12_token_126 : decode cX12_token 126 = .ok (.iconst 3, 1) := by decide +kernel
theorem dX12_token_127 : decode cX12_token 127 = .ok (.goto 4, 3) := by decide +kernel
theorem dX12_token_130 : decode cX12_token 130 = .ok (.iconst 1, 1) := by decide +kernel
theorem dX12_token_131 : decode cX12_token 131 = .ok (.putfield 175, 3) := by decide +kernel
theorem dX12_token_134 : decode cX12_token 134 = .ok (.goto 98, 3) := by decide +kernel
theorem dX12_token_137 : decode cX12_token 137 = .ok (.iload_n 1, 1) := by decide +kernel
theorem dX12_token_138 : decode cX12_token 138 = .ok (.invokestatic 182, 3) := by decide +kernel
theorem dX12_token_141 : decode cX12_token 141 = .ok (.ifCond .eq 73, 3) := by decide +kernel
theorem dX12_token_144 : decode cX12_token 144 = .ok (.aload_n 0, 1) := by decide +kernel
theorem dX12_token_145 : decode cX12_token 145 = .ok (.iload_n 2, 1) := by decide +kernel
theorem dX12_token_146 : decode cX12_token 146 = .ok (.invokevirtual 161, 3) := by decide +kernel
theorem dX12_token_149 : decode cX12_token 149 = .ok (.invokestatic 182, 3) := by decide +kernel
theorem dX12_token_152 : decode cX12_token 152 = .ok (.ifCond .eq 34, 3) := by decide +kernel
theorem dX12_token_155 : decode cX12_token 155 = .ok (.iload_n 2, 1) := by decide +kernel
theorem dX12_token_156 : decode cX12_token 156 = .ok (.iconst 4, 1) := by decide +kernel
theorem dX12_token_157 : decode cX12_token 157 = .ok (.if_icmp .ge 23, 3) := by decide +kernel
theorem dX12_token_160 : decode cX12_token 160 = .ok (.aload_n 0, 1) := by decide +kernel
theorem dX12_token_161 : decode cX12_token 161 = .ok (.bipush 10, 2) := by decide +kernel
theorem dX12_token_163 : decode cX12_token 163 = .ok (.aload_n 0, 1) := by decide +kernel
theorem dX12_token_164 : decode cX12_token 164 = .ok (.getfield 172, 3) := by decide +kernel
theorem dX12_token_167 : decode cX12_token 167 = .ok (.imul, 1) := by decide +kernel
theorem dX12_token_168 : decode cX12_token 168 = .ok (.aload_n 0, 1) := by decide +kernel
theorem dX12_token_169 : decode cX12_token 169 = .ok (.iload_n 2, 1) := by decide +kernel
theorem dX12_token_170 : decode cX12_token 170 = .ok (.invokevirtual 161, 3) := by decide +kernel
