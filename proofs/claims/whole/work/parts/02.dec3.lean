theorem dX12_when_17 : decode cX12_when 17 = .ok (.iload_n 2, 1) := by decide +kernel
theorem dX12_when_18 : decode cX12_when 18 = .ok (.aload_n 0, 1) := by decide +kernel
theorem dX12_when_19 : decode cX12_when 19 = .ok (.getfield 436, 3) := by decide +kernel
theorem dX12_when_22 : decode cX12_when 22 = .ok (.if_icmp .ge 26, 3) := by decide +kernel
theorem dX12_when_25 : decode cX12_when 25 = .ok (.aload_n 0, 1) := by decide +kernel
theorem dX12_when_26 : decode cX12_when 26 = .ok (.getfield 103, 3) := by decide +kernel
theorem dX12_when_29 : decode cX12_when 29 = .ok (.iload_n 2, 1) := by decide +kernel
theorem dX12_when_30 : decode cX12_when 30 = .ok (.iaload, 1) := by decide +kernel
theorem dX12_when_31 : decode cX12_when 31 = .ok (.iload_n 1, 1) := by decide +kernel
theorem dX12_when_32 : decode cX12_when 32 = .ok (.if_icmp .ne 10, 3) := by decide +kernel
theorem dX12_when_35 : decode cX12_when 35 = .ok (.aload_n 0, 1) := by decide +kernel
theorem dX12_when_36 : decode cX12_when 36 = .ok (.getfield 106, 3) := by decide +kernel
theorem dX12_when_39 : decode cX12_when 39 = .ok (.iload_n 2, 1) := by decide +kernel
theorem dX12_when_40 : decode cX12_when 40 = .ok (.iaload, 1) := by decide +kernel
theorem dX12_when_41 : decode cX12_when 41 = .ok (.ireturn, 1) := by decide +kernel
theorem dX12_when_42 : decode cX12_when 42 = .ok (.iinc 2 1, 3) := by decide +kernel
theorem dX12_when_45 : decode cX12_when 45 = .ok (.goto (-28), 3) := by decide +kernel
theorem dX12_when_48 : decode cX12_when 48 = .ok (.iconst (-1), 1) := by decide +kernel
theorem dX12_when_49 : decode cX12_when 49 = .ok (.ireturn, 1) := by decide +kernel
theorem dX12_course_0 : decode cX12_course 0 = .ok (.aload_n 0, 1) := by decide +kernel
theorem dX12_course_1 : decode cX12_course 1 = .ok (.invokevirtual 473, 3) := by decide +kernel
theorem dX12_course_4 : decode cX12_course 4 = .ok (.pop, 1) := by decide +kernel
theorem dX12_course_5 : decode cX12_course 5 = .ok (.iconst 0, 1) := by decide +kernel
theorem dX12_course_6 : decode cX12_course 6 = .ok (.istore_n 1, 1) := by decide +kernel
theorem dX12_course_7 : decode cX12_course 7 = .ok (.iload_n 1, 1) := by decide +kernel
theorem dX12_course_8 : decode cX12_course 8 = .ok (.aload_n 0, 1) := by decide +kernel
theorem dX12_course_9 : decode cX12_course 9 = .ok (.getfield 436, 3) := by decide +kernel
theorem dX12_course_12 : decode cX12_course 12 = .ok (.if_icmp .ge 21, 3) := by decide +kernel
theorem dX12_course_15 : decode cX12_course 15 = .ok (.aload_n 0, 1) := by decide +kernel
theorem dX12_course_16 : decode cX12_course 16 = .ok (.getfield 112, 3) := by decide +kernel
theorem dX12_course_19 : decode cX12_course 19 = .ok (.iload_n 1, 1) := by decide +kernel
theorem dX12_course_20 : decode cX12_course 20 = .ok (.aload_n 0, 1) := by decide +kernel
theorem dX12_course_21 : decode cX12_course 21 = .ok (.getfield 103, 3) := by decide +kernel
theorem dX12_course_24 : decode cX12_course 24 = .ok (.iload_n 1, 1) := by decide +kernel
theorem dX12_course_25 : decode cX12_course 25 = .ok (.iaload, 1) := by decide +kernel
theorem dX12_course_26 : decode cX12_course 26 = .ok (.iastore, 1) := by decide +kernel
theorem dX12_course_27 : decode cX12_course 27 = .ok (.iinc 1 1, 3) := by decide +kernel
theorem dX12_course_30 : decode cX12_course 30 = .ok (.goto (-23), 3) := by decide +kernel
theorem dX12_course_33 : decode cX12_course 33 = .ok (.aload_n 0, 1) := by decide +kernel
theorem dX12_course_34 : decode cX12_course 34 = .ok (.aload_n 0, 1) := by decide +kernel
theorem dX12_course_35 : decode cX12_course 35 = .ok (.getfield 436, 3) := by decide +kernel
theorem dX12_course_38 : decode cX12_course 38 = .ok (.putfield 415, 3) := by decide +kernel
theorem dX12_course_41 : decode cX12_course 41 = .ok (.aload_n 0, 1) := by decide +kernel
theorem dX12_course_42 : decode cX12_course 42 = .ok (.getfield 436, 3) := by decide +kernel
theorem dX12_course_45 : decode cX12_course 45 = .ok (.ireturn, 1) := by decide +kernel
theorem dX12_leavers_0 : decode cX12_leavers 0 = .ok (.aload_n 0, 1) := by decide +kernel
theorem dX12_leavers_1 : decode cX12_leavers 1 = .ok (.invokevirtual 445, 3) := by decide +kernel
theorem dX12_leavers_4 : decode cX12_leavers 4 = .ok (.aload_n 0, 1) := by decide +kernel
theorem dX12_leavers_5 : decode cX12_leavers 5 = .ok (.iconst 0, 1) := by decide +kernel
theorem dX12_leavers_6 : decode cX12_leavers 6 = .ok (.invokevirtual 470, 3) := by decide +kernel
theorem dX12_leavers_9 : decode cX12_leavers 9 = .ok (.istore_n 1, 1) := by decide +kernel
theorem dX12_leavers_10 : decode cX12_leavers 10 = .ok (.aload_n 0, 1) := by decide +kernel
theorem dX12_leavers_11 : decode cX12_leavers 11 = .ok (.invokevirtual 448, 3) := by decide +kernel
theorem dX12_leavers_14 : decode cX12_leavers 14 = .ok (.pop, 1) := by decide +kernel
theorem dX12_leavers_15 : decode cX12_leavers 15 = .ok (.iload_n 1, 1) := by decide +kernel
theorem dX12_leavers_16 : decode cX12_leavers 16 = .ok (.aload_n 0, 1) := by decide +kernel
theorem dX12_leavers_17 : decode cX12_leavers 17 = .ok (.iconst 4, 1) := by decide +kernel
theorem dX12_leavers_18 : decode cX12_leavers 18 = .ok (.invokevirtual 470, 3) := by decide +kernel
theorem dX12_leavers_21 : decode cX12_leavers 21 = .ok (.iand, 1) := by decide +kernel
theorem dX12_leavers_22 : decode cX12_leavers 22 = .ok (.ireturn, 1) := by decide +kernel
theorem dX12_putAhead_0 : decode cX12_putAhead 0 = .ok (.iconst 0, 1) := by decide +kernel
theorem dX12_putAhead_1 : decode cX12_putAhead 1 = .ok (.istore_n 2, 1) := by decide +kernel
theorem dX12_putAhead_2 : decode cX12_putAhead 2 = .ok (.iload_n 2, 1) := by decide +kernel
theorem dX12_putAhead_3 : decode cX12_putAhead 3 = .ok (.bipush 24, 2) := by decide +kernel
theorem dX12_putAhead_5 : decode cX12_putAhead 5 = .ok (.if_icmp .ge 26, 3) := by decide +kernel
theorem dX12_putAhead_8 : decode cX12_putAhead 8 = .ok (.aload_n 0, 1) := by decide +kernel
theorem dX12_putAhead_9 : decode cX12_putAhead 9 = .ok (.getfield 118, 3) := by decide +kernel
theorem dX12_putAhead_12 : decode cX12_putAhead 12 = .ok (.bipush 24, 2) := by decide +kernel
theorem dX12_putAhead_14 : decode cX12_putAhead 14 = .ok (.iload_n 1, 1) := by decide +kernel
theorem dX12_putAhead_15 : decode cX12_putAhead 15 = .ok (.imul, 1) := by decide +kernel
theorem dX12_putAhead_16 : decode cX12_putAhead 16 = .ok (.iload_n 2, 1) := by decide +kernel
theorem dX12_putAhead_17 : decode cX12_putAhead 17 = .ok (.iadd, 1) := by decide +kernel
theorem dX12_putAhead_18 : decode cX12_putAhead 18 = .ok (.aload_n 0, 1) := by decide +kernel
theorem dX12_putAhead_19 : decode cX12_putAhead 19 = .ok (.getfield 100, 3) := by decide +kernel
theorem dX12_putAhead_22 : decode cX12_putAhead 22 = .ok (.iload_n 2, 1) := by decide +kernel
theorem dX12_putAhead_23 : decode cX12_putAhead 23 = .ok (.iaload, 1) := by decide +kernel
theorem dX12_putAhead_24 : decode cX12_putAhead 24 = .ok (.iastore, 1) := by decide +kernel
theorem dX12_putAhead_25 : decode cX12_putAhead 25 = .ok (.iinc 2 1, 3) := by decide +kernel
theorem dX12_putAhead_28 : decode cX12_putAhead 28 = .ok (.goto (-26), 3) := by decide +kernel
theorem dX12_putAhead_31 : decode cX12_putAhead 31 = .ok (.return_, 1) := by decide +kernel
theorem dX12_takeAhead_0 : decode cX12_takeAhead 0 = .ok (.iconst 0, 1) := by decide +kernel
theorem dX12_takeAhead_1 : decode cX12_takeAhead 1 = .ok (.istore_n 2, 1) := by decide +kernel
theorem dX12_takeAhead_2 : decode cX12_takeAhead 2 = .ok (.iload_n 2, 1) := by decide +kernel
theorem dX12_takeAhead_3 : decode cX12_takeAhead 3 = .ok (.bipush 24, 2) := by decide +kernel
theorem dX12_takeAhead_5 : decode cX12_takeAhead 5 = .ok (.if_icmp .ge 26, 3) := by decide +kernel
theorem dX12_takeAhead_8 : decode cX12_takeAhead 8 = .ok (.aload_n 0, 1) := by decide +kernel
theorem dX12_takeAhead_9 : decode cX12_takeAhead 9 = .ok (.getfield 100, 3) := by decide +kernel
theorem dX12_takeAhead_12 : decode cX12_takeAhead 12 = .ok (.iload_n 2, 1) := by decide +kernel
theorem dX12_takeAhead_13 : decode cX12_takeAhead 13 = .ok (.aload_n 0, 1) := by decide +kernel
theorem dX12_takeAhead_14 : decode cX12_takeAhead 14 = .ok (.getfield 118, 3) := by decide +kernel
theorem dX12_takeAhead_17 : decode cX12_takeAhead 17 = .ok (.bipush 24, 2) := by decide +kernel
theorem dX12_takeAhead_19 : decode cX12_takeAhead 19 = .ok (.iload_n 1, 1) := by decide +kernel
theorem dX12_takeAhead_20 : decode cX12_takeAhead 20 = .ok (.imul, 1) := by decide +kernel
theorem dX12_takeAhead_21 : decode cX12_takeAhead 21 = .ok (.iload_n 2, 1) := by decide +kernel
theorem dX12_takeAhead_22 : decode cX12_takeAhead 22 = .ok (.iadd, 1) := by decide +kernel
theorem dX12_takeAhead_23 : decode cX12_takeAhead 23 = .ok (.iaload, 1) := by decide +kernel
theorem dX12_takeAhead_24 : decode cX12_takeAhead 24 = .ok (.iastore, 1) := by decide +kernel
theorem dX12_takeAhead_25 : decode cX12_takeAhead 25 = .ok (.iinc 2 1, 3) := by decide +kernel
theorem dX12_takeAhead_28 : decode cX12_takeAhead 28 = .ok (.goto (-26), 3) := by decide +kernel
theorem dX12_takeAhead_31 : decode cX12_takeAhead 31 = .ok (.return_, 1) := by decide +kernel
theorem dX12_soonest_0 : decode cX12_soonest 0 = .ok (.aload_n 0, 1) := by decide +kernel
theorem dX12_soonest_1 : decode cX12_soonest 1 = .ok (.invokevirtual 445, 3) := by decide +kernel
theorem dX12_soonest_4 : decode cX12_soonest 4 = .ok (.ldc_w 476, 3) := by decide +kernel
theorem dX12_soonest_7 : decode cX12_soonest 7 = .ok (.istore_n 1, 1) := by decide +kernel
theorem dX12_soonest_8 : decode cX12_soonest 8 = .ok (.iconst 0, 1) := by decide +kernel
theorem dX12_soonest_9 : decode cX12_soonest 9 = .ok (.istore_n 2, 1) := by decide +kernel
theorem dX12_soonest_10 : decode cX12_soonest 10 = .ok (.aload_n 0, 1) := by decide +kernel
theorem dX12_soonest_11 : decode cX12_soonest 11 = .ok (.iconst 0, 1) := by decide +kernel
theorem dX12_soonest_12 : decode cX12_soonest 12 = .ok (.putfield 415, 3) := by decide +kernel
theorem dX12_soonest_15 : decode cX12_soonest 15 = .ok (.aload_n 0, 1) := by decide +kernel
theorem dX12_soonest_16 : decode cX12_soonest 16 = .ok (.iconst 0, 1) := by decide +kernel
theorem dX12_soonest_17 : decode cX12_soonest 17 = .ok (.invokevirtual 477, 3) := by decide +kernel
theorem dX12_soonest_20 : decode cX12_soonest 20 = .ok (.aload_n 0, 1) := by decide +kernel
theorem dX12_soonest_21 : decode cX12_soonest 21 = .ok (.getfield 115, 3) := by decide +kernel
theorem dX12_soonest_24 : decode cX12_soonest 24 = .ok (.iconst 0, 1) := by decide +kernel
theorem dX12_soonest_25 : decode cX12_soonest 25 = .ok (.iconst (-1), 1) := by decide +kernel
theorem dX12_soonest_26 : decode cX12_soonest 26 = .ok (.iastore, 1) := by decide +kernel
theorem dX12_soonest_27 : decode cX12_soonest 27 = .ok (.iload_n 2, 1) := by decide +kernel
theorem dX12_soonest_28 : decode cX12_soonest 28 = .ok (.ifCond .lt 150, 3) := by decide +kernel
theorem dX12_soonest_31 : decode cX12_soonest 31 = .ok (.aload_n 0, 1) := by decide +kernel
theorem dX12_soonest_32 : decode cX12_soonest 32 = .ok (.iload_n 2, 1) := by decide +kernel
theorem dX12_soonest_33 : decode cX12_soonest 33 = .ok (.invokevirtual 480, 3) := by decide +kernel
theorem dX12_soonest_36 : decode cX12_soonest 36 = .ok (.aload_n 0, 1) := by decide +kernel
theorem dX12_soonest_37 : decode cX12_soonest 37 = .ok (.getfield 115, 3) := by decide +kernel
theorem dX12_soonest_40 : decode cX12_soonest 40 = .ok (.iload_n 2, 1) := by decide +kernel
theorem dX12_soonest_41 : decode cX12_soonest 41 = .ok (.iaload, 1) := by decide +kernel
theorem dX12_soonest_42 : decode cX12_soonest 42 = .ok (.iconst 1, 1) := by decide +kernel
theorem dX12_soonest_43 : decode cX12_soonest 43 = .ok (.iadd, 1) := by decide +kernel
theorem dX12_soonest_44 : decode cX12_soonest 44 = .ok (.istore_n 3, 1) := by decide +kernel
theorem dX12_soonest_45 : decode cX12_soonest 45 = .ok (.aload_n 0, 1) := by decide +kernel
theorem dX12_soonest_46 : decode cX12_soonest 46 = .ok (.iconst 0, 1) := by decide +kernel
theorem dX12_soonest_47 : decode cX12_soonest 47 = .ok (.invokevirtual 470, 3) := by decide +kernel
theorem dX12_soonest_50 : decode cX12_soonest 50 = .ok (.ifCond .ne 60, 3) := by decide +kernel
theorem dX12_soonest_53 : decode cX12_soonest 53 = .ok (.iload_n 3, 1) := by decide +kernel
theorem dX12_soonest_54 : decode cX12_soonest 54 = .ok (.ifCond .ne 56, 3) := by decide +kernel
theorem dX12_soonest_57 : decode cX12_soonest 57 = .ok (.aload_n 0, 1) := by decide +kernel
theorem dX12_soonest_58 : decode cX12_soonest 58 = .ok (.getfield 100, 3) := by decide +kernel
theorem dX12_soonest_61 : decode cX12_soonest 61 = .ok (.bipush 21, 2) := by decide +kernel
theorem dX12_soonest_63 : decode cX12_soonest 63 = .ok (.iaload, 1) := by decide +kernel
theorem dX12_soonest_64 : decode cX12_soonest 64 = .ok (.iload_n 1, 1) := by decide +kernel
theorem dX12_soonest_65 : decode cX12_soonest 65 = .ok (.if_icmp .ge 45, 3) := by decide +kernel
theorem dX12_soonest_68 : decode cX12_soonest 68 = .ok (.aload_n 0, 1) := by decide +kernel
theorem dX12_soonest_69 : decode cX12_soonest 69 = .ok (.getfield 100, 3) := by decide +kernel
theorem dX12_soonest_72 : decode cX12_soonest 72 = .ok (.bipush 21, 2) := by decide +kernel
theorem dX12_soonest_74 : decode cX12_soonest 74 = .ok (.iaload, 1) := by decide +kernel
theorem dX12_soonest_75 : decode cX12_soonest 75 = .ok (.istore_n 1, 1) := by decide +kernel
theorem dX12_soonest_76 : decode cX12_soonest 76 = .ok (.iconst 0, 1) := by decide +kernel
theorem dX12_soonest_77 : decode cX12_soonest 77 = .ok (.istore 4, 2) := by decide +kernel
theorem dX12_soonest_79 : decode cX12_soonest 79 = .ok (.iload 4, 2) := by decide +kernel
theorem dX12_soonest_81 : decode cX12_soonest 81 = .ok (.iload_n 2, 1) := by decide +kernel
theorem dX12_soonest_82 : decode cX12_soonest 82 = .ok (.if_icmp .ge 23, 3) := by decide +kernel
theorem dX12_soonest_85 : decode cX12_soonest 85 = .ok (.aload_n 0, 1) := by decide +kernel
theorem dX12_soonest_86 : decode cX12_soonest 86 = .ok (.getfield 112, 3) := by decide +kernel
theorem dX12_soonest_89 : decode cX12_soonest 89 = .ok (.iload 4, 2) := by decide +kernel
theorem dX12_soonest_91 : decode cX12_soonest 91 = .ok (.aload_n 0, 1) := by decide +kernel
theorem dX12_soonest_92 : decode cX12_soonest 92 = .ok (.getfield 115, 3) := by decide +kernel
theorem dX12_soonest_95 : decode cX12_soonest 95 = .ok (.iload 4, 2) := by decide +kernel
theorem dX12_soonest_97 : decode cX12_soonest 97 = .ok (.iaload, 1) := by decide +kernel
theorem dX12_soonest_98 : decode cX12_soonest 98 = .ok (.iastore, 1) := by decide +kernel
theorem dX12_soonest_99 : decode cX12_soonest 99 = .ok (.iinc 4 1, 3) := by decide +kernel
theorem dX12_soonest_102 : decode cX12_soonest 102 = .ok (.goto (-23), 3) := by decide +kernel
theorem dX12_soonest_105 : decode cX12_soonest 105 = .ok (.aload_n 0, 1) := by decide +kernel
theorem dX12_soonest_106 : decode cX12_soonest 106 = .ok (.iload_n 2, 1) := by decide +kernel
theorem dX12_soonest_107 : decode cX12_soonest 107 = .ok (.putfield 415, 3) := by decide +kernel
theorem dX12_soonest_110 : decode cX12_soonest 110 = .ok (.iload_n 3, 1) := by decide +kernel
theorem dX12_soonest_111 : decode cX12_soonest 111 = .ok (.aload_n 0, 1) := by decide +kernel
theorem dX12_soonest_112 : decode cX12_soonest 112 = .ok (.getfield 323, 3) := by decide +kernel
theorem dX12_soonest_115 : decode cX12_soonest 115 = .ok (.if_icmp .ge 18, 3) := by decide +kernel
theorem dX12_soonest_118 : decode cX12_soonest 118 = .ok (.aload_n 0, 1) := by decide +kernel
theorem dX12_soonest_119 : decode cX12_soonest 119 = .ok (.getfield 100, 3) := by decide +kernel
theorem dX12_soonest_122 : decode cX12_soonest 122 = .ok (.iload_n 3, 1) := by decide +kernel
theorem dX12_soonest_123 : decode cX12_soonest 123 = .ok (.iaload, 1) := by decide +kernel
theorem dX12_soonest_124 : decode cX12_soonest 124 = .ok (.ifCond .eq 9, 3) := by decide +kernel
theorem dX12_soonest_127 : decode cX12_soonest 127 = .ok (.iinc 3 1, 3) := by decide +kernel
theorem dX12_soonest_130 : decode cX12_soonest 130 = .ok (.goto (-20), 3) := by decide +kernel
theorem dX12_soonest_133 : decode cX12_soonest 133 = .ok (.aload_n 0, 1) := by decide +kernel
theorem dX12_soonest_134 : decode cX12_soonest 134 = .ok (.getfield 115, 3) := by decide +kernel
theorem dX12_soonest_137 : decode cX12_soonest 137 = .ok (.iload_n 2, 1) := by decide +kernel
theorem dX12_soonest_138 : decode cX12_soonest 138 = .ok (.iload_n 3, 1) := by decide +kernel
theorem dX12_soonest_139 : decode cX12_soonest 139 = .ok (.iastore, 1) := by decide +kernel
theorem dX12_soonest_140 : decode cX12_soonest 140 = .ok (.iload_n 3, 1) := by decide +kernel
theorem dX12_soonest_141 : decode cX12_soonest 141 = .ok (.aload_n 0, 1) := by decide +kernel
theorem dX12_soonest_142 : decode cX12_soonest 142 = .ok (.getfield 323, 3) := by decide +kernel
theorem dX12_soonest_145 : decode cX12_soonest 145 = .ok (.if_icmp .lt 9, 3) := by decide +kernel
theorem dX12_soonest_148 : decode cX12_soonest 148 = .ok (.iinc 2 (-1), 3) := by decide +kernel
theorem dX12_soonest_151 : decode cX12_soonest 151 = .ok (.goto (-124), 3) := by decide +kernel
theorem dX12_soonest_154 : decode cX12_soonest 154 = .ok (.aload_n 0, 1) := by decide +kernel
theorem dX12_soonest_155 : decode cX12_soonest 155 = .ok (.iload_n 3, 1) := by decide +kernel
theorem dX12_soonest_156 : decode cX12_soonest 156 = .ok (.iconst 1, 1) := by decide +kernel
theorem dX12_soonest_157 : decode cX12_soonest 157 = .ok (.invokevirtual 442, 3) := by decide +kernel
theorem dX12_soonest_160 : decode cX12_soonest 160 = .ok (.iinc 2 1, 3) := by decide +kernel
theorem dX12_soonest_163 : decode cX12_soonest 163 = .ok (.aload_n 0, 1) := by decide +kernel
theorem dX12_soonest_164 : decode cX12_soonest 164 = .ok (.iload_n 2, 1) := by decide +kernel
theorem dX12_soonest_165 : decode cX12_soonest 165 = .ok (.invokevirtual 477, 3) := by decide +kernel
theorem dX12_soonest_168 : decode cX12_soonest 168 = .ok (.aload_n 0, 1) := by decide +kernel
theorem dX12_soonest_169 : decode cX12_soonest 169 = .ok (.getfield 115, 3) := by decide +kernel
theorem dX12_soonest_172 : decode cX12_soonest 172 = .ok (.iload_n 2, 1) := by decide +kernel
theorem dX12_soonest_173 : decode cX12_soonest 173 = .ok (.iconst (-1), 1) := by decide +kernel
theorem dX12_soonest_174 : decode cX12_soonest 174 = .ok (.iastore, 1) := by decide +kernel
theorem dX12_soonest_175 : decode cX12_soonest 175 = .ok (.goto (-148), 3) := by decide +kernel
theorem dX12_soonest_178 : decode cX12_soonest 178 = .ok (.iload_n 1, 1) := by decide +kernel
theorem dX12_soonest_179 : decode cX12_soonest 179 = .ok (.ireturn, 1) := by decide +kernel
theorem dX12_first_0 : decode cX12_first 0 = .ok (.iload_n 1, 1) := by decide +kernel
theorem dX12_first_1 : decode cX12_first 1 = .ok (.iconst 0, 1) := by decide +kernel
theorem dX12_first_2 : decode cX12_first 2 = .ok (.iconst 1, 1) := by decide +kernel
theorem dX12_first_3 : decode cX12_first 3 = .ok (.invokestatic 418, 3) := by decide +kernel
theorem dX12_first_6 : decode cX12_first 6 = .ok (.ifCond .ne 5, 3) := by decide +kernel
theorem dX12_first_9 : decode cX12_first 9 = .ok (.iconst (-1), 1) := by decide +kernel
theorem dX12_first_10 : decode cX12_first 10 = .ok (.ireturn, 1) := by decide +kernel
theorem dX12_first_11 : decode cX12_first 11 = .ok (.iconst (-1), 1) := by decide +kernel
theorem dX12_first_12 : decode cX12_first 12 = .ok (.istore_n 2, 1) := by decide +kernel
theorem dX12_first_13 : decode cX12_first 13 = .ok (.ldc_w 476, 3) := by decide +kernel
theorem dX12_first_16 : decode cX12_first 16 = .ok (.istore_n 3, 1) := by decide +kernel
theorem dX12_first_17 : decode cX12_first 17 = .ok (.iconst 0, 1) := by decide +kernel
theorem dX12_first_18 : decode cX12_first 18 = .ok (.istore 4, 2) := by decide +kernel
theorem dX12_first_20 : decode cX12_first 20 = .ok (.iload 4, 2) := by decide +kernel
theorem dX12_first_22 : decode cX12_first 22 = .ok (.aload_n 0, 1) := by decide +kernel
theorem dX12_first_23 : decode cX12_first 23 = .ok (.getfield 323, 3) := by decide +kernel
theorem dX12_first_26 : decode cX12_first 26 = .ok (.if_icmp .ge 54, 3) := by decide +kernel
theorem dX12_first_29 : decode cX12_first 29 = .ok (.aload_n 0, 1) := by decide +kernel
theorem dX12_first_30 : decode cX12_first 30 = .ok (.getfield 97, 3) := by decide +kernel
theorem dX12_first_33 : decode cX12_first 33 = .ok (.iload 4, 2) := by decide +kernel
theorem dX12_first_35 : decode cX12_first 35 = .ok (.iaload, 1) := by decide +kernel
theorem dX12_first_36 : decode cX12_first 36 = .ok (.ifCond .eq 6, 3) := by decide +kernel
theorem dX12_first_39 : decode cX12_first 39 = .ok (.goto 35, 3) := by decide +kernel
theorem dX12_first_42 : decode cX12_first 42 = .ok (.aload_n 0, 1) := by decide +kernel
theorem dX12_first_43 : decode cX12_first 43 = .ok (.invokevirtual 445, 3) := by decide +kernel
theorem dX12_first_46 : decode cX12_first 46 = .ok (.aload_n 0, 1) := by decide +kernel
theorem dX12_first_47 : decode cX12_first 47 = .ok (.iload 4, 2) := by decide +kernel
theorem dX12_first_49 : decode cX12_first 49 = .ok (.iconst 1, 1) := by decide +kernel
theorem dX12_first_50 : decode cX12_first 50 = .ok (.invokevirtual 442, 3) := by decide +kernel
theorem dX12_first_53 : decode cX12_first 53 = .ok (.aload_n 0, 1) := by decide +kernel
theorem dX12_first_54 : decode cX12_first 54 = .ok (.invokevirtual 448, 3) := by decide +kernel
theorem dX12_first_57 : decode cX12_first 57 = .ok (.istore 5, 2) := by decide +kernel
theorem dX12_first_59 : decode cX12_first 59 = .ok (.iload 5, 2) := by decide +kernel
theorem dX12_first_61 : decode cX12_first 61 = .ok (.iload_n 3, 1) := by decide +kernel
theorem dX12_first_62 : decode cX12_first 62 = .ok (.if_icmp .lt 6, 3) := by decide +kernel
theorem dX12_first_65 : decode cX12_first 65 = .ok (.goto 9, 3) := by decide +kernel
theorem dX12_first_68 : decode cX12_first 68 = .ok (.iload 5, 2) := by decide +kernel
theorem dX12_first_70 : decode cX12_first 70 = .ok (.istore_n 3, 1) := by decide +kernel
theorem dX12_first_71 : decode cX12_first 71 = .ok (.iload 4, 2) := by decide +kernel
theorem dX12_first_73 : decode cX12_first 73 = .ok (.istore_n 2, 1) := by decide +kernel
theorem dX12_first_74 : decode cX12_first 74 = .ok (.iinc 4 1, 3) := by decide +kernel
theorem dX12_first_77 : decode cX12_first 77 = .ok (.goto (-57), 3) := by decide +kernel
theorem dX12_first_80 : decode cX12_first 80 = .ok (.iload_n 2, 1) := by decide +kernel
theorem dX12_first_81 : decode cX12_first 81 = .ok (.ifCond .ge 7, 3) := by decide +kernel
theorem dX12_first_84 : decode cX12_first 84 = .ok (.iconst (-1), 1) := by decide +kernel
theorem dX12_first_85 : decode cX12_first 85 = .ok (.goto 12, 3) := by decide +kernel
theorem dX12_first_88 : decode cX12_first 88 = .ok (.iload_n 1, 1) := by decide +kernel
theorem dX12_first_89 : decode cX12_first 89 = .ok (.ifCond .ne 7, 3) := by decide +kernel
theorem dX12_first_92 : decode cX12_first 92 = .ok (.iload_n 2, 1) := by decide +kernel
theorem dX12_first_93 : decode cX12_first 93 = .ok (.goto 4, 3) := by decide +kernel
theorem dX12_first_96 : decode cX12_first 96 = .ok (.iload_n 3, 1) := by decide +kernel
theorem dX12_first_97 : decode cX12_first 97 = .ok (.ireturn, 1) := by decide +kernel
theorem dX12_duskWithout_0 : decode cX12_duskWithout 0 = .ok (.aload_n 0, 1) := by decide +kernel
theorem dX12_duskWithout_1 : decode cX12_duskWithout 1 = .ok (.invokevirtual 445, 3) := by decide +kernel
theorem dX12_duskWithout_4 : decode cX12_duskWithout 4 = .ok (.iconst 0, 1) := by decide +kernel
theorem dX12_duskWithout_5 : decode cX12_duskWithout 5 = .ok (.istore_n 2, 1) := by decide +kernel
theorem dX12_duskWithout_6 : decode cX12_duskWithout 6 = .ok (.iload_n 2, 1) := by decide +kernel
theorem dX12_duskWithout_7 : decode cX12_duskWithout 7 = .ok (.aload_n 0, 1) := by decide +kernel
theorem dX12_duskWithout_8 : decode cX12_duskWithout 8 = .ok (.getfield 323, 3) := by decide +kernel
theorem dX12_duskWithout_11 : decode cX12_duskWithout 11 = .ok (.if_icmp .ge 25, 3) := by decide +kernel
theorem dX12_duskWithout_14 : decode cX12_duskWithout 14 = .ok (.iload_n 1, 1) := by decide +kernel
theorem dX12_duskWithout_15 : decode cX12_duskWithout 15 = .ok (.iload_n 2, 1) := by decide +kernel
theorem dX12_duskWithout_16 : decode cX12_duskWithout 16 = .ok (.ishr, 1) := by decide +kernel
theorem dX12_duskWithout_17 : decode cX12_duskWithout 17 = .ok (.iconst 1, 1) := by decide +kernel
theorem dX12_duskWithout_18 : decode cX12_duskWithout 18 = .ok (.iand, 1) := by decide +kernel
theorem dX12_duskWithout_19 : decode cX12_duskWithout 19 = .ok (.iconst 1, 1) := by decide +kernel
theorem dX12_duskWithout_20 : decode cX12_duskWithout 20 = .ok (.if_icmp .ne 10, 3) := by decide +kernel
theorem dX12_duskWithout_23 : decode cX12_duskWithout 23 = .ok (.aload_n 0, 1) := by decide +kernel
theorem dX12_duskWithout_24 : decode cX12_duskWithout 24 = .ok (.getfield 100, 3) := by decide +kernel
theorem dX12_duskWithout_27 : decode cX12_duskWithout 27 = .ok (.iload_n 2, 1) := by decide +kernel
theorem dX12_duskWithout_28 : decode cX12_duskWithout 28 = .ok (.iconst 5, 1) := by decide +kernel
theorem dX12_duskWithout_29 : decode cX12_duskWithout 29 = .ok (.iastore, 1) := by decide +kernel
theorem dX12_duskWithout_30 : decode cX12_duskWithout 30 = .ok (.iinc 2 1, 3) := by decide +kernel
theorem dX12_duskWithout_33 : decode cX12_duskWithout 33 = .ok (.goto (-27), 3) := by decide +kernel
theorem dX12_duskWithout_36 : decode cX12_duskWithout 36 = .ok (.aload_n 0, 1) := by decide +kernel
theorem dX12_duskWithout_37 : decode cX12_duskWithout 37 = .ok (.invokevirtual 448, 3) := by decide +kernel
theorem dX12_duskWithout_40 : decode cX12_duskWithout 40 = .ok (.ireturn, 1) := by decide +kernel
theorem dX12_priceOf_0 : decode cX12_priceOf 0 = .ok (.iconst 0, 1) := by decide +kernel
theorem dX12_priceOf_1 : decode cX12_priceOf 1 = .ok (.istore_n 2, 1) := by decide +kernel
theorem dX12_priceOf_2 : decode cX12_priceOf 2 = .ok (.iconst 0, 1) := by decide +kernel
theorem dX12_priceOf_3 : decode cX12_priceOf 3 = .ok (.istore_n 3, 1) := by decide +kernel
theorem dX12_priceOf_4 : decode cX12_priceOf 4 = .ok (.iload_n 3, 1) := by decide +kernel
theorem dX12_priceOf_5 : decode cX12_priceOf 5 = .ok (.aload_n 0, 1) := by decide +kernel
theorem dX12_priceOf_6 : decode cX12_priceOf 6 = .ok (.getfield 323, 3) := by decide +kernel
theorem dX12_priceOf_9 : decode cX12_priceOf 9 = .ok (.if_icmp .ge 31, 3) := by decide +kernel
theorem dX12_priceOf_12 : decode cX12_priceOf 12 = .ok (.iload_n 2, 1) := by decide +kernel
theorem dX12_priceOf_13 : decode cX12_priceOf 13 = .ok (.iload_n 1, 1) := by decide +kernel
theorem dX12_priceOf_14 : decode cX12_priceOf 14 = .ok (.iload_n 3, 1) := by decide +kernel
theorem dX12_priceOf_15 : decode cX12_priceOf 15 = .ok (.ishr, 1) := by decide +kernel
theorem dX12_priceOf_16 : decode cX12_priceOf 16 = .ok (.iconst 1, 1) := by decide +kernel
theorem dX12_priceOf_17 : decode cX12_priceOf 17 = .ok (.iand, 1) := by decide +kernel
theorem dX12_priceOf_18 : decode cX12_priceOf 18 = .ok (.iconst 1, 1) := by decide +kernel
theorem dX12_priceOf_19 : decode cX12_priceOf 19 = .ok (.if_icmp .ne 12, 3) := by decide +kernel
theorem dX12_priceOf_22 : decode cX12_priceOf 22 = .ok (.aload_n 0, 1) := by decide +kernel
theorem dX12_priceOf_23 : decode cX12_priceOf 23 = .ok (.getfield 82, 3) := by decide +kernel
theorem dX12_priceOf_26 : decode cX12_priceOf 26 = .ok (.iload_n 3, 1) := by decide +kernel
theorem dX12_priceOf_27 : decode cX12_priceOf 27 = .ok (.iaload, 1) := by decide +kernel
theorem dX12_priceOf_28 : decode cX12_priceOf 28 = .ok (.goto 4, 3) := by decide +kernel
theorem dX12_priceOf_31 : decode cX12_priceOf 31 = .ok (.iconst 0, 1) := by decide +kernel
theorem dX12_priceOf_32 : decode cX12_priceOf 32 = .ok (.iadd, 1) := by decide +kernel
theorem dX12_priceOf_33 : decode cX12_priceOf 33 = .ok (.istore_n 2, 1) := by decide +kernel
theorem dX12_priceOf_34 : decode cX12_priceOf 34 = .ok (.iinc 3 1, 3) := by decide +kernel
theorem dX12_priceOf_37 : decode cX12_priceOf 37 = .ok (.goto (-33), 3) := by decide +kernel
theorem dX12_priceOf_40 : decode cX12_priceOf 40 = .ok (.iload_n 2, 1) := by decide +kernel
theorem dX12_priceOf_41 : decode cX12_priceOf 41 = .ok (.ireturn, 1) := by decide +kernel
theorem dX12_waitingNow_0 : decode cX12_waitingNow 0 = .ok (.aload_n 0, 1) := by decide +kernel
theorem dX12_waitingNow_1 : decode cX12_waitingNow 1 = .ok (.invokevirtual 445, 3) := by decide +kernel
theorem dX12_waitingNow_4 : decode cX12_waitingNow 4 = .ok (.aload_n 0, 1) := by decide +kernel
theorem dX12_waitingNow_5 : decode cX12_waitingNow 5 = .ok (.iconst 0, 1) := by decide +kernel
theorem dX12_waitingNow_6 : decode cX12_waitingNow 6 = .ok (.invokevirtual 470, 3) := by decide +kernel
theorem dX12_waitingNow_9 : decode cX12_waitingNow 9 = .ok (.ireturn, 1) := by decide +kernel
theorem dX12_purchase_0 : decode cX12_purchase 0 = .ok (.iload_n 1, 1) := by decide +kernel
theorem dX12_purchase_1 : decode cX12_purchase 1 = .ok (.iconst 0, 1) := by decide +kernel
theorem dX12_purchase_2 : decode cX12_purchase 2 = .ok (.sipush 9999, 3) := by decide +kernel
theorem dX12_purchase_5 : decode cX12_purchase 5 = .ok (.invokestatic 418, 3) := by decide +kernel
theorem dX12_purchase_8 : decode cX12_purchase 8 = .ok (.ifCond .eq 12, 3) := by decide +kernel
theorem dX12_purchase_11 : decode cX12_purchase 11 = .ok (.iload_n 2, 1) := by decide +kernel
theorem dX12_purchase_12 : decode cX12_purchase 12 = .ok (.iconst 0, 1) := by decide +kernel
theorem dX12_purchase_13 : decode cX12_purchase 13 = .ok (.iconst 1, 1) := by decide +kernel
theorem dX12_purchase_14 : decode cX12_purchase 14 = .ok (.invokestatic 418, 3) := by decide +kernel
theorem dX12_purchase_17 : decode cX12_purchase 17 = .ok (.ifCond .ne 5, 3) := by decide +kernel
theorem dX12_purchase_20 : decode cX12_purchase 20 = .ok (.iconst (-1), 1) := by decide +kernel
theorem dX12_purchase_21 : decode cX12_purchase 21 = .ok (.ireturn, 1) := by decide +kernel
theorem dX12_purchase_22 : decode cX12_purchase 22 = .ok (.aload_n 0, 1) := by decide +kernel
theorem dX12_purchase_23 : decode cX12_purchase 23 = .ok (.invokevirtual 483, 3) := by decide +kernel
theorem dX12_purchase_26 : decode cX12_purchase 26 = .ok (.istore_n 3, 1) := by decide +kernel
theorem dX12_purchase_27 : decode cX12_purchase 27 = .ok (.iconst (-1), 1) := by decide +kernel
theorem dX12_purchase_28 : decode cX12_purchase 28 = .ok (.istore 4, 2) := by decide +kernel
theorem dX12_purchase_30 : decode cX12_purchase 30 = .ok (.iconst 0, 1) := by decide +kernel
theorem dX12_purchase_31 : decode cX12_purchase 31 = .ok (.istore 5, 2) := by decide +kernel
theorem dX12_purchase_33 : decode cX12_purchase 33 = .ok (.iload 5, 2) := by decide +kernel
theorem dX12_purchase_35 : decode cX12_purchase 35 = .ok (.iload_n 3, 1) := by decide +kernel
theorem dX12_purchase_36 : decode cX12_purchase 36 = .ok (.if_icmp .gt 95, 3) := by decide +kernel
theorem dX12_purchase_39 : decode cX12_purchase 39 = .ok (.iload 5, 2) := by decide +kernel
theorem dX12_purchase_41 : decode cX12_purchase 41 = .ok (.iload_n 3, 1) := by decide +kernel
theorem dX12_purchase_42 : decode cX12_purchase 42 = .ok (.iconst (-1), 1) := by decide +kernel
theorem dX12_purchase_43 : decode cX12_purchase 43 = .ok (.ixor, 1) := by decide +kernel
theorem dX12_purchase_44 : decode cX12_purchase 44 = .ok (.iand, 1) := by decide +kernel
theorem dX12_purchase_45 : decode cX12_purchase 45 = .ok (.ifCond .eq 6, 3) := by decide +kernel
theorem dX12_purchase_48 : decode cX12_purchase 48 = .ok (.goto 77, 3) := by decide +kernel
theorem dX12_purchase_51 : decode cX12_purchase 51 = .ok (.iload 4, 2) := by decide +kernel
theorem dX12_purchase_53 : decode cX12_purchase 53 = .ok (.ifCond .lt 46, 3) := by decide +kernel
theorem dX12_purchase_56 : decode cX12_purchase 56 = .ok (.aload_n 0, 1) := by decide +kernel
theorem dX12_purchase_57 : decode cX12_purchase 57 = .ok (.iload 5, 2) := by decide +kernel
theorem dX12_purchase_59 : decode cX12_purchase 59 = .ok (.invokevirtual 486, 3) := by decide +kernel
theorem dX12_purchase_62 : decode cX12_purchase 62 = .ok (.aload_n 0, 1) := by decide +kernel
theorem dX12_purchase_63 : decode cX12_purchase 63 = .ok (.iload 4, 2) := by decide +kernel
theorem dX12_purchase_65 : decode cX12_purchase 65 = .ok (.invokevirtual 486, 3) := by decide +kernel
theorem dX12_purchase_68 : decode cX12_purchase 68 = .ok (.if_icmp .lt 31, 3) := by decide +kernel
theorem dX12_purchase_71 : decode cX12_purchase 71 = .ok (.aload_n 0, 1) := by decide +kernel
theorem dX12_purchase_72 : decode cX12_purchase 72 = .ok (.iload 5, 2) := by decide +kernel
theorem dX12_purchase_74 : decode cX12_purchase 74 = .ok (.invokevirtual 486, 3) := by decide +kernel
theorem dX12_purchase_77 : decode cX12_purchase 77 = .ok (.aload_n 0, 1) := by decide +kernel
theorem dX12_purchase_78 : decode cX12_purchase 78 = .ok (.iload 4, 2) := by decide +kernel
theorem dX12_purchase_80 : decode cX12_purchase 80 = .ok (.invokevirtual 486, 3) := by decide +kernel
theorem dX12_purchase_83 : decode cX12_purchase 83 = .ok (.if_icmp .ne 20, 3) := by decide +kernel
theorem dX12_purchase_86 : decode cX12_purchase 86 = .ok (.iload 5, 2) := by decide +kernel
theorem dX12_purchase_88 : decode cX12_purchase 88 = .ok (.invokestatic 489, 3) := by decide +kernel
theorem dX12_purchase_91 : decode cX12_purchase 91 = .ok (.iload 4, 2) := by decide +kernel
theorem dX12_purchase_93 : decode cX12_purchase 93 = .ok (.invokestatic 489, 3) := by decide +kernel
theorem dX12_purchase_96 : decode cX12_purchase 96 = .ok (.if_icmp .ge 7, 3) := by decide +kernel
theorem dX12_purchase_99 : decode cX12_purchase 99 = .ok (.iconst 1, 1) := by decide +kernel
theorem dX12_purchase_100 : decode cX12_purchase 100 = .ok (.goto 4, 3) := by decide +kernel
theorem dX12_purchase_103 : decode cX12_purchase 103 = .ok (.iconst 0, 1) := by decide +kernel
theorem dX12_purchase_104 : decode cX12_purchase 104 = .ok (.istore 6, 2) := by decide +kernel
theorem dX12_purchase_106 : decode cX12_purchase 106 = .ok (.iload 6, 2) := by decide +kernel
theorem dX12_purchase_108 : decode cX12_purchase 108 = .ok (.ifCond .eq 17, 3) := by decide +kernel
theorem dX12_purchase_111 : decode cX12_purchase 111 = .ok (.aload_n 0, 1) := by decide +kernel
theorem dX12_purchase_112 : decode cX12_purchase 112 = .ok (.iload 5, 2) := by decide +kernel
theorem dX12_purchase_114 : decode cX12_purchase 114 = .ok (.invokevirtual 492, 3) := by decide +kernel
theorem dX12_purchase_117 : decode cX12_purchase 117 = .ok (.iload_n 1, 1) := by decide +kernel
theorem dX12_purchase_118 : decode cX12_purchase 118 = .ok (.if_icmp .gt 7, 3) := by decide +kernel
theorem dX12_purchase_121 : decode cX12_purchase 121 = .ok (.iload 5, 2) := by decide +kernel
theorem dX12_purchase_123 : decode cX12_purchase 123 = .ok (.istore 4, 2) := by decide +kernel
theorem dX12_purchase_125 : decode cX12_purchase 125 = .ok (.iinc 5 1, 3) := by decide +kernel
theorem dX12_purchase_128 : decode cX12_purchase 128 = .ok (.goto (-95), 3) := by decide +kernel
theorem dX12_purchase_131 : decode cX12_purchase 131 = .ok (.iload 4, 2) := by decide +kernel
theorem dX12_purchase_133 : decode cX12_purchase 133 = .ok (.ifCond .ge 7, 3) := by decide +kernel
theorem dX12_purchase_136 : decode cX12_purchase 136 = .ok (.iconst (-1), 1) := by decide +kernel
theorem dX12_purchase_137 : decode cX12_purchase 137 = .ok (.goto 18, 3) := by decide +kernel
theorem dX12_purchase_140 : decode cX12_purchase 140 = .ok (.iload_n 2, 1) := by decide +kernel
theorem dX12_purchase_141 : decode cX12_purchase 141 = .ok (.ifCond .ne 12, 3) := by decide +kernel
theorem dX12_purchase_144 : decode cX12_purchase 144 = .ok (.aload_n 0, 1) := by decide +kernel
theorem dX12_purchase_145 : decode cX12_purchase 145 = .ok (.iload 4, 2) := by decide +kernel
theorem dX12_purchase_147 : decode cX12_purchase 147 = .ok (.invokevirtual 486, 3) := by decide +kernel
theorem dX12_purchase_150 : decode cX12_purchase 150 = .ok (.goto 5, 3) := by decide +kernel
theorem dX12_purchase_153 : decode cX12_purchase 153 = .ok (.iload 4, 2) := by decide +kernel
theorem dX12_purchase_155 : decode cX12_purchase 155 = .ok (.ireturn, 1) := by decide +kernel
theorem dX12_boast_0 : decode cX12_boast 0 = .ok (.aload_n 0, 1) := by decide +kernel
theorem dX12_boast_1 : decode cX12_boast 1 = .ok (.iload_n 1, 1) := by decide +kernel
theorem dX12_boast_2 : decode cX12_boast 2 = .ok (.invokevirtual 454, 3) := by decide +kernel
theorem dX12_boast_5 : decode cX12_boast 5 = .ok (.ifCond .ne 5, 3) := by decide +kernel
theorem dX12_boast_8 : decode cX12_boast 8 = .ok (.iconst (-1), 1) := by decide +kernel
theorem dX12_boast_9 : decode cX12_boast 9 = .ok (.ireturn, 1) := by decide +kernel
theorem dX12_boast_10 : decode cX12_boast 10 = .ok (.aload_n 0, 1) := by decide +kernel
theorem dX12_boast_11 : decode cX12_boast 11 = .ok (.invokevirtual 445, 3) := by decide +kernel
theorem dX12_boast_14 : decode cX12_boast 14 = .ok (.iconst 0, 1) := by decide +kernel
theorem dX12_boast_15 : decode cX12_boast 15 = .ok (.istore_n 2, 1) := by decide +kernel
theorem dX12_boast_16 : decode cX12_boast 16 = .ok (.iload_n 2, 1) := by decide +kernel
theorem dX12_boast_17 : decode cX12_boast 17 = .ok (.bipush 99, 2) := by decide +kernel
theorem dX12_boast_19 : decode cX12_boast 19 = .ok (.if_icmp .gt 91, 3) := by decide +kernel
theorem dX12_boast_22 : decode cX12_boast 22 = .ok (.aload_n 0, 1) := by decide +kernel
theorem dX12_boast_23 : decode cX12_boast 23 = .ok (.iconst 0, 1) := by decide +kernel
theorem dX12_boast_24 : decode cX12_boast 24 = .ok (.iload_n 1, 1) := by decide +kernel
theorem dX12_boast_25 : decode cX12_boast 25 = .ok (.iload_n 2, 1) := by decide +kernel
theorem dX12_boast_26 : decode cX12_boast 26 = .ok (.iload_n 2, 1) := by decide +kernel
theorem dX12_boast_27 : decode cX12_boast 27 = .ok (.invokevirtual 422, 3) := by decide +kernel
theorem dX12_boast_30 : decode cX12_boast 30 = .ok (.istore_n 3, 1) := by decide +kernel
theorem dX12_boast_31 : decode cX12_boast 31 = .ok (.iconst 1, 1) := by decide +kernel
theorem dX12_boast_32 : decode cX12_boast 32 = .ok (.istore 4, 2) := by decide +kernel
theorem dX12_boast_34 : decode cX12_boast 34 = .ok (.iconst 0, 1) := by decide +kernel
theorem dX12_boast_35 : decode cX12_boast 35 = .ok (.istore 5, 2) := by decide +kernel
theorem dX12_boast_37 : decode cX12_boast 37 = .ok (.iload 5, 2) := by decide +kernel
theorem dX12_boast_39 : decode cX12_boast 39 = .ok (.aload_n 0, 1) := by decide +kernel
theorem dX12_boast_40 : decode cX12_boast 40 = .ok (.getfield 323, 3) := by decide +kernel
theorem dX12_boast_43 : decode cX12_boast 43 = .ok (.if_icmp .ge 54, 3) := by decide +kernel
theorem dX12_boast_46 : decode cX12_boast 46 = .ok (.iload 4, 2) := by decide +kernel
theorem dX12_boast_48 : decode cX12_boast 48 = .ok (.ifCond .eq 49, 3) := by decide +kernel
theorem dX12_boast_51 : decode cX12_boast 51 = .ok (.iload 5, 2) := by decide +kernel
theorem dX12_boast_53 : decode cX12_boast 53 = .ok (.iload_n 1, 1) := by decide +kernel
theorem dX12_boast_54 : decode cX12_boast 54 = .ok (.if_icmp .eq 30, 3) := by decide +kernel
theorem dX12_boast_57 : decode cX12_boast 57 = .ok (.aload_n 0, 1) := by decide +kernel
theorem dX12_boast_58 : decode cX12_boast 58 = .ok (.getfield 100, 3) := by decide +kernel
theorem dX12_boast_61 : decode cX12_boast 61 = .ok (.iload 5, 2) := by decide +kernel
theorem dX12_boast_63 : decode cX12_boast 63 = .ok (.iaload, 1) := by decide +kernel
theorem dX12_boast_64 : decode cX12_boast 64 = .ok (.ifCond .ne 20, 3) := by decide +kernel
theorem dX12_boast_67 : decode cX12_boast 67 = .ok (.aload_n 0, 1) := by decide +kernel
theorem dX12_boast_68 : decode cX12_boast 68 = .ok (.iload_n 1, 1) := by decide +kernel
theorem dX12_boast_69 : decode cX12_boast 69 = .ok (.iload_n 3, 1) := by decide +kernel
theorem dX12_boast_70 : decode cX12_boast 70 = .ok (.iload 5, 2) := by decide +kernel
theorem dX12_boast_72 : decode cX12_boast 72 = .ok (.aload_n 0, 1) := by decide +kernel
theorem dX12_boast_73 : decode cX12_boast 73 = .ok (.iload 5, 2) := by decide +kernel
theorem dX12_boast_75 : decode cX12_boast 75 = .ok (.invokevirtual 426, 3) := by decide +kernel
theorem dX12_boast_78 : decode cX12_boast 78 = .ok (.invokevirtual 429, 3) := by decide +kernel
theorem dX12_boast_81 : decode cX12_boast 81 = .ok (.ifCond .eq 7, 3) := by decide +kernel
theorem dX12_boast_84 : decode cX12_boast 84 = .ok (.iconst 1, 1) := by decide +kernel
theorem dX12_boast_85 : decode cX12_boast 85 = .ok (.goto 4, 3) := by decide +kernel
theorem dX12_boast_88 : decode cX12_boast 88 = .ok (.iconst 0, 1) := by decide +kernel
theorem dX12_boast_89 : decode cX12_boast 89 = .ok (.istore 4, 2) := by decide +kernel
theorem dX12_boast_91 : decode cX12_boast 91 = .ok (.iinc 5 1, 3) := by decide +kernel
theorem dX12_boast_94 : decode cX12_boast 94 = .ok (.goto (-57), 3) := by decide +kernel
theorem dX12_boast_97 : decode cX12_boast 97 = .ok (.iload 4, 2) := by decide +kernel
theorem dX12_boast_99 : decode cX12_boast 99 = .ok (.ifCond .eq 5, 3) := by decide +kernel
theorem dX12_boast_102 : decode cX12_boast 102 = .ok (.iload_n 2, 1) := by decide +kernel
theorem dX12_boast_103 : decode cX12_boast 103 = .ok (.ireturn, 1) := by decide +kernel
theorem dX12_boast_104 : decode cX12_boast 104 = .ok (.iinc 2 1, 3) := by decide +kernel
theorem dX12_boast_107 : decode cX12_boast 107 = .ok (.goto (-91), 3) := by decide +kernel
theorem dX12_boast_110 : decode cX12_boast 110 = .ok (.iconst (-1), 1) := by decide +kernel
theorem dX12_boast_111 : decode cX12_boast 111 = .ok (.ireturn, 1) := by decide +kernel
theorem dX12_weightOf_0 : decode cX12_weightOf 0 = .ok (.iconst 0, 1) := by decide +kernel
theorem dX12_weightOf_1 : decode cX12_weightOf 1 = .ok (.istore_n 2, 1) := by decide +kernel
theorem dX12_weightOf_2 : decode cX12_weightOf 2 = .ok (.iconst 0, 1) := by decide +kernel
theorem dX12_weightOf_3 : decode cX12_weightOf 3 = .ok (.istore_n 3, 1) := by decide +kernel
theorem dX12_weightOf_4 : decode cX12_weightOf 4 = .ok (.iload_n 3, 1) := by decide +kernel
theorem dX12_weightOf_5 : decode cX12_weightOf 5 = .ok (.aload_n 0, 1) := by decide +kernel
theorem dX12_weightOf_6 : decode cX12_weightOf 6 = .ok (.getfield 323, 3) := by decide +kernel
theorem dX12_weightOf_9 : decode cX12_weightOf 9 = .ok (.if_icmp .ge 73, 3) := by decide +kernel
theorem dX12_weightOf_12 : decode cX12_weightOf 12 = .ok (.iload_n 1, 1) := by decide +kernel
theorem dX12_weightOf_13 : decode cX12_weightOf 13 = .ok (.iload_n 3, 1) := by decide +kernel
theorem dX12_weightOf_14 : decode cX12_weightOf 14 = .ok (.ishr, 1) := by decide +kernel
theorem dX12_weightOf_15 : decode cX12_weightOf 15 = .ok (.iconst 1, 1) := by decide +kernel
theorem dX12_weightOf_16 : decode cX12_weightOf 16 = .ok (.iand, 1) := by decide +kernel
theorem dX12_weightOf_17 : decode cX12_weightOf 17 = .ok (.ifCond .ne 6, 3) := by decide +kernel
theorem dX12_weightOf_20 : decode cX12_weightOf 20 = .ok (.goto 56, 3) := by decide +kernel
theorem dX12_weightOf_23 : decode cX12_weightOf 23 = .ok (.iload_n 2, 1) := by decide +kernel
theorem dX12_weightOf_24 : decode cX12_weightOf 24 = .ok (.aload_n 0, 1) := by decide +kernel
theorem dX12_weightOf_25 : decode cX12_weightOf 25 = .ok (.getfield 73, 3) := by decide +kernel
theorem dX12_weightOf_28 : decode cX12_weightOf 28 = .ok (.iload_n 3, 1) := by decide +kernel
theorem dX12_weightOf_29 : decode cX12_weightOf 29 = .ok (.iaload, 1) := by decide +kernel
theorem dX12_weightOf_30 : decode cX12_weightOf 30 = .ok (.iadd, 1) := by decide +kernel
theorem dX12_weightOf_31 : decode cX12_weightOf 31 = .ok (.istore_n 2, 1) := by decide +kernel
theorem dX12_weightOf_32 : decode cX12_weightOf 32 = .ok (.iconst 0, 1) := by decide +kernel
theorem dX12_weightOf_33 : decode cX12_weightOf 33 = .ok (.istore 4, 2) := by decide +kernel
theorem dX12_weightOf_35 : decode cX12_weightOf 35 = .ok (.iload 4, 2) := by decide +kernel
theorem dX12_weightOf_37 : decode cX12_weightOf 37 = .ok (.iload_n 3, 1) := by decide +kernel
theorem dX12_weightOf_38 : decode cX12_weightOf 38 = .ok (.if_icmp .ge 38, 3) := by decide +kernel
theorem dX12_weightOf_41 : decode cX12_weightOf 41 = .ok (.iload_n 2, 1) := by decide +kernel
theorem dX12_weightOf_42 : decode cX12_weightOf 42 = .ok (.iload_n 1, 1) := by decide +kernel
theorem dX12_weightOf_43 : decode cX12_weightOf 43 = .ok (.iload 4, 2) := by decide +kernel
theorem dX12_weightOf_45 : decode cX12_weightOf 45 = .ok (.ishr, 1) := by decide +kernel
theorem dX12_weightOf_46 : decode cX12_weightOf 46 = .ok (.iconst 1, 1) := by decide +kernel
theorem dX12_weightOf_47 : decode cX12_weightOf 47 = .ok (.iand, 1) := by decide +kernel
theorem dX12_weightOf_48 : decode cX12_weightOf 48 = .ok (.iconst 1, 1) := by decide +kernel
theorem dX12_weightOf_49 : decode cX12_weightOf 49 = .ok (.if_icmp .ne 18, 3) := by decide +kernel
theorem dX12_weightOf_52 : decode cX12_weightOf 52 = .ok (.aload_n 0, 1) := by decide +kernel
theorem dX12_weightOf_53 : decode cX12_weightOf 53 = .ok (.getfield 91, 3) := by decide +kernel
theorem dX12_weightOf_56 : decode cX12_weightOf 56 = .ok (.bipush 7, 2) := by decide +kernel
theorem dX12_weightOf_58 : decode cX12_weightOf 58 = .ok (.iload_n 3, 1) := by decide +kernel
theorem dX12_weightOf_59 : decode cX12_weightOf 59 = .ok (.imul, 1) := by decide +kernel
theorem dX12_weightOf_60 : decode cX12_weightOf 60 = .ok (.iload 4, 2) := by decide +kernel
theorem dX12_weightOf_62 : decode cX12_weightOf 62 = .ok (.iadd, 1) := by decide +kernel
theorem dX12_weightOf_63 : decode cX12_weightOf 63 = .ok (.iaload, 1) := by decide +kernel
theorem dX12_weightOf_64 : decode cX12_weightOf 64 = .ok (.goto 4, 3) := by decide +kernel
theorem dX12_weightOf_67 : decode cX12_weightOf 67 = .ok (.iconst 0, 1) := by decide +kernel
theorem dX12_weightOf_68 : decode cX12_weightOf 68 = .ok (.iadd, 1) := by decide +kernel
theorem dX12_weightOf_69 : decode cX12_weightOf 69 = .ok (.istore_n 2, 1) := by decide +kernel
theorem dX12_weightOf_70 : decode cX12_weightOf 70 = .ok (.iinc 4 1, 3) := by decide +kernel
theorem dX12_weightOf_73 : decode cX12_weightOf 73 = .ok (.goto (-38), 3) := by decide +kernel
theorem dX12_weightOf_76 : decode cX12_weightOf 76 = .ok (.iinc 3 1, 3) := by decide +kernel
theorem dX12_weightOf_79 : decode cX12_weightOf 79 = .ok (.goto (-75), 3) := by decide +kernel
theorem dX12_weightOf_82 : decode cX12_weightOf 82 = .ok (.iload_n 2, 1) := by decide +kernel
theorem dX12_weightOf_83 : decode cX12_weightOf 83 = .ok (.ireturn, 1) := by decide +kernel
theorem dX12_standing_0 : decode cX12_standing 0 = .ok (.aload_n 0, 1) := by decide +kernel
theorem dX12_standing_1 : decode cX12_standing 1 = .ok (.invokevirtual 445, 3) := by decide +kernel
theorem dX12_standing_4 : decode cX12_standing 4 = .ok (.aload_n 0, 1) := by decide +kernel
theorem dX12_standing_5 : decode cX12_standing 5 = .ok (.iconst 2, 1) := by decide +kernel
theorem dX12_standing_6 : decode cX12_standing 6 = .ok (.invokevirtual 470, 3) := by decide +kernel
theorem dX12_standing_9 : decode cX12_standing 9 = .ok (.ireturn, 1) := by decide +kernel
theorem dX12_isBarred_0 : decode cX12_isBarred 0 = .ok (.aload_n 0, 1) := by decide +kernel
theorem dX12_isBarred_1 : decode cX12_isBarred 1 = .ok (.iload_n 1, 1) := by decide +kernel
theorem dX12_isBarred_2 : decode cX12_isBarred 2 = .ok (.invokevirtual 495, 3) := by decide +kernel
theorem dX12_isBarred_5 : decode cX12_isBarred 5 = .ok (.aload_n 0, 1) := by decide +kernel
theorem dX12_isBarred_6 : decode cX12_isBarred 6 = .ok (.getfield 94, 3) := by decide +kernel
theorem dX12_isBarred_9 : decode cX12_isBarred 9 = .ok (.if_icmp .lt 7, 3) := by decide +kernel
theorem dX12_isBarred_12 : decode cX12_isBarred 12 = .ok (.iconst 1, 1) := by decide +kernel
theorem dX12_isBarred_13 : decode cX12_isBarred 13 = .ok (.goto 4, 3) := by decide +kernel
theorem dX12_isBarred_16 : decode cX12_isBarred 16 = .ok (.iconst 0, 1) := by decide +kernel
theorem dX12_isBarred_17 : decode cX12_isBarred 17 = .ok (.ireturn, 1) := by decide +kernel
theorem dX12_weight_0 : decode cX12_weight 0 = .ok (.aload_n 0, 1) := by decide +kernel
theorem dX12_weight_1 : decode cX12_weight 1 = .ok (.aload_n 0, 1) := by decide +kernel
theorem dX12_weight_2 : decode cX12_weight 2 = .ok (.invokevirtual 498, 3) := by decide +kernel
theorem dX12_weight_5 : decode cX12_weight 5 = .ok (.invokevirtual 495, 3) := by decide +kernel
theorem dX12_weight_8 : decode cX12_weight 8 = .ok (.ireturn, 1) := by decide +kernel
theorem dX12_threat_0 : decode cX12_threat 0 = .ok (.iload_n 1, 1) := by decide +kernel
theorem dX12_threat_1 : decode cX12_threat 1 = .ok (.iconst 0, 1) := by decide +kernel
theorem dX12_threat_2 : decode cX12_threat 2 = .ok (.iconst 1, 1) := by decide +kernel
theorem dX12_threat_3 : decode cX12_threat 3 = .ok (.invokestatic 418, 3) := by decide +kernel
theorem dX12_threat_6 : decode cX12_threat 6 = .ok (.ifCond .ne 5, 3) := by decide +kernel
theorem dX12_threat_9 : decode cX12_threat 9 = .ok (.iconst (-1), 1) := by decide +kernel
theorem dX12_threat_10 : decode cX12_threat 10 = .ok (.ireturn, 1) := by decide +kernel
theorem dX12_threat_11 : decode cX12_threat 11 = .ok (.aload_n 0, 1) := by decide +kernel
theorem dX12_threat_12 : decode cX12_threat 12 = .ok (.invokevirtual 483, 3) := by decide +kernel
theorem dX12_threat_15 : decode cX12_threat 15 = .ok (.istore_n 2, 1) := by decide +kernel
theorem dX12_threat_16 : decode cX12_threat 16 = .ok (.aload_n 0, 1) := by decide +kernel
theorem dX12_threat_17 : decode cX12_threat 17 = .ok (.invokevirtual 498, 3) := by decide +kernel
theorem dX12_threat_20 : decode cX12_threat 20 = .ok (.istore_n 3, 1) := by decide +kernel
theorem dX12_threat_21 : decode cX12_threat 21 = .ok (.iconst (-1), 1) := by decide +kernel
theorem dX12_threat_22 : decode cX12_threat 22 = .ok (.istore 4, 2) := by decide +kernel
theorem dX12_threat_24 : decode cX12_threat 24 = .ok (.iconst 0, 1) := by decide +kernel
theorem dX12_threat_25 : decode cX12_threat 25 = .ok (.istore 5, 2) := by decide +kernel
theorem dX12_threat_27 : decode cX12_threat 27 = .ok (.iload 5, 2) := by decide +kernel
theorem dX12_threat_29 : decode cX12_threat 29 = .ok (.iload_n 2, 1) := by decide +kernel
theorem dX12_threat_30 : decode cX12_threat 30 = .ok (.if_icmp .gt 51, 3) := by decide +kernel
theorem dX12_threat_33 : decode cX12_threat 33 = .ok (.iload 5, 2) := by decide +kernel
theorem dX12_threat_35 : decode cX12_threat 35 = .ok (.iload_n 2, 1) := by decide +kernel
theorem dX12_threat_36 : decode cX12_threat 36 = .ok (.iconst (-1), 1) := by decide +kernel
theorem dX12_threat_37 : decode cX12_threat 37 = .ok (.ixor, 1) := by decide +kernel
theorem dX12_threat_38 : decode cX12_threat 38 = .ok (.iand, 1) := by decide +kernel
theorem dX12_threat_39 : decode cX12_threat 39 = .ok (.ifCond .ne 36, 3) := by decide +kernel
theorem dX12_threat_42 : decode cX12_threat 42 = .ok (.iload 4, 2) := by decide +kernel
theorem dX12_threat_44 : decode cX12_threat 44 = .ok (.ifCond .lt 16, 3) := by decide +kernel
theorem dX12_threat_47 : decode cX12_threat 47 = .ok (.iload 5, 2) := by decide +kernel
theorem dX12_threat_49 : decode cX12_threat 49 = .ok (.invokestatic 489, 3) := by decide +kernel
theorem dX12_threat_52 : decode cX12_threat 52 = .ok (.iload 4, 2) := by decide +kernel
theorem dX12_threat_54 : decode cX12_threat 54 = .ok (.invokestatic 489, 3) := by decide +kernel
theorem dX12_threat_57 : decode cX12_threat 57 = .ok (.if_icmp .ge 18, 3) := by decide +kernel
theorem dX12_threat_60 : decode cX12_threat 60 = .ok (.aload_n 0, 1) := by decide +kernel
theorem dX12_threat_61 : decode cX12_threat 61 = .ok (.iload_n 3, 1) := by decide +kernel
theorem dX12_threat_62 : decode cX12_threat 62 = .ok (.iload 5, 2) := by decide +kernel
theorem dX12_threat_64 : decode cX12_threat 64 = .ok (.ior, 1) := by decide +kernel
theorem dX12_threat_65 : decode cX12_threat 65 = .ok (.invokevirtual 501, 3) := by decide +kernel
theorem dX12_threat_68 : decode cX12_threat 68 = .ok (.ifCond .eq 7, 3) := by decide +kernel
theorem dX12_threat_71 : decode cX12_threat 71 = .ok (.iload 5, 2) := by decide +kernel
theorem dX12_threat_73 : decode cX12_threat 73 = .ok (.istore 4, 2) := by decide +kernel
theorem dX12_threat_75 : decode cX12_threat 75 = .ok (.iinc 5 1, 3) := by decide +kernel
theorem dX12_threat_78 : decode cX12_threat 78 = .ok (.goto (-51), 3) := by decide +kernel
theorem dX12_threat_81 : decode cX12_threat 81 = .ok (.iload 4, 2) := by decide +kernel
theorem dX12_threat_83 : decode cX12_threat 83 = .ok (.ifCond .ge 7, 3) := by decide +kernel
theorem dX12_threat_86 : decode cX12_threat 86 = .ok (.iconst (-1), 1) := by decide +kernel
theorem dX12_threat_87 : decode cX12_threat 87 = .ok (.goto 17, 3) := by decide +kernel
theorem dX12_threat_90 : decode cX12_threat 90 = .ok (.iload_n 1, 1) := by decide +kernel
theorem dX12_threat_91 : decode cX12_threat 91 = .ok (.ifCond .ne 11, 3) := by decide +kernel
theorem dX12_threat_94 : decode cX12_threat 94 = .ok (.iload 4, 2) := by decide +kernel
theorem dX12_threat_96 : decode cX12_threat 96 = .ok (.invokestatic 489, 3) := by decide +kernel
theorem dX12_threat_99 : decode cX12_threat 99 = .ok (.goto 5, 3) := by decide +kernel
theorem dX12_threat_102 : decode cX12_threat 102 = .ok (.iload 4, 2) := by decide +kernel
theorem dX12_threat_104 : decode cX12_threat 104 = .ok (.ireturn, 1) := by decide +kernel
theorem dX12_bars_0 : decode cX12_bars 0 = .ok (.aload_n 0, 1) := by decide +kernel
theorem dX12_bars_1 : decode cX12_bars 1 = .ok (.invokevirtual 483, 3) := by decide +kernel
theorem dX12_bars_4 : decode cX12_bars 4 = .ok (.istore_n 1, 1) := by decide +kernel
theorem dX12_bars_5 : decode cX12_bars 5 = .ok (.aload_n 0, 1) := by decide +kernel
theorem dX12_bars_6 : decode cX12_bars 6 = .ok (.invokevirtual 498, 3) := by decide +kernel
theorem dX12_bars_9 : decode cX12_bars 9 = .ok (.istore_n 2, 1) := by decide +kernel
theorem dX12_bars_10 : decode cX12_bars 10 = .ok (.iconst 0, 1) := by decide +kernel
theorem dX12_bars_11 : decode cX12_bars 11 = .ok (.istore_n 3, 1) := by decide +kernel
theorem dX12_bars_12 : decode cX12_bars 12 = .ok (.iconst 0, 1) := by decide +kernel
theorem dX12_bars_13 : decode cX12_bars 13 = .ok (.istore 4, 2) := by decide +kernel
theorem dX12_bars_15 : decode cX12_bars 15 = .ok (.iload 4, 2) := by decide +kernel
theorem dX12_bars_17 : decode cX12_bars 17 = .ok (.iload_n 1, 1) := by decide +kernel
theorem dX12_bars_18 : decode cX12_bars 18 = .ok (.if_icmp .gt 40, 3) := by decide +kernel
theorem dX12_bars_21 : decode cX12_bars 21 = .ok (.iload_n 3, 1) := by decide +kernel
theorem dX12_bars_22 : decode cX12_bars 22 = .ok (.iload 4, 2) := by decide +kernel
theorem dX12_bars_24 : decode cX12_bars 24 = .ok (.iload_n 1, 1) := by decide +kernel
theorem dX12_bars_25 : decode cX12_bars 25 = .ok (.iconst (-1), 1) := by decide +kernel
theorem dX12_bars_26 : decode cX12_bars 26 = .ok (.ixor, 1) := by decide +kernel
theorem dX12_bars_27 : decode cX12_bars 27 = .ok (.iand, 1) := by decide +kernel
theorem dX12_bars_28 : decode cX12_bars 28 = .ok (.ifCond .ne 18, 3) := by decide +kernel
theorem dX12_bars_31 : decode cX12_bars 31 = .ok (.aload_n 0, 1) := by decide +kernel
theorem dX12_bars_32 : decode cX12_bars 32 = .ok (.iload_n 2, 1) := by decide +kernel
theorem dX12_bars_33 : decode cX12_bars 33 = .ok (.iload 4, 2) := by decide +kernel
theorem dX12_bars_35 : decode cX12_bars 35 = .ok (.ior, 1) := by decide +kernel
theorem dX12_bars_36 : decode cX12_bars 36 = .ok (.invokevirtual 501, 3) := by decide +kernel
theorem dX12_bars_39 : decode cX12_bars 39 = .ok (.ifCond .eq 7, 3) := by decide +kernel
theorem dX12_bars_42 : decode cX12_bars 42 = .ok (.iconst 1, 1) := by decide +kernel
theorem dX12_bars_43 : decode cX12_bars 43 = .ok (.goto 4, 3) := by decide +kernel
theorem dX12_bars_46 : decode cX12_bars 46 = .ok (.iconst 0, 1) := by decide +kernel
theorem dX12_bars_47 : decode cX12_bars 47 = .ok (.invokestatic 319, 3) := by decide +kernel
theorem dX12_bars_50 : decode cX12_bars 50 = .ok (.iadd, 1) := by decide +kernel
theorem dX12_bars_51 : decode cX12_bars 51 = .ok (.istore_n 3, 1) := by decide +kernel
theorem dX12_bars_52 : decode cX12_bars 52 = .ok (.iinc 4 1, 3) := by decide +kernel
theorem dX12_bars_55 : decode cX12_bars 55 = .ok (.goto (-40), 3) := by decide +kernel
theorem dX12_bars_58 : decode cX12_bars 58 = .ok (.iload_n 3, 1) := by decide +kernel
theorem dX12_bars_59 : decode cX12_bars 59 = .ok (.ireturn, 1) := by decide +kernel
theorem dX12_gain_0 : decode cX12_gain 0 = .ok (.aload_n 0, 1) := by decide +kernel
theorem dX12_gain_1 : decode cX12_gain 1 = .ok (.iload_n 1, 1) := by decide +kernel
theorem dX12_gain_2 : decode cX12_gain 2 = .ok (.invokevirtual 454, 3) := by decide +kernel
theorem dX12_gain_5 : decode cX12_gain 5 = .ok (.ifCond .eq 18, 3) := by decide +kernel
theorem dX12_gain_8 : decode cX12_gain 8 = .ok (.aload_n 0, 1) := by decide +kernel
theorem dX12_gain_9 : decode cX12_gain 9 = .ok (.invokevirtual 473, 3) := by decide +kernel
theorem dX12_gain_12 : decode cX12_gain 12 = .ok (.aload_n 0, 1) := by decide +kernel
theorem dX12_gain_13 : decode cX12_gain 13 = .ok (.iconst 1, 1) := by decide +kernel
theorem dX12_gain_14 : decode cX12_gain 14 = .ok (.iload_n 1, 1) := by decide +kernel
theorem dX12_gain_15 : decode cX12_gain 15 = .ok (.ishl, 1) := by decide +kernel
theorem dX12_gain_16 : decode cX12_gain 16 = .ok (.invokevirtual 492, 3) := by decide +kernel
theorem dX12_gain_19 : decode cX12_gain 19 = .ok (.isub, 1) := by decide +kernel
theorem dX12_gain_20 : decode cX12_gain 20 = .ok (.goto 6, 3) := by decide +kernel
theorem dX12_gain_23 : decode cX12_gain 23 = .ok (.ldc_w 457, 3) := by decide +kernel
theorem dX12_gain_26 : decode cX12_gain 26 = .ok (.ireturn, 1) := by decide +kernel
theorem dX12_crowd_0 : decode cX12_crowd 0 = .ok (.aload_n 0, 1) := by decide +kernel
theorem dX12_crowd_1 : decode cX12_crowd 1 = .ok (.iload_n 1, 1) := by decide +kernel
theorem dX12_crowd_2 : decode cX12_crowd 2 = .ok (.invokevirtual 451, 3) := by decide +kernel
theorem dX12_crowd_5 : decode cX12_crowd 5 = .ok (.ifCond .ne 5, 3) := by decide +kernel
theorem dX12_crowd_8 : decode cX12_crowd 8 = .ok (.iconst (-1), 1) := by decide +kernel
theorem dX12_crowd_9 : decode cX12_crowd 9 = .ok (.ireturn, 1) := by decide +kernel
theorem dX12_crowd_10 : decode cX12_crowd 10 = .ok (.iconst 1, 1) := by decide +kernel
theorem dX12_crowd_11 : decode cX12_crowd 11 = .ok (.iload_n 1, 1) := by decide +kernel
theorem dX12_crowd_12 : decode cX12_crowd 12 = .ok (.ishl, 1) := by decide +kernel
theorem dX12_crowd_13 : decode cX12_crowd 13 = .ok (.istore_n 2, 1) := by decide +kernel
theorem dX12_crowd_14 : decode cX12_crowd 14 = .ok (.iconst 0, 1) := by decide +kernel
theorem dX12_crowd_15 : decode cX12_crowd 15 = .ok (.istore_n 3, 1) := by decide +kernel
theorem dX12_crowd_16 : decode cX12_crowd 16 = .ok (.iload_n 3, 1) := by decide +kernel
theorem dX12_crowd_17 : decode cX12_crowd 17 = .ok (.bipush 7, 2) := by decide +kernel
theorem dX12_crowd_19 : decode cX12_crowd 19 = .ok (.if_icmp .ge 51, 3) := by decide +kernel
theorem dX12_crowd_22 : decode cX12_crowd 22 = .ok (.iconst 0, 1) := by decide +kernel
theorem dX12_crowd_23 : decode cX12_crowd 23 = .ok (.istore 4, 2) := by decide +kernel
theorem dX12_crowd_25 : decode cX12_crowd 25 = .ok (.iload 4, 2) := by decide +kernel
theorem dX12_crowd_27 : decode cX12_crowd 27 = .ok (.aload_n 0, 1) := by decide +kernel
theorem dX12_crowd_28 : decode cX12_crowd 28 = .ok (.getfield 323, 3) := by decide +kernel
theorem dX12_crowd_31 : decode cX12_crowd 31 = .ok (.if_icmp .ge 33, 3) := by decide +kernel
theorem dX12_crowd_34 : decode cX12_crowd 34 = .ok (.iload_n 2, 1) := by decide +kernel
theorem dX12_crowd_35 : decode cX12_crowd 35 = .ok (.iload_n 2, 1) := by decide +kernel
theorem dX12_crowd_36 : decode cX12_crowd 36 = .ok (.iload 4, 2) := by decide +kernel
theorem dX12_crowd_38 : decode cX12_crowd 38 = .ok (.ishr, 1) := by decide +kernel
theorem dX12_crowd_39 : decode cX12_crowd 39 = .ok (.iconst 1, 1) := by decide +kernel
theorem dX12_crowd_40 : decode cX12_crowd 40 = .ok (.iand, 1) := by decide +kernel
theorem dX12_crowd_41 : decode cX12_crowd 41 = .ok (.iconst 1, 1) := by decide +kernel
theorem dX12_crowd_42 : decode cX12_crowd 42 = .ok (.if_icmp .ne 13, 3) := by decide +kernel
theorem dX12_crowd_45 : decode cX12_crowd 45 = .ok (.aload_n 0, 1) := by decide +kernel
theorem dX12_crowd_46 : decode cX12_crowd 46 = .ok (.getfield 88, 3) := by decide +kernel
theorem dX12_crowd_49 : decode cX12_crowd 49 = .ok (.iload 4, 2) := by decide +kernel
theorem dX12_crowd_51 : decode cX12_crowd 51 = .ok (.iaload, 1) := by decide +kernel
theorem dX12_crowd_52 : decode cX12_crowd 52 = .ok (.goto 4, 3) := by decide +kernel
theorem dX12_crowd_55 : decode cX12_crowd 55 = .ok (.iconst 0, 1) := by decide +kernel
theorem dX12_crowd_56 : decode cX12_crowd 56 = .ok (.ior, 1) := by decide +kernel
theorem dX12_crowd_57 : decode cX12_crowd 57 = .ok (.istore_n 2, 1) := by decide +kernel
theorem dX12_crowd_58 : decode cX12_crowd 58 = .ok (.iinc 4 1, 3) := by decide +kernel
theorem dX12_crowd_61 : decode cX12_crowd 61 = .ok (.goto (-36), 3) := by decide +kernel
theorem dX12_crowd_64 : decode cX12_crowd 64 = .ok (.iinc 3 1, 3) := by decide +kernel
theorem dX12_crowd_67 : decode cX12_crowd 67 = .ok (.goto (-51), 3) := by decide +kernel
theorem dX12_crowd_70 : decode cX12_crowd 70 = .ok (.iload_n 2, 1) := by decide +kernel
theorem dX12_crowd_71 : decode cX12_crowd 71 = .ok (.ireturn, 1) := by decide +kernel
theorem dX12_divisor_0 : decode cX12_divisor 0 = .ok (.iload_n 0, 1) := by decide +kernel
theorem dX12_divisor_1 : decode cX12_divisor 1 = .ok (.istore_n 2, 1) := by decide +kernel
theorem dX12_divisor_2 : decode cX12_divisor 2 = .ok (.iload_n 1, 1) := by decide +kernel
theorem dX12_divisor_3 : decode cX12_divisor 3 = .ok (.istore_n 3, 1) := by decide +kernel
theorem dX12_divisor_4 : decode cX12_divisor 4 = .ok (.iload_n 3, 1) := by decide +kernel
theorem dX12_divisor_5 : decode cX12_divisor 5 = .ok (.ifCond .le 16, 3) := by decide +kernel
theorem dX12_divisor_8 : decode cX12_divisor 8 = .ok (.iload_n 2, 1) := by decide +kernel
theorem dX12_divisor_9 : decode cX12_divisor 9 = .ok (.iload_n 3, 1) := by decide +kernel
theorem dX12_divisor_10 : decode cX12_divisor 10 = .ok (.irem, 1) := by decide +kernel
theorem dX12_divisor_11 : decode cX12_divisor 11 = .ok (.istore 4, 2) := by decide +kernel
theorem dX12_divisor_13 : decode cX12_divisor 13 = .ok (.iload_n 3, 1) := by decide +kernel
theorem dX12_divisor_14 : decode cX12_divisor 14 = .ok (.istore_n 2, 1) := by decide +kernel
theorem dX12_divisor_15 : decode cX12_divisor 15 = .ok (.iload 4, 2) := by decide +kernel
theorem dX12_divisor_17 : decode cX12_divisor 17 = .ok (.istore_n 3, 1) := by decide +kernel
theorem dX12_divisor_18 : decode cX12_divisor 18 = .ok (.goto (-14), 3) := by decide +kernel
theorem dX12_divisor_21 : decode cX12_divisor 21 = .ok (.iload_n 2, 1) := by decide +kernel
theorem dX12_divisor_22 : decode cX12_divisor 22 = .ok (.ireturn, 1) := by decide +kernel
theorem dX12_power_0 : decode cX12_power 0 = .ok (.iconst 1, 1) := by decide +kernel
theorem dX12_power_1 : decode cX12_power 1 = .ok (.istore_n 2, 1) := by decide +kernel
theorem dX12_power_2 : decode cX12_power 2 = .ok (.iconst 0, 1) := by decide +kernel
theorem dX12_power_3 : decode cX12_power 3 = .ok (.istore_n 3, 1) := by decide +kernel
theorem dX12_power_4 : decode cX12_power 4 = .ok (.iload_n 3, 1) := by decide +kernel
theorem dX12_power_5 : decode cX12_power 5 = .ok (.iload_n 1, 1) := by decide +kernel
theorem dX12_power_6 : decode cX12_power 6 = .ok (.if_icmp .ge 13, 3) := by decide +kernel
theorem dX12_power_9 : decode cX12_power 9 = .ok (.iload_n 2, 1) := by decide +kernel
theorem dX12_power_10 : decode cX12_power 10 = .ok (.iload_n 0, 1) := by decide +kernel
theorem dX12_power_11 : decode cX12_power 11 = .ok (.imul, 1) := by decide +kernel
theorem dX12_power_12 : decode cX12_power 12 = .ok (.istore_n 2, 1) := by decide +kernel
theorem dX12_power_13 : decode cX12_power 13 = .ok (.iinc 3 1, 3) := by decide +kernel
theorem dX12_power_16 : decode cX12_power 16 = .ok (.goto (-12), 3) := by decide +kernel
theorem dX12_power_19 : decode cX12_power 19 = .ok (.iload_n 2, 1) := by decide +kernel
theorem dX12_power_20 : decode cX12_power 20 = .ok (.ireturn, 1) := by decide +kernel
theorem dX12_hundredths_0 : decode cX12_hundredths 0 = .ok (.aload_n 0, 1) := by decide +kernel
theorem dX12_hundredths_1 : decode cX12_hundredths 1 = .ok (.iload_n 1, 1) := by decide +kernel
theorem dX12_hundredths_2 : decode cX12_hundredths 2 = .ok (.invokevirtual 461, 3) := by decide +kernel
theorem dX12_hundredths_5 : decode cX12_hundredths 5 = .ok (.istore_n 2, 1) := by decide +kernel
theorem dX12_hundredths_6 : decode cX12_hundredths 6 = .ok (.iload_n 2, 1) := by decide +kernel
theorem dX12_hundredths_7 : decode cX12_hundredths 7 = .ok (.ifCond .ge 7, 3) := by decide +kernel
theorem dX12_hundredths_10 : decode cX12_hundredths 10 = .ok (.iconst 0, 1) := by decide +kernel
theorem dX12_hundredths_11 : decode cX12_hundredths 11 = .ok (.goto 15, 3) := by decide +kernel
theorem dX12_hundredths_14 : decode cX12_hundredths 14 = .ok (.iload_n 2, 1) := by decide +kernel
theorem dX12_hundredths_15 : decode cX12_hundredths 15 = .ok (.bipush 100, 2) := by decide +kernel
theorem dX12_hundredths_17 : decode cX12_hundredths 17 = .ok (.if_icmp .le 8, 3) := by decide +kernel
theorem dX12_hundredths_20 : decode cX12_hundredths 20 = .ok (.bipush 100, 2) := by decide +kernel
theorem dX12_hundredths_22 : decode cX12_hundredths 22 = .ok (.goto 4, 3) := by decide +kernel
theorem dX12_hundredths_25 : decode cX12_hundredths 25 = .ok (.iload_n 2, 1) := by decide +kernel
theorem dX12_hundredths_26 : decode cX12_hundredths 26 = .ok (.ireturn, 1) := by decide +kernel
theorem dX12_shareOf_0 : decode cX12_shareOf 0 = .ok (.iconst 1, 1) := by decide +kernel
theorem dX12_shareOf_1 : decode cX12_shareOf 1 = .ok (.istore_n 3, 1) := by decide +kernel
theorem dX12_shareOf_2 : decode cX12_shareOf 2 = .ok (.iconst 0, 1) := by decide +kernel
theorem dX12_shareOf_3 : decode cX12_shareOf 3 = .ok (.istore 4, 2) := by decide +kernel
theorem dX12_shareOf_5 : decode cX12_shareOf 5 = .ok (.iload 4, 2) := by decide +kernel
theorem dX12_shareOf_7 : decode cX12_shareOf 7 = .ok (.aload_n 0, 1) := by decide +kernel
theorem dX12_shareOf_8 : decode cX12_shareOf 8 = .ok (.getfield 323, 3) := by decide +kernel
theorem dX12_shareOf_11 : decode cX12_shareOf 11 = .ok (.if_icmp .ge 50, 3) := by decide +kernel
theorem dX12_shareOf_14 : decode cX12_shareOf 14 = .ok (.iload_n 1, 1) := by decide +kernel
theorem dX12_shareOf_15 : decode cX12_shareOf 15 = .ok (.iload 4, 2) := by decide +kernel
theorem dX12_shareOf_17 : decode cX12_shareOf 17 = .ok (.ishr, 1) := by decide +kernel
theorem dX12_shareOf_18 : decode cX12_shareOf 18 = .ok (.iconst 1, 1) := by decide +kernel
theorem dX12_shareOf_19 : decode cX12_shareOf 19 = .ok (.iand, 1) := by decide +kernel
theorem dX12_shareOf_20 : decode cX12_shareOf 20 = .ok (.iconst 1, 1) := by decide +kernel
theorem dX12_shareOf_21 : decode cX12_shareOf 21 = .ok (.if_icmp .ne 34, 3) := by decide +kernel
theorem dX12_shareOf_24 : decode cX12_shareOf 24 = .ok (.iload_n 3, 1) := by decide +kernel
theorem dX12_shareOf_25 : decode cX12_shareOf 25 = .ok (.iload_n 2, 1) := by decide +kernel
theorem dX12_shareOf_26 : decode cX12_shareOf 26 = .ok (.iload 4, 2) := by decide +kernel
theorem dX12_shareOf_28 : decode cX12_shareOf 28 = .ok (.ishr, 1) := by decide +kernel
theorem dX12_shareOf_29 : decode cX12_shareOf 29 = .ok (.iconst 1, 1) := by decide +kernel
theorem dX12_shareOf_30 : decode cX12_shareOf 30 = .ok (.iand, 1) := by decide +kernel
theorem dX12_shareOf_31 : decode cX12_shareOf 31 = .ok (.iconst 1, 1) := by decide +kernel
theorem dX12_shareOf_32 : decode cX12_shareOf 32 = .ok (.if_icmp .ne 12, 3) := by decide +kernel
theorem dX12_shareOf_35 : decode cX12_shareOf 35 = .ok (.aload_n 0, 1) := by decide +kernel
theorem dX12_shareOf_36 : decode cX12_shareOf 36 = .ok (.iload 4, 2) := by decide +kernel
theorem dX12_shareOf_38 : decode cX12_shareOf 38 = .ok (.invokevirtual 504, 3) := by decide +kernel
theorem dX12_shareOf_41 : decode cX12_shareOf 41 = .ok (.goto 12, 3) := by decide +kernel
theorem dX12_shareOf_44 : decode cX12_shareOf 44 = .ok (.bipush 100, 2) := by decide +kernel
theorem dX12_shareOf_46 : decode cX12_shareOf 46 = .ok (.aload_n 0, 1) := by decide +kernel
theorem dX12_shareOf_47 : decode cX12_shareOf 47 = .ok (.iload 4, 2) := by decide +kernel
theorem dX12_shareOf_49 : decode cX12_shareOf 49 = .ok (.invokevirtual 504, 3) := by decide +kernel
theorem dX12_shareOf_52 : decode cX12_shareOf 52 = .ok (.isub, 1) := by decide +kernel
theorem dX12_shareOf_53 : decode cX12_shareOf 53 = .ok (.imul, 1) := by decide +kernel
theorem dX12_shareOf_54 : decode cX12_shareOf 54 = .ok (.istore_n 3, 1) := by decide +kernel
theorem dX12_shareOf_55 : decode cX12_shareOf 55 = .ok (.iinc 4 1, 3) := by decide +kernel
theorem dX12_shareOf_58 : decode cX12_shareOf 58 = .ok (.goto (-53), 3) := by decide +kernel
theorem dX12_shareOf_61 : decode cX12_shareOf 61 = .ok (.iload_n 3, 1) := by decide +kernel
theorem dX12_shareOf_62 : decode cX12_shareOf 62 = .ok (.ireturn, 1) := by decide +kernel
theorem dX12_canAsk_0 : decode cX12_canAsk 0 = .ok (.iload_n 1, 1) := by decide +kernel
theorem dX12_canAsk_1 : decode cX12_canAsk 1 = .ok (.iconst 0, 1) := by decide +kernel
theorem dX12_canAsk_2 : decode cX12_canAsk 2 = .ok (.aload_n 0, 1) := by decide +kernel
theorem dX12_canAsk_3 : decode cX12_canAsk 3 = .ok (.invokevirtual 507, 3) := by decide +kernel
theorem dX12_canAsk_6 : decode cX12_canAsk 6 = .ok (.invokestatic 418, 3) := by decide +kernel
theorem dX12_canAsk_9 : decode cX12_canAsk 9 = .ok (.ifCond .eq 35, 3) := by decide +kernel
theorem dX12_canAsk_12 : decode cX12_canAsk 12 = .ok (.iload_n 1, 1) := by decide +kernel
theorem dX12_canAsk_13 : decode cX12_canAsk 13 = .ok (.aload_n 0, 1) := by decide +kernel
theorem dX12_canAsk_14 : decode cX12_canAsk 14 = .ok (.invokevirtual 483, 3) := by decide +kernel
theorem dX12_canAsk_17 : decode cX12_canAsk 17 = .ok (.iconst (-1), 1) := by decide +kernel
theorem dX12_canAsk_18 : decode cX12_canAsk 18 = .ok (.ixor, 1) := by decide +kernel
theorem dX12_canAsk_19 : decode cX12_canAsk 19 = .ok (.iand, 1) := by decide +kernel
theorem dX12_canAsk_20 : decode cX12_canAsk 20 = .ok (.ifCond .ne 24, 3) := by decide +kernel
theorem dX12_canAsk_23 : decode cX12_canAsk 23 = .ok (.iload_n 1, 1) := by decide +kernel
theorem dX12_canAsk_24 : decode cX12_canAsk 24 = .ok (.invokestatic 489, 3) := by decide +kernel
theorem dX12_canAsk_27 : decode cX12_canAsk 27 = .ok (.iconst 4, 1) := by decide +kernel
theorem dX12_canAsk_28 : decode cX12_canAsk 28 = .ok (.if_icmp .gt 16, 3) := by decide +kernel
theorem dX12_canAsk_31 : decode cX12_canAsk 31 = .ok (.iload_n 2, 1) := by decide +kernel
theorem dX12_canAsk_32 : decode cX12_canAsk 32 = .ok (.iconst 0, 1) := by decide +kernel
theorem dX12_canAsk_33 : decode cX12_canAsk 33 = .ok (.iconst 1, 1) := by decide +kernel
theorem dX12_canAsk_34 : decode cX12_canAsk 34 = .ok (.invokestatic 418, 3) := by decide +kernel
theorem dX12_canAsk_37 : decode cX12_canAsk 37 = .ok (.ifCond .eq 7, 3) := by decide +kernel
theorem dX12_canAsk_40 : decode cX12_canAsk 40 = .ok (.iconst 1, 1) := by decide +kernel
theorem dX12_canAsk_41 : decode cX12_canAsk 41 = .ok (.goto 4, 3) := by decide +kernel
theorem dX12_canAsk_44 : decode cX12_canAsk 44 = .ok (.iconst 0, 1) := by decide +kernel
theorem dX12_canAsk_45 : decode cX12_canAsk 45 = .ok (.ireturn, 1) := by decide +kernel
theorem dX12_partOf_0 : decode cX12_partOf 0 = .ok (.iload_n 1, 1) := by decide +kernel
theorem dX12_partOf_1 : decode cX12_partOf 1 = .ok (.iload_n 0, 1) := by decide +kernel
theorem dX12_partOf_2 : decode cX12_partOf 2 = .ok (.invokestatic 510, 3) := by decide +kernel
theorem dX12_partOf_5 : decode cX12_partOf 5 = .ok (.istore_n 3, 1) := by decide +kernel
theorem dX12_partOf_6 : decode cX12_partOf 6 = .ok (.iload_n 2, 1) := by decide +kernel
theorem dX12_partOf_7 : decode cX12_partOf 7 = .ok (.ifCond .ne 9, 3) := by decide +kernel
theorem dX12_partOf_10 : decode cX12_partOf 10 = .ok (.iload_n 0, 1) := by decide +kernel
theorem dX12_partOf_11 : decode cX12_partOf 11 = .ok (.iload_n 3, 1) := by decide +kernel
theorem dX12_partOf_12 : decode cX12_partOf 12 = .ok (.idiv, 1) := by decide +kernel
theorem dX12_partOf_13 : decode cX12_partOf 13 = .ok (.goto 6, 3) := by decide +kernel
theorem dX12_partOf_16 : decode cX12_partOf 16 = .ok (.iload_n 1, 1) := by decide +kernel
theorem dX12_partOf_17 : decode cX12_partOf 17 = .ok (.iload_n 3, 1) := by decide +kernel
theorem dX12_partOf_18 : decode cX12_partOf 18 = .ok (.idiv, 1) := by decide +kernel
theorem dX12_partOf_19 : decode cX12_partOf 19 = .ok (.ireturn, 1) := by decide +kernel
theorem dX12_odds_0 : decode cX12_odds 0 = .ok (.aload_n 0, 1) := by decide +kernel
theorem dX12_odds_1 : decode cX12_odds 1 = .ok (.iload_n 1, 1) := by decide +kernel
theorem dX12_odds_2 : decode cX12_odds 2 = .ok (.iload_n 2, 1) := by decide +kernel
theorem dX12_odds_3 : decode cX12_odds 3 = .ok (.invokevirtual 513, 3) := by decide +kernel
theorem dX12_odds_6 : decode cX12_odds 6 = .ok (.ifCond .ne 5, 3) := by decide +kernel
theorem dX12_odds_9 : decode cX12_odds 9 = .ok (.iconst (-1), 1) := by decide +kernel
theorem dX12_odds_10 : decode cX12_odds 10 = .ok (.ireturn, 1) := by decide +kernel
theorem dX12_odds_11 : decode cX12_odds 11 = .ok (.aload_n 0, 1) := by decide +kernel
theorem dX12_odds_12 : decode cX12_odds 12 = .ok (.invokevirtual 445, 3) := by decide +kernel
theorem dX12_odds_15 : decode cX12_odds 15 = .ok (.aload_n 0, 1) := by decide +kernel
theorem dX12_odds_16 : decode cX12_odds 16 = .ok (.iload_n 1, 1) := by decide +kernel
theorem dX12_odds_17 : decode cX12_odds 17 = .ok (.iload_n 1, 1) := by decide +kernel
theorem dX12_odds_18 : decode cX12_odds 18 = .ok (.invokevirtual 517, 3) := by decide +kernel
theorem dX12_odds_21 : decode cX12_odds 21 = .ok (.bipush 100, 2) := by decide +kernel
theorem dX12_odds_23 : decode cX12_odds 23 = .ok (.iload_n 1, 1) := by decide +kernel
theorem dX12_odds_24 : decode cX12_odds 24 = .ok (.invokestatic 489, 3) := by decide +kernel
theorem dX12_odds_27 : decode cX12_odds 27 = .ok (.invokestatic 520, 3) := by decide +kernel
theorem dX12_odds_30 : decode cX12_odds 30 = .ok (.iload_n 2, 1) := by decide +kernel
theorem dX12_odds_31 : decode cX12_odds 31 = .ok (.invokestatic 523, 3) := by decide +kernel
theorem dX12_odds_34 : decode cX12_odds 34 = .ok (.ireturn, 1) := by decide +kernel
theorem dX12_peril_0 : decode cX12_peril 0 = .ok (.aload_n 0, 1) := by decide +kernel
theorem dX12_peril_1 : decode cX12_peril 1 = .ok (.iload_n 1, 1) := by decide +kernel
theorem dX12_peril_2 : decode cX12_peril 2 = .ok (.iload_n 2, 1) := by decide +kernel
theorem dX12_peril_3 : decode cX12_peril 3 = .ok (.invokevirtual 513, 3) := by decide +kernel
theorem dX12_peril_6 : decode cX12_peril 6 = .ok (.ifCond .ne 5, 3) := by decide +kernel
theorem dX12_peril_9 : decode cX12_peril 9 = .ok (.iconst (-1), 1) := by decide +kernel
theorem dX12_peril_10 : decode cX12_peril 10 = .ok (.ireturn, 1) := by decide +kernel
theorem dX12_peril_11 : decode cX12_peril 11 = .ok (.aload_n 0, 1) := by decide +kernel
theorem dX12_peril_12 : decode cX12_peril 12 = .ok (.invokevirtual 498, 3) := by decide +kernel
theorem dX12_peril_15 : decode cX12_peril 15 = .ok (.istore_n 3, 1) := by decide +kernel
theorem dX12_peril_16 : decode cX12_peril 16 = .ok (.iconst 0, 1) := by decide +kernel
theorem dX12_peril_17 : decode cX12_peril 17 = .ok (.istore 4, 2) := by decide +kernel
theorem dX12_peril_19 : decode cX12_peril 19 = .ok (.iconst 0, 1) := by decide +kernel
theorem dX12_peril_20 : decode cX12_peril 20 = .ok (.istore 5, 2) := by decide +kernel
theorem dX12_peril_22 : decode cX12_peril 22 = .ok (.iload 5, 2) := by decide +kernel
theorem dX12_peril_24 : decode cX12_peril 24 = .ok (.iload_n 1, 1) := by decide +kernel
theorem dX12_peril_25 : decode cX12_peril 25 = .ok (.if_icmp .gt 45, 3) := by decide +kernel
theorem dX12_peril_28 : decode cX12_peril 28 = .ok (.iload 5, 2) := by decide +kernel
theorem dX12_peril_30 : decode cX12_peril 30 = .ok (.iload_n 1, 1) := by decide +kernel
theorem dX12_peril_31 : decode cX12_peril 31 = .ok (.iconst (-1), 1) := by decide +kernel
theorem dX12_peril_32 : decode cX12_peril 32 = .ok (.ixor, 1) := by decide +kernel
theorem dX12_peril_33 : decode cX12_peril 33 = .ok (.iand, 1) := by decide +kernel
theorem dX12_peril_34 : decode cX12_peril 34 = .ok (.ifCond .ne 30, 3) := by decide +kernel
theorem dX12_peril_37 : decode cX12_peril 37 = .ok (.aload_n 0, 1) := by decide +kernel
theorem dX12_peril_38 : decode cX12_peril 38 = .ok (.iload_n 3, 1) := by decide +kernel
theorem dX12_peril_39 : decode cX12_peril 39 = .ok (.iload_n 1, 1) := by decide +kernel
theorem dX12_peril_40 : decode cX12_peril 40 = .ok (.iload 5, 2) := by decide +kernel
theorem dX12_peril_42 : decode cX12_peril 42 = .ok (.iconst (-1), 1) := by decide +kernel
theorem dX12_peril_43 : decode cX12_peril 43 = .ok (.ixor, 1) := by decide +kernel
theorem dX12_peril_44 : decode cX12_peril 44 = .ok (.iand, 1) := by decide +kernel
theorem dX12_peril_45 : decode cX12_peril 45 = .ok (.ior, 1) := by decide +kernel
theorem dX12_peril_46 : decode cX12_peril 46 = .ok (.invokevirtual 501, 3) := by decide +kernel
theorem dX12_peril_49 : decode cX12_peril 49 = .ok (.ifCond .eq 15, 3) := by decide +kernel
theorem dX12_peril_52 : decode cX12_peril 52 = .ok (.iload 4, 2) := by decide +kernel
theorem dX12_peril_54 : decode cX12_peril 54 = .ok (.aload_n 0, 1) := by decide +kernel
theorem dX12_peril_55 : decode cX12_peril 55 = .ok (.iload_n 1, 1) := by decide +kernel
theorem dX12_peril_56 : decode cX12_peril 56 = .ok (.iload 5, 2) := by decide +kernel
theorem dX12_peril_58 : decode cX12_peril 58 = .ok (.invokevirtual 517, 3) := by decide +kernel
theorem dX12_peril_61 : decode cX12_peril 61 = .ok (.iadd, 1) := by decide +kernel
theorem dX12_peril_62 : decode cX12_peril 62 = .ok (.istore 4, 2) := by decide +kernel
theorem dX12_peril_64 : decode cX12_peril 64 = .ok (.iinc 5 1, 3) := by decide +kernel
theorem dX12_peril_67 : decode cX12_peril 67 = .ok (.goto (-45), 3) := by decide +kernel
theorem dX12_peril_70 : decode cX12_peril 70 = .ok (.iload 4, 2) := by decide +kernel
theorem dX12_peril_72 : decode cX12_peril 72 = .ok (.bipush 100, 2) := by decide +kernel
theorem dX12_peril_74 : decode cX12_peril 74 = .ok (.iload_n 1, 1) := by decide +kernel
theorem dX12_peril_75 : decode cX12_peril 75 = .ok (.invokestatic 489, 3) := by decide +kernel
theorem dX12_peril_78 : decode cX12_peril 78 = .ok (.invokestatic 520, 3) := by decide +kernel
theorem dX12_peril_81 : decode cX12_peril 81 = .ok (.iload_n 2, 1) := by decide +kernel
theorem dX12_peril_82 : decode cX12_peril 82 = .ok (.invokestatic 523, 3) := by decide +kernel
theorem dX12_peril_85 : decode cX12_peril 85 = .ok (.ireturn, 1) := by decide +kernel
theorem dX12_tarry_0 : decode cX12_tarry 0 = .ok (.iload_n 1, 1) := by decide +kernel
theorem dX12_tarry_1 : decode cX12_tarry 1 = .ok (.iconst 0, 1) := by decide +kernel
theorem dX12_tarry_2 : decode cX12_tarry 2 = .ok (.iconst 1, 1) := by decide +kernel
theorem dX12_tarry_3 : decode cX12_tarry 3 = .ok (.invokestatic 418, 3) := by decide +kernel
theorem dX12_tarry_6 : decode cX12_tarry 6 = .ok (.ifCond .ne 5, 3) := by decide +kernel
theorem dX12_tarry_9 : decode cX12_tarry 9 = .ok (.iconst (-1), 1) := by decide +kernel
theorem dX12_tarry_10 : decode cX12_tarry 10 = .ok (.ireturn, 1) := by decide +kernel
theorem dX12_tarry_11 : decode cX12_tarry 11 = .ok (.iconst 0, 1) := by decide +kernel
theorem dX12_tarry_12 : decode cX12_tarry 12 = .ok (.istore_n 2, 1) := by decide +kernel
theorem dX12_tarry_13 : decode cX12_tarry 13 = .ok (.aload_n 0, 1) := by decide +kernel
theorem dX12_tarry_14 : decode cX12_tarry 14 = .ok (.invokevirtual 473, 3) := by decide +kernel
theorem dX12_tarry_17 : decode cX12_tarry 17 = .ok (.istore_n 3, 1) := by decide +kernel
theorem dX12_tarry_18 : decode cX12_tarry 18 = .ok (.iconst 1, 1) := by decide +kernel
theorem dX12_tarry_19 : decode cX12_tarry 19 = .ok (.istore 4, 2) := by decide +kernel
theorem dX12_tarry_21 : decode cX12_tarry 21 = .ok (.iload 4, 2) := by decide +kernel
theorem dX12_tarry_23 : decode cX12_tarry 23 = .ok (.bipush 60, 2) := by decide +kernel
theorem dX12_tarry_25 : decode cX12_tarry 25 = .ok (.if_icmp .gt 51, 3) := by decide +kernel
theorem dX12_tarry_28 : decode cX12_tarry 28 = .ok (.aload_n 0, 1) := by decide +kernel
theorem dX12_tarry_29 : decode cX12_tarry 29 = .ok (.invokevirtual 445, 3) := by decide +kernel
theorem dX12_tarry_32 : decode cX12_tarry 32 = .ok (.aload_n 0, 1) := by decide +kernel
theorem dX12_tarry_33 : decode cX12_tarry 33 = .ok (.getfield 100, 3) := by decide +kernel
theorem dX12_tarry_36 : decode cX12_tarry 36 = .ok (.bipush 21, 2) := by decide +kernel
theorem dX12_tarry_38 : decode cX12_tarry 38 = .ok (.dup2, 1) := by decide +kernel
theorem dX12_tarry_39 : decode cX12_tarry 39 = .ok (.iaload, 1) := by decide +kernel
theorem dX12_tarry_40 : decode cX12_tarry 40 = .ok (.iload 4, 2) := by decide +kernel
theorem dX12_tarry_42 : decode cX12_tarry 42 = .ok (.iadd, 1) := by decide +kernel
theorem dX12_tarry_43 : decode cX12_tarry 43 = .ok (.iastore, 1) := by decide +kernel
theorem dX12_tarry_44 : decode cX12_tarry 44 = .ok (.aload_n 0, 1) := by decide +kernel
theorem dX12_tarry_45 : decode cX12_tarry 45 = .ok (.invokevirtual 433, 3) := by decide +kernel
theorem dX12_tarry_48 : decode cX12_tarry 48 = .ok (.pop, 1) := by decide +kernel
theorem dX12_tarry_49 : decode cX12_tarry 49 = .ok (.aload_n 0, 1) := by decide +kernel
theorem dX12_tarry_50 : decode cX12_tarry 50 = .ok (.invokevirtual 448, 3) := by decide +kernel
theorem dX12_tarry_53 : decode cX12_tarry 53 = .ok (.istore 5, 2) := by decide +kernel
theorem dX12_tarry_55 : decode cX12_tarry 55 = .ok (.iload 5, 2) := by decide +kernel
theorem dX12_tarry_57 : decode cX12_tarry 57 = .ok (.iload_n 3, 1) := by decide +kernel
theorem dX12_tarry_58 : decode cX12_tarry 58 = .ok (.if_icmp .lt 6, 3) := by decide +kernel
theorem dX12_tarry_61 : decode cX12_tarry 61 = .ok (.goto 9, 3) := by decide +kernel
theorem dX12_tarry_64 : decode cX12_tarry 64 = .ok (.iload 5, 2) := by decide +kernel
theorem dX12_tarry_66 : decode cX12_tarry 66 = .ok (.istore_n 3, 1) := by decide +kernel
theorem dX12_tarry_67 : decode cX12_tarry 67 = .ok (.iload 4, 2) := by decide +kernel
theorem dX12_tarry_69 : decode cX12_tarry 69 = .ok (.istore_n 2, 1) := by decide +kernel
theorem dX12_tarry_70 : decode cX12_tarry 70 = .ok (.iinc 4 1, 3) := by decide +kernel
theorem dX12_tarry_73 : decode cX12_tarry 73 = .ok (.goto (-52), 3) := by decide +kernel
theorem dX12_tarry_76 : decode cX12_tarry 76 = .ok (.iload_n 1, 1) := by decide +kernel
theorem dX12_tarry_77 : decode cX12_tarry 77 = .ok (.ifCond .ne 7, 3) := by decide +kernel
theorem dX12_tarry_80 : decode cX12_tarry 80 = .ok (.iload_n 2, 1) := by decide +kernel
theorem dX12_tarry_81 : decode cX12_tarry 81 = .ok (.goto 4, 3) := by decide +kernel
theorem dX12_tarry_84 : decode cX12_tarry 84 = .ok (.iload_n 3, 1) := by decide +kernel
theorem dX12_tarry_85 : decode cX12_tarry 85 = .ok (.ireturn, 1) := by decide +kernel
theorem dX12_swap_0 : decode cX12_swap 0 = .ok (.iload_n 1, 1) := by decide +kernel
theorem dX12_swap_1 : decode cX12_swap 1 = .ok (.iconst 0, 1) := by decide +kernel
theorem dX12_swap_2 : decode cX12_swap 2 = .ok (.iconst 2, 1) := by decide +kernel
theorem dX12_swap_3 : decode cX12_swap 3 = .ok (.invokestatic 418, 3) := by decide +kernel
theorem dX12_swap_6 : decode cX12_swap 6 = .ok (.ifCond .ne 5, 3) := by decide +kernel
theorem dX12_swap_9 : decode cX12_swap 9 = .ok (.iconst (-1), 1) := by decide +kernel
theorem dX12_swap_10 : decode cX12_swap 10 = .ok (.ireturn, 1) := by decide +kernel
theorem dX12_swap_11 : decode cX12_swap 11 = .ok (.aload_n 0, 1) := by decide +kernel
theorem dX12_swap_12 : decode cX12_swap 12 = .ok (.invokevirtual 473, 3) := by decide +kernel
theorem dX12_swap_15 : decode cX12_swap 15 = .ok (.istore_n 2, 1) := by decide +kernel
theorem dX12_swap_16 : decode cX12_swap 16 = .ok (.iconst (-1), 1) := by decide +kernel
theorem dX12_swap_17 : decode cX12_swap 17 = .ok (.istore_n 3, 1) := by decide +kernel
theorem dX12_swap_18 : decode cX12_swap 18 = .ok (.iconst 0, 1) := by decide +kernel
theorem dX12_swap_19 : decode cX12_swap 19 = .ok (.istore 4, 2) := by decide +kernel
theorem dX12_swap_21 : decode cX12_swap 21 = .ok (.iload 4, 2) := by decide +kernel
theorem dX12_swap_23 : decode cX12_swap 23 = .ok (.aload_n 0, 1) := by decide +kernel
theorem dX12_swap_24 : decode cX12_swap 24 = .ok (.getfield 323, 3) := by decide +kernel
theorem dX12_swap_27 : decode cX12_swap 27 = .ok (.if_icmp .ge 92, 3) := by decide +kernel
theorem dX12_swap_30 : decode cX12_swap 30 = .ok (.iload 4, 2) := by decide +kernel
theorem dX12_swap_32 : decode cX12_swap 32 = .ok (.iconst 1, 1) := by decide +kernel
theorem dX12_swap_33 : decode cX12_swap 33 = .ok (.iadd, 1) := by decide +kernel
theorem dX12_swap_34 : decode cX12_swap 34 = .ok (.istore 5, 2) := by decide +kernel
theorem dX12_swap_36 : decode cX12_swap 36 = .ok (.iload 5, 2) := by decide +kernel
theorem dX12_swap_38 : decode cX12_swap 38 = .ok (.aload_n 0, 1) := by decide +kernel
theorem dX12_swap_39 : decode cX12_swap 39 = .ok (.getfield 323, 3) := by decide +kernel
theorem dX12_swap_42 : decode cX12_swap 42 = .ok (.if_icmp .ge 71, 3) := by decide +kernel
theorem dX12_swap_45 : decode cX12_swap 45 = .ok (.aload_n 0, 1) := by decide +kernel
theorem dX12_swap_46 : decode cX12_swap 46 = .ok (.getfield 97, 3) := by decide +kernel
theorem dX12_swap_49 : decode cX12_swap 49 = .ok (.iload 4, 2) := by decide +kernel
theorem dX12_swap_51 : decode cX12_swap 51 = .ok (.iaload, 1) := by decide +kernel
theorem dX12_swap_52 : decode cX12_swap 52 = .ok (.ifCond .ne 55, 3) := by decide +kernel
theorem dX12_swap_55 : decode cX12_swap 55 = .ok (.aload_n 0, 1) := by decide +kernel
theorem dX12_swap_56 : decode cX12_swap 56 = .ok (.getfield 97, 3) := by decide +kernel
theorem dX12_swap_59 : decode cX12_swap 59 = .ok (.iload 5, 2) := by decide +kernel
theorem dX12_swap_61 : decode cX12_swap 61 = .ok (.iaload, 1) := by decide +kernel
theorem dX12_swap_62 : decode cX12_swap 62 = .ok (.ifCond .eq 6, 3) := by decide +kernel
theorem dX12_swap_65 : decode cX12_swap 65 = .ok (.goto 42, 3) := by decide +kernel
theorem dX12_swap_68 : decode cX12_swap 68 = .ok (.aload_n 0, 1) := by decide +kernel
theorem dX12_swap_69 : decode cX12_swap 69 = .ok (.invokevirtual 445, 3) := by decide +kernel
theorem dX12_swap_72 : decode cX12_swap 72 = .ok (.aload_n 0, 1) := by decide +kernel
theorem dX12_swap_73 : decode cX12_swap 73 = .ok (.iload 4, 2) := by decide +kernel
theorem dX12_swap_75 : decode cX12_swap 75 = .ok (.iload 5, 2) := by decide +kernel
theorem dX12_swap_77 : decode cX12_swap 77 = .ok (.invokevirtual 464, 3) := by decide +kernel
theorem dX12_swap_80 : decode cX12_swap 80 = .ok (.aload_n 0, 1) := by decide +kernel
theorem dX12_swap_81 : decode cX12_swap 81 = .ok (.invokevirtual 448, 3) := by decide +kernel
theorem dX12_swap_84 : decode cX12_swap 84 = .ok (.istore 6, 2) := by decide +kernel
theorem dX12_swap_86 : decode cX12_swap 86 = .ok (.iload 6, 2) := by decide +kernel
theorem dX12_swap_88 : decode cX12_swap 88 = .ok (.iload_n 2, 1) := by decide +kernel
theorem dX12_swap_89 : decode cX12_swap 89 = .ok (.if_icmp .lt 6, 3) := by decide +kernel
theorem dX12_swap_92 : decode cX12_swap 92 = .ok (.goto 15, 3) := by decide +kernel
theorem dX12_swap_95 : decode cX12_swap 95 = .ok (.iload 6, 2) := by decide +kernel
theorem dX12_swap_97 : decode cX12_swap 97 = .ok (.istore_n 2, 1) := by decide +kernel
theorem dX12_swap_98 : decode cX12_swap 98 = .ok (.bipush 7, 2) := by decide +kernel
theorem dX12_swap_100 : decode cX12_swap 100 = .ok (.iload 4, 2) := by decide +kernel
theorem dX12_swap_102 : decode cX12_swap 102 = .ok (.imul, 1) := by decide +kernel
theorem dX12_swap_103 : decode cX12_swap 103 = .ok (.iload 5, 2) := by decide +kernel
theorem dX12_swap_105 : decode cX12_swap 105 = .ok (.iadd, 1) := by decide +kernel
theorem dX12_swap_106 : decode cX12_swap 106 = .ok (.istore_n 3, 1) := by decide +kernel
theorem dX12_swap_107 : decode cX12_swap 107 = .ok (.iinc 5 1, 3) := by decide +kernel
theorem dX12_swap_110 : decode cX12_swap 110 = .ok (.goto (-74), 3) := by decide +kernel
theorem dX12_swap_113 : decode cX12_swap 113 = .ok (.iinc 4 1, 3) := by decide +kernel
theorem dX12_swap_116 : decode cX12_swap 116 = .ok (.goto (-95), 3) := by decide +kernel
theorem dX12_swap_119 : decode cX12_swap 119 = .ok (.iload_n 3, 1) := by decide +kernel
theorem dX12_swap_120 : decode cX12_swap 120 = .ok (.ifCond .ge 7, 3) := by decide +kernel
theorem dX12_swap_123 : decode cX12_swap 123 = .ok (.iconst (-1), 1) := by decide +kernel
theorem dX12_swap_124 : decode cX12_swap 124 = .ok (.goto 27, 3) := by decide +kernel
theorem dX12_swap_127 : decode cX12_swap 127 = .ok (.iload_n 1, 1) := by decide +kernel
theorem dX12_swap_128 : decode cX12_swap 128 = .ok (.ifCond .ne 10, 3) := by decide +kernel
theorem dX12_swap_131 : decode cX12_swap 131 = .ok (.iload_n 3, 1) := by decide +kernel
theorem dX12_swap_132 : decode cX12_swap 132 = .ok (.bipush 7, 2) := by decide +kernel
theorem dX12_swap_134 : decode cX12_swap 134 = .ok (.idiv, 1) := by decide +kernel
theorem dX12_swap_135 : decode cX12_swap 135 = .ok (.goto 16, 3) := by decide +kernel
theorem dX12_swap_138 : decode cX12_swap 138 = .ok (.iload_n 1, 1) := by decide +kernel
theorem dX12_swap_139 : decode cX12_swap 139 = .ok (.iconst 1, 1) := by decide +kernel
theorem dX12_swap_140 : decode cX12_swap 140 = .ok (.if_icmp .ne 10, 3) := by decide +kernel
theorem dX12_swap_143 : decode cX12_swap 143 = .ok (.iload_n 3, 1) := by decide +kernel
theorem dX12_swap_144 : decode cX12_swap 144 = .ok (.bipush 7, 2) := by decide +kernel
theorem dX12_swap_146 : decode cX12_swap 146 = .ok (.irem, 1) := by decide +kernel
theorem dX12_swap_147 : decode cX12_swap 147 = .ok (.goto 4, 3) := by decide +kernel
theorem dX12_swap_150 : decode cX12_swap 150 = .ok (.iload_n 2, 1) := by decide +kernel
theorem dX12_swap_151 : decode cX12_swap 151 = .ok (.ireturn, 1) := by decide +kernel
theorem dX12_by_0 : decode cX12_by 0 = .ok (.iload_n 1, 1) := by decide +kernel
theorem dX12_by_1 : decode cX12_by 1 = .ok (.iconst 0, 1) := by decide +kernel
theorem dX12_by_2 : decode cX12_by 2 = .ok (.sipush 9999, 3) := by decide +kernel
theorem dX12_by_5 : decode cX12_by 5 = .ok (.invokestatic 418, 3) := by decide +kernel
theorem dX12_by_8 : decode cX12_by 8 = .ok (.ifCond .ne 5, 3) := by decide +kernel
theorem dX12_by_11 : decode cX12_by 11 = .ok (.iconst (-1), 1) := by decide +kernel
theorem dX12_by_12 : decode cX12_by 12 = .ok (.ireturn, 1) := by decide +kernel
theorem dX12_by_13 : decode cX12_by 13 = .ok (.aload_n 0, 1) := by decide +kernel
theorem dX12_by_14 : decode cX12_by 14 = .ok (.invokevirtual 473, 3) := by decide +kernel
theorem dX12_by_17 : decode cX12_by 17 = .ok (.pop, 1) := by decide +kernel
theorem dX12_by_18 : decode cX12_by 18 = .ok (.iconst 0, 1) := by decide +kernel
theorem dX12_by_19 : decode cX12_by 19 = .ok (.istore_n 2, 1) := by decide +kernel
theorem dX12_by_20 : decode cX12_by 20 = .ok (.iconst 0, 1) := by decide +kernel
theorem dX12_by_21 : decode cX12_by 21 = .ok (.istore_n 3, 1) := by decide +kernel
theorem dX12_by_22 : decode cX12_by 22 = .ok (.iload_n 3, 1) := by decide +kernel
theorem dX12_by_23 : decode cX12_by 23 = .ok (.aload_n 0, 1) := by decide +kernel
theorem dX12_by_24 : decode cX12_by 24 = .ok (.getfield 436, 3) := by decide +kernel
theorem dX12_by_27 : decode cX12_by 27 = .ok (.if_icmp .ge 30, 3) := by decide +kernel
theorem dX12_by_30 : decode cX12_by 30 = .ok (.iload_n 2, 1) := by decide +kernel
theorem dX12_by_31 : decode cX12_by 31 = .ok (.aload_n 0, 1) := by decide +kernel
theorem dX12_by_32 : decode cX12_by 32 = .ok (.getfield 106, 3) := by decide +kernel
theorem dX12_by_35 : decode cX12_by 35 = .ok (.iload_n 3, 1) := by decide +kernel
theorem dX12_by_36 : decode cX12_by 36 = .ok (.iaload, 1) := by decide +kernel
theorem dX12_by_37 : decode cX12_by 37 = .ok (.iload_n 1, 1) := by decide +kernel
theorem dX12_by_38 : decode cX12_by 38 = .ok (.if_icmp .gt 7, 3) := by decide +kernel
theorem dX12_by_41 : decode cX12_by 41 = .ok (.iconst 1, 1) := by decide +kernel
theorem dX12_by_42 : decode cX12_by 42 = .ok (.goto 4, 3) := by decide +kernel
theorem dX12_by_45 : decode cX12_by 45 = .ok (.iconst 0, 1) := by decide +kernel
theorem dX12_by_46 : decode cX12_by 46 = .ok (.invokestatic 319, 3) := by decide +kernel
theorem dX12_by_49 : decode cX12_by 49 = .ok (.iadd, 1) := by decide +kernel
theorem dX12_by_50 : decode cX12_by 50 = .ok (.istore_n 2, 1) := by decide +kernel
theorem dX12_by_51 : decode cX12_by 51 = .ok (.iinc 3 1, 3) := by decide +kernel
theorem dX12_by_54 : decode cX12_by 54 = .ok (.goto (-32), 3) := by decide +kernel
theorem dX12_by_57 : decode cX12_by 57 = .ok (.iload_n 2, 1) := by decide +kernel
theorem dX12_by_58 : decode cX12_by 58 = .ok (.ireturn, 1) := by decide +kernel
theorem dX12_upset_0 : decode cX12_upset 0 = .ok (.aload_n 0, 1) := by decide +kernel
theorem dX12_upset_1 : decode cX12_upset 1 = .ok (.invokevirtual 473, 3) := by decide +kernel
theorem dX12_upset_4 : decode cX12_upset 4 = .ok (.pop, 1) := by decide +kernel
theorem dX12_upset_5 : decode cX12_upset 5 = .ok (.iconst 0, 1) := by decide +kernel
theorem dX12_upset_6 : decode cX12_upset 6 = .ok (.istore_n 1, 1) := by decide +kernel
theorem dX12_upset_7 : decode cX12_upset 7 = .ok (.iconst 1, 1) := by decide +kernel
theorem dX12_upset_8 : decode cX12_upset 8 = .ok (.istore_n 2, 1) := by decide +kernel
theorem dX12_upset_9 : decode cX12_upset 9 = .ok (.iload_n 2, 1) := by decide +kernel
theorem dX12_upset_10 : decode cX12_upset 10 = .ok (.aload_n 0, 1) := by decide +kernel
theorem dX12_upset_11 : decode cX12_upset 11 = .ok (.getfield 436, 3) := by decide +kernel
theorem dX12_upset_14 : decode cX12_upset 14 = .ok (.if_icmp .ge 47, 3) := by decide +kernel
theorem dX12_upset_17 : decode cX12_upset 17 = .ok (.iload_n 1, 1) := by decide +kernel
theorem dX12_upset_18 : decode cX12_upset 18 = .ok (.aload_n 0, 1) := by decide +kernel
theorem dX12_upset_19 : decode cX12_upset 19 = .ok (.getfield 73, 3) := by decide +kernel
theorem dX12_upset_22 : decode cX12_upset 22 = .ok (.aload_n 0, 1) := by decide +kernel
theorem dX12_upset_23 : decode cX12_upset 23 = .ok (.getfield 103, 3) := by decide +kernel
theorem dX12_upset_26 : decode cX12_upset 26 = .ok (.iload_n 2, 1) := by decide +kernel
theorem dX12_upset_27 : decode cX12_upset 27 = .ok (.iconst 1, 1) := by decide +kernel
theorem dX12_upset_28 : decode cX12_upset 28 = .ok (.isub, 1) := by decide +kernel
theorem dX12_upset_29 : decode cX12_upset 29 = .ok (.iaload, 1) := by decide +kernel
theorem dX12_upset_30 : decode cX12_upset 30 = .ok (.iaload, 1) := by decide +kernel
theorem dX12_upset_31 : decode cX12_upset 31 = .ok (.aload_n 0, 1) := by decide +kernel
theorem dX12_upset_32 : decode cX12_upset 32 = .ok (.getfield 73, 3) := by decide +kernel
theorem dX12_upset_35 : decode cX12_upset 35 = .ok (.aload_n 0, 1) := by decide +kernel
theorem dX12_upset_36 : decode cX12_upset 36 = .ok (.getfield 103, 3) := by decide +kernel
theorem dX12_upset_39 : decode cX12_upset 39 = .ok (.iload_n 2, 1) := by decide +kernel
theorem dX12_upset_40 : decode cX12_upset 40 = .ok (.iaload, 1) := by decide +kernel
theorem dX12_upset_41 : decode cX12_upset 41 = .ok (.iaload, 1) := by decide +kernel
theorem dX12_upset_42 : decode cX12_upset 42 = .ok (.if_icmp .ge 7, 3) := by decide +kernel
theorem dX12_upset_45 : decode cX12_upset 45 = .ok (.iconst 1, 1) := by decide +kernel
theorem dX12_upset_46 : decode cX12_upset 46 = .ok (.goto 4, 3) := by decide +kernel
theorem dX12_upset_49 : decode cX12_upset 49 = .ok (.iconst 0, 1) := by decide +kernel
theorem dX12_upset_50 : decode cX12_upset 50 = .ok (.invokestatic 319, 3) := by decide +kernel
theorem dX12_upset_53 : decode cX12_upset 53 = .ok (.iadd, 1) := by decide +kernel
theorem dX12_upset_54 : decode cX12_upset 54 = .ok (.istore_n 1, 1) := by decide +kernel
theorem dX12_upset_55 : decode cX12_upset 55 = .ok (.iinc 2 1, 3) := by decide +kernel
theorem dX12_upset_58 : decode cX12_upset 58 = .ok (.goto (-49), 3) := by decide +kernel
theorem dX12_upset_61 : decode cX12_upset 61 = .ok (.iload_n 1, 1) := by decide +kernel
theorem dX12_upset_62 : decode cX12_upset 62 = .ok (.ireturn, 1) := by decide +kernel
theorem dX12_lies_0 : decode cX12_lies 0 = .ok (.iload_n 1, 1) := by decide +kernel
theorem dX12_lies_1 : decode cX12_lies 1 = .ok (.iconst 0, 1) := by decide +kernel
theorem dX12_lies_2 : decode cX12_lies 2 = .ok (.aload_n 0, 1) := by decide +kernel
theorem dX12_lies_3 : decode cX12_lies 3 = .ok (.getfield 415, 3) := by decide +kernel
theorem dX12_lies_6 : decode cX12_lies 6 = .ok (.iconst 1, 1) := by decide +kernel
theorem dX12_lies_7 : decode cX12_lies 7 = .ok (.isub, 1) := by decide +kernel
theorem dX12_lies_8 : decode cX12_lies 8 = .ok (.invokestatic 418, 3) := by decide +kernel
theorem dX12_lies_11 : decode cX12_lies 11 = .ok (.ifCond .eq 12, 3) := by decide +kernel
theorem dX12_lies_14 : decode cX12_lies 14 = .ok (.aload_n 0, 1) := by decide +kernel
theorem dX12_lies_15 : decode cX12_lies 15 = .ok (.getfield 112, 3) := by decide +kernel
theorem dX12_lies_18 : decode cX12_lies 18 = .ok (.iload_n 1, 1) := by decide +kernel
theorem dX12_lies_19 : decode cX12_lies 19 = .ok (.iaload, 1) := by decide +kernel
theorem dX12_lies_20 : decode cX12_lies 20 = .ok (.goto 4, 3) := by decide +kernel
theorem dX12_lies_23 : decode cX12_lies 23 = .ok (.iconst (-1), 1) := by decide +kernel
theorem dX12_lies_24 : decode cX12_lies 24 = .ok (.ireturn, 1) := by decide +kernel
theorem dX12_seen_0 : decode cX12_seen 0 = .ok (.iload_n 1, 1) := by decide +kernel
theorem dX12_seen_1 : decode cX12_seen 1 = .ok (.iconst 1, 1) := by decide +kernel
theorem dX12_seen_2 : decode cX12_seen 2 = .ok (.bipush 7, 2) := by decide +kernel
theorem dX12_seen_4 : decode cX12_seen 4 = .ok (.invokestatic 418, 3) := by decide +kernel
theorem dX12_seen_7 : decode cX12_seen 7 = .ok (.ifCond .eq 20, 3) := by decide +kernel
theorem dX12_seen_10 : decode cX12_seen 10 = .ok (.aload_n 0, 1) := by decide +kernel
theorem dX12_seen_11 : decode cX12_seen 11 = .ok (.iload_n 2, 1) := by decide +kernel
theorem dX12_seen_12 : decode cX12_seen 12 = .ok (.invokevirtual 451, 3) := by decide +kernel
theorem dX12_seen_15 : decode cX12_seen 15 = .ok (.ifCond .eq 12, 3) := by decide +kernel
theorem dX12_seen_18 : decode cX12_seen 18 = .ok (.aload_n 0, 1) := by decide +kernel
theorem dX12_seen_19 : decode cX12_seen 19 = .ok (.getfield 412, 3) := by decide +kernel
theorem dX12_seen_22 : decode cX12_seen 22 = .ok (.bipush 30, 2) := by decide +kernel
theorem dX12_seen_24 : decode cX12_seen 24 = .ok (.if_icmp .ne 5, 3) := by decide +kernel
theorem dX12_seen_27 : decode cX12_seen 27 = .ok (.iconst (-1), 1) := by decide +kernel
theorem dX12_seen_28 : decode cX12_seen 28 = .ok (.ireturn, 1) := by decide +kernel
theorem dX12_seen_29 : decode cX12_seen 29 = .ok (.aload_n 0, 1) := by decide +kernel
theorem dX12_seen_30 : decode cX12_seen 30 = .ok (.getfield 121, 3) := by decide +kernel
theorem dX12_seen_33 : decode cX12_seen 33 = .ok (.aload_n 0, 1) := by decide +kernel
theorem dX12_seen_34 : decode cX12_seen 34 = .ok (.getfield 412, 3) := by decide +kernel
theorem dX12_seen_37 : decode cX12_seen 37 = .ok (.iload_n 1, 1) := by decide +kernel
theorem dX12_seen_38 : decode cX12_seen 38 = .ok (.iastore, 1) := by decide +kernel
theorem dX12_seen_39 : decode cX12_seen 39 = .ok (.aload_n 0, 1) := by decide +kernel
theorem dX12_seen_40 : decode cX12_seen 40 = .ok (.getfield 124, 3) := by decide +kernel
theorem dX12_seen_43 : decode cX12_seen 43 = .ok (.aload_n 0, 1) := by decide +kernel
theorem dX12_seen_44 : decode cX12_seen 44 = .ok (.getfield 412, 3) := by decide +kernel
theorem dX12_seen_47 : decode cX12_seen 47 = .ok (.iload_n 2, 1) := by decide +kernel
theorem dX12_seen_48 : decode cX12_seen 48 = .ok (.iastore, 1) := by decide +kernel
theorem dX12_seen_49 : decode cX12_seen 49 = .ok (.aload_n 0, 1) := by decide +kernel
theorem dX12_seen_50 : decode cX12_seen 50 = .ok (.getfield 133, 3) := by decide +kernel
theorem dX12_seen_53 : decode cX12_seen 53 = .ok (.aload_n 0, 1) := by decide +kernel
theorem dX12_seen_54 : decode cX12_seen 54 = .ok (.getfield 412, 3) := by decide +kernel
theorem dX12_seen_57 : decode cX12_seen 57 = .ok (.iload_n 3, 1) := by decide +kernel
theorem dX12_seen_58 : decode cX12_seen 58 = .ok (.bastore, 1) := by decide +kernel
theorem dX12_seen_59 : decode cX12_seen 59 = .ok (.aload_n 0, 1) := by decide +kernel
theorem dX12_seen_60 : decode cX12_seen 60 = .ok (.getfield 127, 3) := by decide +kernel
theorem dX12_seen_63 : decode cX12_seen 63 = .ok (.aload_n 0, 1) := by decide +kernel
theorem dX12_seen_64 : decode cX12_seen 64 = .ok (.getfield 412, 3) := by decide +kernel
theorem dX12_seen_67 : decode cX12_seen 67 = .ok (.aload_n 0, 1) := by decide +kernel
theorem dX12_seen_68 : decode cX12_seen 68 = .ok (.getfield 526, 3) := by decide +kernel
theorem dX12_seen_71 : decode cX12_seen 71 = .ok (.iastore, 1) := by decide +kernel
theorem dX12_seen_72 : decode cX12_seen 72 = .ok (.aload_n 0, 1) := by decide +kernel
theorem dX12_seen_73 : decode cX12_seen 73 = .ok (.getfield 130, 3) := by decide +kernel
theorem dX12_seen_76 : decode cX12_seen 76 = .ok (.aload_n 0, 1) := by decide +kernel
theorem dX12_seen_77 : decode cX12_seen 77 = .ok (.getfield 412, 3) := by decide +kernel
theorem dX12_seen_80 : decode cX12_seen 80 = .ok (.iconst (-1), 1) := by decide +kernel
theorem dX12_seen_81 : decode cX12_seen 81 = .ok (.iastore, 1) := by decide +kernel
theorem dX12_seen_82 : decode cX12_seen 82 = .ok (.aload_n 0, 1) := by decide +kernel
theorem dX12_seen_83 : decode cX12_seen 83 = .ok (.dup, 1) := by decide +kernel
theorem dX12_seen_84 : decode cX12_seen 84 = .ok (.getfield 412, 3) := by decide +kernel
theorem dX12_seen_87 : decode cX12_seen 87 = .ok (.iconst 1, 1) := by decide +kernel
theorem dX12_seen_88 : decode cX12_seen 88 = .ok (.iadd, 1) := by decide +kernel
theorem dX12_seen_89 : decode cX12_seen 89 = .ok (.putfield 412, 3) := by decide +kernel
theorem dX12_seen_92 : decode cX12_seen 92 = .ok (.aload_n 0, 1) := by decide +kernel
theorem dX12_seen_93 : decode cX12_seen 93 = .ok (.getfield 412, 3) := by decide +kernel
theorem dX12_seen_96 : decode cX12_seen 96 = .ok (.iconst 1, 1) := by decide +kernel
theorem dX12_seen_97 : decode cX12_seen 97 = .ok (.isub, 1) := by decide +kernel
theorem dX12_seen_98 : decode cX12_seen 98 = .ok (.ireturn, 1) := by decide +kernel
theorem dX12_untell_0 : decode cX12_untell 0 = .ok (.iload_n 1, 1) := by decide +kernel
theorem dX12_untell_1 : decode cX12_untell 1 = .ok (.iconst 0, 1) := by decide +kernel
theorem dX12_untell_2 : decode cX12_untell 2 = .ok (.aload_n 0, 1) := by decide +kernel
theorem dX12_untell_3 : decode cX12_untell 3 = .ok (.getfield 412, 3) := by decide +kernel
theorem dX12_untell_6 : decode cX12_untell 6 = .ok (.iconst 1, 1) := by decide +kernel
theorem dX12_untell_7 : decode cX12_untell 7 = .ok (.isub, 1) := by decide +kernel
theorem dX12_untell_8 : decode cX12_untell 8 = .ok (.invokestatic 418, 3) := by decide +kernel
theorem dX12_untell_11 : decode cX12_untell 11 = .ok (.ifCond .eq 12, 3) := by decide +kernel
theorem dX12_untell_14 : decode cX12_untell 14 = .ok (.aload_n 0, 1) := by decide +kernel
theorem dX12_untell_15 : decode cX12_untell 15 = .ok (.getfield 130, 3) := by decide +kernel
theorem dX12_untell_18 : decode cX12_untell 18 = .ok (.iload_n 1, 1) := by decide +kernel
theorem dX12_untell_19 : decode cX12_untell 19 = .ok (.iaload, 1) := by decide +kernel
theorem dX12_untell_20 : decode cX12_untell 20 = .ok (.ifCond .lt 5, 3) := by decide +kernel
theorem dX12_untell_23 : decode cX12_untell 23 = .ok (.iconst 0, 1) := by decide +kernel
theorem dX12_untell_24 : decode cX12_untell 24 = .ok (.ireturn, 1) := by decide +kernel
theorem dX12_untell_25 : decode cX12_untell 25 = .ok (.aload_n 0, 1) := by decide +kernel
theorem dX12_untell_26 : decode cX12_untell 26 = .ok (.getfield 130, 3) := by decide +kernel
theorem dX12_untell_29 : decode cX12_untell 29 = .ok (.iload_n 1, 1) := by decide +kernel
theorem dX12_untell_30 : decode cX12_untell 30 = .ok (.aload_n 0, 1) := by decide +kernel
theorem dX12_untell_31 : decode cX12_untell 31 = .ok (.getfield 526, 3) := by decide +kernel
theorem dX12_untell_34 : decode cX12_untell 34 = .ok (.iastore, 1) := by decide +kernel
theorem dX12_untell_35 : decode cX12_untell 35 = .ok (.iconst 1, 1) := by decide +kernel
theorem dX12_untell_36 : decode cX12_untell 36 = .ok (.ireturn, 1) := by decide +kernel
theorem dX12_later_0 : decode cX12_later 0 = .ok (.iload_n 1, 1) := by decide +kernel
theorem dX12_later_1 : decode cX12_later 1 = .ok (.ifCond .lt 22, 3) := by decide +kernel
theorem dX12_later_4 : decode cX12_later 4 = .ok (.iload_n 1, 1) := by decide +kernel
theorem dX12_later_5 : decode cX12_later 5 = .ok (.sipush 1000, 3) := by decide +kernel
theorem dX12_later_8 : decode cX12_later 8 = .ok (.if_icmp .gt 15, 3) := by decide +kernel
theorem dX12_later_11 : decode cX12_later 11 = .ok (.aload_n 0, 1) := by decide +kernel
theorem dX12_later_12 : decode cX12_later 12 = .ok (.getfield 526, 3) := by decide +kernel
theorem dX12_later_15 : decode cX12_later 15 = .ok (.iload_n 1, 1) := by decide +kernel
theorem dX12_later_16 : decode cX12_later 16 = .ok (.iadd, 1) := by decide +kernel
theorem dX12_later_17 : decode cX12_later 17 = .ok (.ldc_w 529, 3) := by decide +kernel
theorem dX12_later_20 : decode cX12_later 20 = .ok (.if_icmp .le 5, 3) := by decide +kernel
theorem dX12_later_23 : decode cX12_later 23 = .ok (.iconst (-1), 1) := by decide +kernel
theorem dX12_later_24 : decode cX12_later 24 = .ok (.ireturn, 1) := by decide +kernel
theorem dX12_later_25 : decode cX12_later 25 = .ok (.aload_n 0, 1) := by decide +kernel
theorem dX12_later_26 : decode cX12_later 26 = .ok (.dup, 1) := by decide +kernel
theorem dX12_later_27 : decode cX12_later 27 = .ok (.getfield 526, 3) := by decide +kernel
theorem dX12_later_30 : decode cX12_later 30 = .ok (.iload_n 1, 1) := by decide +kernel
theorem dX12_later_31 : decode cX12_later 31 = .ok (.iadd, 1) := by decide +kernel
theorem dX12_later_32 : decode cX12_later 32 = .ok (.putfield 526, 3) := by decide +kernel
theorem dX12_later_35 : decode cX12_later 35 = .ok (.aload_n 0, 1) := by decide +kernel
theorem dX12_later_36 : decode cX12_later 36 = .ok (.getfield 526, 3) := by decide +kernel
theorem dX12_later_39 : decode cX12_later 39 = .ok (.ireturn, 1) := by decide +kernel
theorem dX12_fitsGrave_0 : decode cX12_fitsGrave 0 = .ok (.iconst 1, 1) := by decide +kernel
theorem dX12_fitsGrave_1 : decode cX12_fitsGrave 1 = .ok (.istore_n 3, 1) := by decide +kernel
theorem dX12_fitsGrave_2 : decode cX12_fitsGrave 2 = .ok (.iconst 0, 1) := by decide +kernel
theorem dX12_fitsGrave_3 : decode cX12_fitsGrave 3 = .ok (.istore 4, 2) := by decide +kernel
theorem dX12_fitsGrave_5 : decode cX12_fitsGrave 5 = .ok (.iload 4, 2) := by decide +kernel
theorem dX12_fitsGrave_7 : decode cX12_fitsGrave 7 = .ok (.aload_n 0, 1) := by decide +kernel
theorem dX12_fitsGrave_8 : decode cX12_fitsGrave 8 = .ok (.getfield 412, 3) := by decide +kernel
theorem dX12_fitsGrave_11 : decode cX12_fitsGrave 11 = .ok (.if_icmp .ge 98, 3) := by decide +kernel
theorem dX12_fitsGrave_14 : decode cX12_fitsGrave 14 = .ok (.iload_n 3, 1) := by decide +kernel
theorem dX12_fitsGrave_15 : decode cX12_fitsGrave 15 = .ok (.ifCond .eq 94, 3) := by decide +kernel
theorem dX12_fitsGrave_18 : decode cX12_fitsGrave 18 = .ok (.aload_n 0, 1) := by decide +kernel
theorem dX12_fitsGrave_19 : decode cX12_fitsGrave 19 = .ok (.getfield 127, 3) := by decide +kernel
theorem dX12_fitsGrave_22 : decode cX12_fitsGrave 22 = .ok (.iload 4, 2) := by decide +kernel
theorem dX12_fitsGrave_24 : decode cX12_fitsGrave 24 = .ok (.iaload, 1) := by decide +kernel
theorem dX12_fitsGrave_25 : decode cX12_fitsGrave 25 = .ok (.iload_n 2, 1) := by decide +kernel
theorem dX12_fitsGrave_26 : decode cX12_fitsGrave 26 = .ok (.if_icmp .gt 77, 3) := by decide +kernel
theorem dX12_fitsGrave_29 : decode cX12_fitsGrave 29 = .ok (.aload_n 0, 1) := by decide +kernel
theorem dX12_fitsGrave_30 : decode cX12_fitsGrave 30 = .ok (.getfield 130, 3) := by decide +kernel
theorem dX12_fitsGrave_33 : decode cX12_fitsGrave 33 = .ok (.iload 4, 2) := by decide +kernel
theorem dX12_fitsGrave_35 : decode cX12_fitsGrave 35 = .ok (.iaload, 1) := by decide +kernel
theorem dX12_fitsGrave_36 : decode cX12_fitsGrave 36 = .ok (.ifCond .lt 17, 3) := by decide +kernel
theorem dX12_fitsGrave_39 : decode cX12_fitsGrave 39 = .ok (.aload_n 0, 1) := by decide +kernel
theorem dX12_fitsGrave_40 : decode cX12_fitsGrave 40 = .ok (.getfield 130, 3) := by decide +kernel
theorem dX12_fitsGrave_43 : decode cX12_fitsGrave 43 = .ok (.iload 4, 2) := by decide +kernel
theorem dX12_fitsGrave_45 : decode cX12_fitsGrave 45 = .ok (.iaload, 1) := by decide +kernel
theorem dX12_fitsGrave_46 : decode cX12_fitsGrave 46 = .ok (.iload_n 2, 1) := by decide +kernel
theorem dX12_fitsGrave_47 : decode cX12_fitsGrave 47 = .ok (.if_icmp .gt 6, 3) := by decide +kernel
theorem dX12_fitsGrave_50 : decode cX12_fitsGrave 50 = .ok (.goto 53, 3) := by decide +kernel
theorem dX12_fitsGrave_53 : decode cX12_fitsGrave 53 = .ok (.aload_n 0, 1) := by decide +kernel
theorem dX12_fitsGrave_54 : decode cX12_fitsGrave 54 = .ok (.getfield 136, 3) := by decide +kernel
theorem dX12_fitsGrave_57 : decode cX12_fitsGrave 57 = .ok (.bipush 7, 2) := by decide +kernel
theorem dX12_fitsGrave_59 : decode cX12_fitsGrave 59 = .ok (.iload_n 1, 1) := by decide +kernel
theorem dX12_fitsGrave_60 : decode cX12_fitsGrave 60 = .ok (.imul, 1) := by decide +kernel
theorem dX12_fitsGrave_61 : decode cX12_fitsGrave 61 = .ok (.aload_n 0, 1) := by decide +kernel
theorem dX12_fitsGrave_62 : decode cX12_fitsGrave 62 = .ok (.getfield 121, 3) := by decide +kernel
theorem dX12_fitsGrave_65 : decode cX12_fitsGrave 65 = .ok (.iload 4, 2) := by decide +kernel
theorem dX12_fitsGrave_67 : decode cX12_fitsGrave 67 = .ok (.iaload, 1) := by decide +kernel
theorem dX12_fitsGrave_68 : decode cX12_fitsGrave 68 = .ok (.iadd, 1) := by decide +kernel
theorem dX12_fitsGrave_69 : decode cX12_fitsGrave 69 = .ok (.iconst 1, 1) := by decide +kernel
theorem dX12_fitsGrave_70 : decode cX12_fitsGrave 70 = .ok (.isub, 1) := by decide +kernel
theorem dX12_fitsGrave_71 : decode cX12_fitsGrave 71 = .ok (.iaload, 1) := by decide +kernel
theorem dX12_fitsGrave_72 : decode cX12_fitsGrave 72 = .ok (.aload_n 0, 1) := by decide +kernel
theorem dX12_fitsGrave_73 : decode cX12_fitsGrave 73 = .ok (.getfield 124, 3) := by decide +kernel
theorem dX12_fitsGrave_76 : decode cX12_fitsGrave 76 = .ok (.iload 4, 2) := by decide +kernel
theorem dX12_fitsGrave_78 : decode cX12_fitsGrave 78 = .ok (.iaload, 1) := by decide +kernel
theorem dX12_fitsGrave_79 : decode cX12_fitsGrave 79 = .ok (.if_icmp .ne 7, 3) := by decide +kernel
theorem dX12_fitsGrave_82 : decode cX12_fitsGrave 82 = .ok (.iconst 1, 1) := by decide +kernel
theorem dX12_fitsGrave_83 : decode cX12_fitsGrave 83 = .ok (.goto 4, 3) := by decide +kernel
theorem dX12_fitsGrave_86 : decode cX12_fitsGrave 86 = .ok (.iconst 0, 1) := by decide +kernel
theorem dX12_fitsGrave_87 : decode cX12_fitsGrave 87 = .ok (.aload_n 0, 1) := by decide +kernel
theorem dX12_fitsGrave_88 : decode cX12_fitsGrave 88 = .ok (.getfield 133, 3) := by decide +kernel
theorem dX12_fitsGrave_91 : decode cX12_fitsGrave 91 = .ok (.iload 4, 2) := by decide +kernel
theorem dX12_fitsGrave_93 : decode cX12_fitsGrave 93 = .ok (.baload, 1) := by decide +kernel
theorem dX12_fitsGrave_94 : decode cX12_fitsGrave 94 = .ok (.if_icmp .ne 7, 3) := by decide +kernel
theorem dX12_fitsGrave_97 : decode cX12_fitsGrave 97 = .ok (.iconst 1, 1) := by decide +kernel
theorem dX12_fitsGrave_98 : decode cX12_fitsGrave 98 = .ok (.goto 4, 3) := by decide +kernel
theorem dX12_fitsGrave_101 : decode cX12_fitsGrave 101 = .ok (.iconst 0, 1) := by decide +kernel
theorem dX12_fitsGrave_102 : decode cX12_fitsGrave 102 = .ok (.istore_n 3, 1) := by decide +kernel
theorem dX12_fitsGrave_103 : decode cX12_fitsGrave 103 = .ok (.iinc 4 1, 3) := by decide +kernel
theorem dX12_fitsGrave_106 : decode cX12_fitsGrave 106 = .ok (.goto (-101), 3) := by decide +kernel
theorem dX12_fitsGrave_109 : decode cX12_fitsGrave 109 = .ok (.iload_n 3, 1) := by decide +kernel
theorem dX12_fitsGrave_110 : decode cX12_fitsGrave 110 = .ok (.ireturn, 1) := by decide +kernel
theorem dX12_layFits_0 : decode cX12_layFits 0 = .ok (.aload_n 0, 1) := by decide +kernel
theorem dX12_layFits_1 : decode cX12_layFits 1 = .ok (.getfield 323, 3) := by decide +kernel
theorem dX12_layFits_4 : decode cX12_layFits 4 = .ok (.ifCond .ne 5, 3) := by decide +kernel
theorem dX12_layFits_7 : decode cX12_layFits 7 = .ok (.iconst 0, 1) := by decide +kernel
theorem dX12_layFits_8 : decode cX12_layFits 8 = .ok (.ireturn, 1) := by decide +kernel
theorem dX12_layFits_9 : decode cX12_layFits 9 = .ok (.aload_n 0, 1) := by decide +kernel
theorem dX12_layFits_10 : decode cX12_layFits 10 = .ok (.getfield 323, 3) := by decide +kernel
theorem dX12_layFits_13 : decode cX12_layFits 13 = .ok (.iconst 1, 1) := by decide +kernel
theorem dX12_layFits_14 : decode cX12_layFits 14 = .ok (.isub, 1) := by decide +kernel
theorem dX12_layFits_15 : decode cX12_layFits 15 = .ok (.istore_n 2, 1) := by decide +kernel
theorem dX12_layFits_16 : decode cX12_layFits 16 = .ok (.aload_n 0, 1) := by decide +kernel
theorem dX12_layFits_17 : decode cX12_layFits 17 = .ok (.getfield 73, 3) := by decide +kernel
theorem dX12_layFits_20 : decode cX12_layFits 20 = .ok (.iload_n 2, 1) := by decide +kernel
theorem dX12_layFits_21 : decode cX12_layFits 21 = .ok (.iaload, 1) := by decide +kernel
theorem dX12_layFits_22 : decode cX12_layFits 22 = .ok (.istore_n 3, 1) := by decide +kernel
theorem dX12_layFits_23 : decode cX12_layFits 23 = .ok (.iconst 0, 1) := by decide +kernel
theorem dX12_layFits_24 : decode cX12_layFits 24 = .ok (.istore 4, 2) := by decide +kernel
theorem dX12_layFits_26 : decode cX12_layFits 26 = .ok (.iconst 0, 1) := by decide +kernel
theorem dX12_layFits_27 : decode cX12_layFits 27 = .ok (.istore 5, 2) := by decide +kernel
theorem dX12_layFits_29 : decode cX12_layFits 29 = .ok (.iload 5, 2) := by decide +kernel
theorem dX12_layFits_31 : decode cX12_layFits 31 = .ok (.bipush 99, 2) := by decide +kernel
theorem dX12_layFits_33 : decode cX12_layFits 33 = .ok (.if_icmp .gt 104, 3) := by decide +kernel
theorem dX12_layFits_36 : decode cX12_layFits 36 = .ok (.aload_n 0, 1) := by decide +kernel
theorem dX12_layFits_37 : decode cX12_layFits 37 = .ok (.getfield 73, 3) := by decide +kernel
theorem dX12_layFits_40 : decode cX12_layFits 40 = .ok (.iload_n 2, 1) := by decide +kernel
theorem dX12_layFits_41 : decode cX12_layFits 41 = .ok (.iload 5, 2) := by decide +kernel
theorem dX12_layFits_43 : decode cX12_layFits 43 = .ok (.iastore, 1) := by decide +kernel
theorem dX12_layFits_44 : decode cX12_layFits 44 = .ok (.aload_n 0, 1) := by decide +kernel
theorem dX12_layFits_45 : decode cX12_layFits 45 = .ok (.invokevirtual 400, 3) := by decide +kernel
theorem dX12_layFits_48 : decode cX12_layFits 48 = .ok (.aload_n 0, 1) := by decide +kernel
theorem dX12_layFits_49 : decode cX12_layFits 49 = .ok (.invokevirtual 448, 3) := by decide +kernel
theorem dX12_layFits_52 : decode cX12_layFits 52 = .ok (.pop, 1) := by decide +kernel
theorem dX12_layFits_53 : decode cX12_layFits 53 = .ok (.iconst 0, 1) := by decide +kernel
theorem dX12_layFits_54 : decode cX12_layFits 54 = .ok (.istore 6, 2) := by decide +kernel
theorem dX12_layFits_56 : decode cX12_layFits 56 = .ok (.iload 6, 2) := by decide +kernel
theorem dX12_layFits_58 : decode cX12_layFits 58 = .ok (.bipush 7, 2) := by decide +kernel
theorem dX12_layFits_60 : decode cX12_layFits 60 = .ok (.if_icmp .ge 42, 3) := by decide +kernel
theorem dX12_layFits_63 : decode cX12_layFits 63 = .ok (.aload_n 0, 1) := by decide +kernel
theorem dX12_layFits_64 : decode cX12_layFits 64 = .ok (.getfield 136, 3) := by decide +kernel
theorem dX12_layFits_67 : decode cX12_layFits 67 = .ok (.bipush 7, 2) := by decide +kernel
theorem dX12_layFits_69 : decode cX12_layFits 69 = .ok (.iload 5, 2) := by decide +kernel
theorem dX12_layFits_71 : decode cX12_layFits 71 = .ok (.imul, 1) := by decide +kernel
theorem dX12_layFits_72 : decode cX12_layFits 72 = .ok (.iload 6, 2) := by decide +kernel
theorem dX12_layFits_74 : decode cX12_layFits 74 = .ok (.iadd, 1) := by decide +kernel
theorem dX12_layFits_75 : decode cX12_layFits 75 = .ok (.iload 6, 2) := by decide +kernel
theorem dX12_layFits_77 : decode cX12_layFits 77 = .ok (.aload_n 0, 1) := by decide +kernel
theorem dX12_layFits_78 : decode cX12_layFits 78 = .ok (.getfield 436, 3) := by decide +kernel
theorem dX12_layFits_81 : decode cX12_layFits 81 = .ok (.if_icmp .ge 13, 3) := by decide +kernel
theorem dX12_layFits_84 : decode cX12_layFits 84 = .ok (.aload_n 0, 1) := by decide +kernel
theorem dX12_layFits_85 : decode cX12_layFits 85 = .ok (.getfield 103, 3) := by decide +kernel
theorem dX12_layFits_88 : decode cX12_layFits 88 = .ok (.iload 6, 2) := by decide +kernel
theorem dX12_layFits_90 : decode cX12_layFits 90 = .ok (.iaload, 1) := by decide +kernel
theorem dX12_layFits_91 : decode cX12_layFits 91 = .ok (.goto 4, 3) := by decide +kernel
theorem dX12_layFits_94 : decode cX12_layFits 94 = .ok (.iconst (-1), 1) := by decide +kernel
theorem dX12_layFits_95 : decode cX12_layFits 95 = .ok (.iastore, 1) := by decide +kernel
theorem dX12_layFits_96 : decode cX12_layFits 96 = .ok (.iinc 6 1, 3) := by decide +kernel
theorem dX12_layFits_99 : decode cX12_layFits 99 = .ok (.goto (-43), 3) := by decide +kernel
theorem dX12_layFits_102 : decode cX12_layFits 102 = .ok (.aload_n 0, 1) := by decide +kernel
theorem dX12_layFits_103 : decode cX12_layFits 103 = .ok (.getfield 139, 3) := by decide +kernel
theorem dX12_layFits_106 : decode cX12_layFits 106 = .ok (.iload 5, 2) := by decide +kernel
theorem dX12_layFits_108 : decode cX12_layFits 108 = .ok (.aload_n 0, 1) := by decide +kernel
theorem dX12_layFits_109 : decode cX12_layFits 109 = .ok (.iload 5, 2) := by decide +kernel
theorem dX12_layFits_111 : decode cX12_layFits 111 = .ok (.iload_n 1, 1) := by decide +kernel
theorem dX12_layFits_112 : decode cX12_layFits 112 = .ok (.invokevirtual 530, 3) := by decide +kernel
theorem dX12_layFits_115 : decode cX12_layFits 115 = .ok (.bastore, 1) := by decide +kernel
theorem dX12_layFits_116 : decode cX12_layFits 116 = .ok (.iload 4, 2) := by decide +kernel
theorem dX12_layFits_118 : decode cX12_layFits 118 = .ok (.aload_n 0, 1) := by decide +kernel
theorem dX12_layFits_119 : decode cX12_layFits 119 = .ok (.getfield 139, 3) := by decide +kernel
theorem dX12_layFits_122 : decode cX12_layFits 122 = .ok (.iload 5, 2) := by decide +kernel
theorem dX12_layFits_124 : decode cX12_layFits 124 = .ok (.baload, 1) := by decide +kernel
theorem dX12_layFits_125 : decode cX12_layFits 125 = .ok (.invokestatic 319, 3) := by decide +kernel
theorem dX12_layFits_128 : decode cX12_layFits 128 = .ok (.iadd, 1) := by decide +kernel
theorem dX12_layFits_129 : decode cX12_layFits 129 = .ok (.istore 4, 2) := by decide +kernel
theorem dX12_layFits_131 : decode cX12_layFits 131 = .ok (.iinc 5 1, 3) := by decide +kernel
theorem dX12_layFits_134 : decode cX12_layFits 134 = .ok (.goto (-105), 3) := by decide +kernel
theorem dX12_layFits_137 : decode cX12_layFits 137 = .ok (.aload_n 0, 1) := by decide +kernel
theorem dX12_layFits_138 : decode cX12_layFits 138 = .ok (.getfield 73, 3) := by decide +kernel
theorem dX12_layFits_141 : decode cX12_layFits 141 = .ok (.iload_n 2, 1) := by decide +kernel
theorem dX12_layFits_142 : decode cX12_layFits 142 = .ok (.iload_n 3, 1) := by decide +kernel
theorem dX12_layFits_143 : decode cX12_layFits 143 = .ok (.iastore, 1) := by decide +kernel
theorem dX12_layFits_144 : decode cX12_layFits 144 = .ok (.iload 4, 2) := by decide +kernel
theorem dX12_layFits_146 : decode cX12_layFits 146 = .ok (.ireturn, 1) := by decide +kernel
theorem dX12_fits_0 : decode cX12_fits 0 = .ok (.aload_n 0, 1) := by decide +kernel
theorem dX12_fits_1 : decode cX12_fits 1 = .ok (.iload_n 1, 1) := by decide +kernel
theorem dX12_fits_2 : decode cX12_fits 2 = .ok (.invokevirtual 533, 3) := by decide +kernel
theorem dX12_fits_5 : decode cX12_fits 5 = .ok (.ireturn, 1) := by decide +kernel
theorem dX12_sure_0 : decode cX12_sure 0 = .ok (.iload_n 1, 1) := by decide +kernel
theorem dX12_sure_1 : decode cX12_sure 1 = .ok (.iconst 0, 1) := by decide +kernel
theorem dX12_sure_2 : decode cX12_sure 2 = .ok (.iconst 1, 1) := by decide +kernel
theorem dX12_sure_3 : decode cX12_sure 3 = .ok (.invokestatic 418, 3) := by decide +kernel
theorem dX12_sure_6 : decode cX12_sure 6 = .ok (.ifCond .eq 11, 3) := by decide +kernel
theorem dX12_sure_9 : decode cX12_sure 9 = .ok (.aload_n 0, 1) := by decide +kernel
theorem dX12_sure_10 : decode cX12_sure 10 = .ok (.iload_n 2, 1) := by decide +kernel
theorem dX12_sure_11 : decode cX12_sure 11 = .ok (.invokevirtual 533, 3) := by decide +kernel
theorem dX12_sure_14 : decode cX12_sure 14 = .ok (.ifCond .ne 5, 3) := by decide +kernel
theorem dX12_sure_17 : decode cX12_sure 17 = .ok (.iconst (-1), 1) := by decide +kernel
theorem dX12_sure_18 : decode cX12_sure 18 = .ok (.ireturn, 1) := by decide +kernel
theorem dX12_sure_19 : decode cX12_sure 19 = .ok (.iconst (-1), 1) := by decide +kernel
theorem dX12_sure_20 : decode cX12_sure 20 = .ok (.istore_n 3, 1) := by decide +kernel
theorem dX12_sure_21 : decode cX12_sure 21 = .ok (.iconst 0, 1) := by decide +kernel
theorem dX12_sure_22 : decode cX12_sure 22 = .ok (.istore 4, 2) := by decide +kernel
theorem dX12_sure_24 : decode cX12_sure 24 = .ok (.iload 4, 2) := by decide +kernel
theorem dX12_sure_26 : decode cX12_sure 26 = .ok (.bipush 99, 2) := by decide +kernel
theorem dX12_sure_28 : decode cX12_sure 28 = .ok (.if_icmp .gt 31, 3) := by decide +kernel
theorem dX12_sure_31 : decode cX12_sure 31 = .ok (.aload_n 0, 1) := by decide +kernel
theorem dX12_sure_32 : decode cX12_sure 32 = .ok (.getfield 139, 3) := by decide +kernel
theorem dX12_sure_35 : decode cX12_sure 35 = .ok (.iload 4, 2) := by decide +kernel
theorem dX12_sure_37 : decode cX12_sure 37 = .ok (.baload, 1) := by decide +kernel
theorem dX12_sure_38 : decode cX12_sure 38 = .ok (.ifCond .eq 15, 3) := by decide +kernel
theorem dX12_sure_41 : decode cX12_sure 41 = .ok (.iload_n 3, 1) := by decide +kernel
theorem dX12_sure_42 : decode cX12_sure 42 = .ok (.ifCond .lt 8, 3) := by decide +kernel
theorem dX12_sure_45 : decode cX12_sure 45 = .ok (.iload_n 1, 1) := by decide +kernel
theorem dX12_sure_46 : decode cX12_sure 46 = .ok (.iconst 1, 1) := by decide +kernel
theorem dX12_sure_47 : decode cX12_sure 47 = .ok (.if_icmp .ne 6, 3) := by decide +kernel
theorem dX12_sure_50 : decode cX12_sure 50 = .ok (.iload 4, 2) := by decide +kernel
theorem dX12_sure_52 : decode cX12_sure 52 = .ok (.istore_n 3, 1) := by decide +kernel
theorem dX12_sure_53 : decode cX12_sure 53 = .ok (.iinc 4 1, 3) := by decide +kernel
theorem dX12_sure_56 : decode cX12_sure 56 = .ok (.goto (-32), 3) := by decide +kernel
theorem dX12_sure_59 : decode cX12_sure 59 = .ok (.iload_n 3, 1) := by decide +kernel
theorem dX12_sure_60 : decode cX12_sure 60 = .ok (.ireturn, 1) := by decide +kernel
theorem dX12_leftBy_0 : decode cX12_leftBy 0 = .ok (.iconst 0, 1) := by decide +kernel
theorem dX12_leftBy_1 : decode cX12_leftBy 1 = .ok (.istore_n 2, 1) := by decide +kernel
theorem dX12_leftBy_2 : decode cX12_leftBy 2 = .ok (.iconst (-1), 1) := by decide +kernel
theorem dX12_leftBy_3 : decode cX12_leftBy 3 = .ok (.istore_n 3, 1) := by decide +kernel
theorem dX12_leftBy_4 : decode cX12_leftBy 4 = .ok (.iload_n 3, 1) := by decide +kernel
theorem dX12_leftBy_5 : decode cX12_leftBy 5 = .ok (.aload_n 0, 1) := by decide +kernel
theorem dX12_leftBy_6 : decode cX12_leftBy 6 = .ok (.getfield 323, 3) := by decide +kernel
theorem dX12_leftBy_9 : decode cX12_leftBy 9 = .ok (.if_icmp .ge 80, 3) := by decide +kernel
theorem dX12_leftBy_12 : decode cX12_leftBy 12 = .ok (.iconst 0, 1) := by decide +kernel
theorem dX12_leftBy_13 : decode cX12_leftBy 13 = .ok (.istore 4, 2) := by decide +kernel
theorem dX12_leftBy_15 : decode cX12_leftBy 15 = .ok (.iconst 0, 1) := by decide +kernel
theorem dX12_leftBy_16 : decode cX12_leftBy 16 = .ok (.istore 5, 2) := by decide +kernel
theorem dX12_leftBy_18 : decode cX12_leftBy 18 = .ok (.iload 5, 2) := by decide +kernel
theorem dX12_leftBy_20 : decode cX12_leftBy 20 = .ok (.bipush 99, 2) := by decide +kernel
theorem dX12_leftBy_22 : decode cX12_leftBy 22 = .ok (.if_icmp .gt 48, 3) := by decide +kernel
theorem dX12_leftBy_25 : decode cX12_leftBy 25 = .ok (.iload 4, 2) := by decide +kernel
theorem dX12_leftBy_27 : decode cX12_leftBy 27 = .ok (.aload_n 0, 1) := by decide +kernel
theorem dX12_leftBy_28 : decode cX12_leftBy 28 = .ok (.getfield 139, 3) := by decide +kernel
theorem dX12_leftBy_31 : decode cX12_leftBy 31 = .ok (.iload 5, 2) := by decide +kernel
theorem dX12_leftBy_33 : decode cX12_leftBy 33 = .ok (.baload, 1) := by decide +kernel
theorem dX12_leftBy_34 : decode cX12_leftBy 34 = .ok (.ifCond .eq 23, 3) := by decide +kernel
theorem dX12_leftBy_37 : decode cX12_leftBy 37 = .ok (.aload_n 0, 1) := by decide +kernel
theorem dX12_leftBy_38 : decode cX12_leftBy 38 = .ok (.getfield 136, 3) := by decide +kernel
theorem dX12_leftBy_41 : decode cX12_leftBy 41 = .ok (.bipush 7, 2) := by decide +kernel
theorem dX12_leftBy_43 : decode cX12_leftBy 43 = .ok (.iload 5, 2) := by decide +kernel
theorem dX12_leftBy_45 : decode cX12_leftBy 45 = .ok (.imul, 1) := by decide +kernel
theorem dX12_leftBy_46 : decode cX12_leftBy 46 = .ok (.iload_n 1, 1) := by decide +kernel
theorem dX12_leftBy_47 : decode cX12_leftBy 47 = .ok (.iadd, 1) := by decide +kernel
theorem dX12_leftBy_48 : decode cX12_leftBy 48 = .ok (.iaload, 1) := by decide +kernel
theorem dX12_leftBy_49 : decode cX12_leftBy 49 = .ok (.iload_n 3, 1) := by decide +kernel
theorem dX12_leftBy_50 : decode cX12_leftBy 50 = .ok (.if_icmp .ne 7, 3) := by decide +kernel
theorem dX12_leftBy_53 : decode cX12_leftBy 53 = .ok (.iconst 1, 1) := by decide +kernel
theorem dX12_leftBy_54 : decode cX12_leftBy 54 = .ok (.goto 4, 3) := by decide +kernel
theorem dX12_leftBy_57 : decode cX12_leftBy 57 = .ok (.iconst 0, 1) := by decide +kernel
theorem dX12_leftBy_58 : decode cX12_leftBy 58 = .ok (.invokestatic 319, 3) := by decide +kernel
theorem dX12_leftBy_61 : decode cX12_leftBy 61 = .ok (.iadd, 1) := by decide +kernel
theorem dX12_leftBy_62 : decode cX12_leftBy 62 = .ok (.istore 4, 2) := by decide +kernel
theorem dX12_leftBy_64 : decode cX12_leftBy 64 = .ok (.iinc 5 1, 3) := by decide +kernel
theorem dX12_leftBy_67 : decode cX12_leftBy 67 = .ok (.goto (-49), 3) := by decide +kernel
theorem dX12_leftBy_70 : decode cX12_leftBy 70 = .ok (.iload 4, 2) := by decide +kernel
theorem dX12_leftBy_72 : decode cX12_leftBy 72 = .ok (.iload_n 2, 1) := by decide +kernel
theorem dX12_leftBy_73 : decode cX12_leftBy 73 = .ok (.if_icmp .le 8, 3) := by decide +kernel
theorem dX12_leftBy_76 : decode cX12_leftBy 76 = .ok (.iload 4, 2) := by decide +kernel
theorem dX12_leftBy_78 : decode cX12_leftBy 78 = .ok (.goto 4, 3) := by decide +kernel
theorem dX12_leftBy_81 : decode cX12_leftBy 81 = .ok (.iload_n 2, 1) := by decide +kernel
theorem dX12_leftBy_82 : decode cX12_leftBy 82 = .ok (.istore_n 2, 1) := by decide +kernel
theorem dX12_leftBy_83 : decode cX12_leftBy 83 = .ok (.iinc 3 1, 3) := by decide +kernel
theorem dX12_leftBy_86 : decode cX12_leftBy 86 = .ok (.goto (-82), 3) := by decide +kernel
theorem dX12_leftBy_89 : decode cX12_leftBy 89 = .ok (.iload_n 2, 1) := by decide +kernel
theorem dX12_leftBy_90 : decode cX12_leftBy 90 = .ok (.ireturn, 1) := by decide +kernel
theorem dX12_ask_0 : decode cX12_ask 0 = .ok (.iload_n 1, 1) := by decide +kernel
theorem dX12_ask_1 : decode cX12_ask 1 = .ok (.iconst 0, 1) := by decide +kernel
theorem dX12_ask_2 : decode cX12_ask 2 = .ok (.iconst 1, 1) := by decide +kernel
theorem dX12_ask_3 : decode cX12_ask 3 = .ok (.invokestatic 418, 3) := by decide +kernel
theorem dX12_ask_6 : decode cX12_ask 6 = .ok (.ifCond .eq 11, 3) := by decide +kernel
theorem dX12_ask_9 : decode cX12_ask 9 = .ok (.aload_n 0, 1) := by decide +kernel
theorem dX12_ask_10 : decode cX12_ask 10 = .ok (.iload_n 2, 1) := by decide +kernel
theorem dX12_ask_11 : decode cX12_ask 11 = .ok (.invokevirtual 533, 3) := by decide +kernel
theorem dX12_ask_14 : decode cX12_ask 14 = .ok (.ifCond .ne 5, 3) := by decide +kernel
theorem dX12_ask_17 : decode cX12_ask 17 = .ok (.iconst (-1), 1) := by decide +kernel
theorem dX12_ask_18 : decode cX12_ask 18 = .ok (.ireturn, 1) := by decide +kernel
theorem dX12_ask_19 : decode cX12_ask 19 = .ok (.iconst 0, 1) := by decide +kernel
theorem dX12_ask_20 : decode cX12_ask 20 = .ok (.istore_n 3, 1) := by decide +kernel
theorem dX12_ask_21 : decode cX12_ask 21 = .ok (.iconst 1, 1) := by decide +kernel
theorem dX12_ask_22 : decode cX12_ask 22 = .ok (.istore 4, 2) := by decide +kernel
theorem dX12_ask_24 : decode cX12_ask 24 = .ok (.iload 4, 2) := by decide +kernel
theorem dX12_ask_26 : decode cX12_ask 26 = .ok (.bipush 7, 2) := by decide +kernel
theorem dX12_ask_28 : decode cX12_ask 28 = .ok (.if_icmp .ge 30, 3) := by decide +kernel
theorem dX12_ask_31 : decode cX12_ask 31 = .ok (.aload_n 0, 1) := by decide +kernel
theorem dX12_ask_32 : decode cX12_ask 32 = .ok (.iload 4, 2) := by decide +kernel
theorem dX12_ask_34 : decode cX12_ask 34 = .ok (.invokevirtual 536, 3) := by decide +kernel
theorem dX12_ask_37 : decode cX12_ask 37 = .ok (.aload_n 0, 1) := by decide +kernel
theorem dX12_ask_38 : decode cX12_ask 38 = .ok (.iload_n 3, 1) := by decide +kernel
theorem dX12_ask_39 : decode cX12_ask 39 = .ok (.invokevirtual 536, 3) := by decide +kernel
theorem dX12_ask_42 : decode cX12_ask 42 = .ok (.if_icmp .ge 8, 3) := by decide +kernel
theorem dX12_ask_45 : decode cX12_ask 45 = .ok (.iload 4, 2) := by decide +kernel
theorem dX12_ask_47 : decode cX12_ask 47 = .ok (.goto 4, 3) := by decide +kernel
theorem dX12_ask_50 : decode cX12_ask 50 = .ok (.iload_n 3, 1) := by decide +kernel
theorem dX12_ask_51 : decode cX12_ask 51 = .ok (.istore_n 3, 1) := by decide +kernel
theorem dX12_ask_52 : decode cX12_ask 52 = .ok (.iinc 4 1, 3) := by decide +kernel
theorem dX12_ask_55 : decode cX12_ask 55 = .ok (.goto (-31), 3) := by decide +kernel
theorem dX12_ask_58 : decode cX12_ask 58 = .ok (.iload_n 1, 1) := by decide +kernel
theorem dX12_ask_59 : decode cX12_ask 59 = .ok (.ifCond .ne 9, 3) := by decide +kernel
theorem dX12_ask_62 : decode cX12_ask 62 = .ok (.iload_n 3, 1) := by decide +kernel
theorem dX12_ask_63 : decode cX12_ask 63 = .ok (.iconst 1, 1) := by decide +kernel
theorem dX12_ask_64 : decode cX12_ask 64 = .ok (.iadd, 1) := by decide +kernel
theorem dX12_ask_65 : decode cX12_ask 65 = .ok (.goto 8, 3) := by decide +kernel
theorem dX12_ask_68 : decode cX12_ask 68 = .ok (.aload_n 0, 1) := by decide +kernel
theorem dX12_ask_69 : decode cX12_ask 69 = .ok (.iload_n 3, 1) := by decide +kernel
theorem dX12_ask_70 : decode cX12_ask 70 = .ok (.invokevirtual 536, 3) := by decide +kernel
theorem dX12_ask_73 : decode cX12_ask 73 = .ok (.ireturn, 1) := by decide +kernel
theorem dX12_isBox_0 : decode cX12_isBox 0 = .ok (.iload_n 0, 1) := by decide +kernel
theorem dX12_isBox_1 : decode cX12_isBox 1 = .ok (.ifCond .lt 12, 3) := by decide +kernel
theorem dX12_isBox_4 : decode cX12_isBox 4 = .ok (.iload_n 0, 1) := by decide +kernel
theorem dX12_isBox_5 : decode cX12_isBox 5 = .ok (.iconst 3, 1) := by decide +kernel
theorem dX12_isBox_6 : decode cX12_isBox 6 = .ok (.if_icmp .ge 7, 3) := by decide +kernel
theorem dX12_isBox_9 : decode cX12_isBox 9 = .ok (.iconst 1, 1) := by decide +kernel
theorem dX12_isBox_10 : decode cX12_isBox 10 = .ok (.goto 4, 3) := by decide +kernel
theorem dX12_isBox_13 : decode cX12_isBox 13 = .ok (.iconst 0, 1) := by decide +kernel
theorem dX12_isBox_14 : decode cX12_isBox 14 = .ok (.ireturn, 1) := by decide +kernel
theorem dX12_image_0 : decode cX12_image 0 = .ok (.iload_n 1, 1) := by decide +kernel
theorem dX12_image_1 : decode cX12_image 1 = .ok (.invokestatic 539, 3) := by decide +kernel
theorem dX12_image_4 : decode cX12_image 4 = .ok (.ifCond .ne 5, 3) := by decide +kernel
theorem dX12_image_7 : decode cX12_image 7 = .ok (.iconst (-1), 1) := by decide +kernel
theorem dX12_image_8 : decode cX12_image 8 = .ok (.ireturn, 1) := by decide +kernel
theorem dX12_image_9 : decode cX12_image 9 = .ok (.aload_n 0, 1) := by decide +kernel
theorem dX12_image_10 : decode cX12_image 10 = .ok (.getfield 142, 3) := by decide +kernel
theorem dX12_image_13 : decode cX12_image 13 = .ok (.iload_n 1, 1) := by decide +kernel
theorem dX12_image_14 : decode cX12_image 14 = .ok (.iconst 1, 1) := by decide +kernel
theorem dX12_image_15 : decode cX12_image 15 = .ok (.bastore, 1) := by decide +kernel
theorem dX12_image_16 : decode cX12_image 16 = .ok (.iconst 0, 1) := by decide +kernel
theorem dX12_image_17 : decode cX12_image 17 = .ok (.istore_n 2, 1) := by decide +kernel
theorem dX12_image_18 : decode cX12_image 18 = .ok (.iload_n 2, 1) := by decide +kernel
theorem dX12_image_19 : decode cX12_image 19 = .ok (.bipush 24, 2) := by decide +kernel
theorem dX12_image_21 : decode cX12_image 21 = .ok (.if_icmp .ge 26, 3) := by decide +kernel
theorem dX12_image_24 : decode cX12_image 24 = .ok (.aload_n 0, 1) := by decide +kernel
theorem dX12_image_25 : decode cX12_image 25 = .ok (.getfield 145, 3) := by decide +kernel
theorem dX12_image_28 : decode cX12_image 28 = .ok (.bipush 24, 2) := by decide +kernel
theorem dX12_image_30 : decode cX12_image 30 = .ok (.iload_n 1, 1) := by decide +kernel
theorem dX12_image_31 : decode cX12_image 31 = .ok (.imul, 1) := by decide +kernel
theorem dX12_image_32 : decode cX12_image 32 = .ok (.iload_n 2, 1) := by decide +kernel
theorem dX12_image_33 : decode cX12_image 33 = .ok (.iadd, 1) := by decide +kernel
theorem dX12_image_34 : decode cX12_image 34 = .ok (.aload_n 0, 1) := by decide +kernel
theorem dX12_image_35 : decode cX12_image 35 = .ok (.getfield 97, 3) := by decide +kernel
theorem dX12_image_38 : decode cX12_image 38 = .ok (.iload_n 2, 1) := by decide +kernel
theorem dX12_image_39 : decode cX12_image 39 = .ok (.iaload, 1) := by decide +kernel
theorem dX12_image_40 : decode cX12_image 40 = .ok (.iastore, 1) := by decide +kernel
theorem dX12_image_41 : decode cX12_image 41 = .ok (.iinc 2 1, 3) := by decide +kernel
theorem dX12_image_44 : decode cX12_image 44 = .ok (.goto (-26), 3) := by decide +kernel
theorem dX12_image_47 : decode cX12_image 47 = .ok (.aload_n 0, 1) := by decide +kernel
theorem dX12_image_48 : decode cX12_image 48 = .ok (.getfield 97, 3) := by decide +kernel
theorem dX12_image_51 : decode cX12_image 51 = .ok (.bipush 21, 2) := by decide +kernel
theorem dX12_image_53 : decode cX12_image 53 = .ok (.iaload, 1) := by decide +kernel
theorem dX12_image_54 : decode cX12_image 54 = .ok (.ireturn, 1) := by decide +kernel
theorem dX12_back_0 : decode cX12_back 0 = .ok (.iload_n 1, 1) := by decide +kernel
theorem dX12_back_1 : decode cX12_back 1 = .ok (.invokestatic 539, 3) := by decide +kernel
theorem dX12_back_4 : decode cX12_back 4 = .ok (.ifCond .eq 12, 3) := by decide +kernel
theorem dX12_back_7 : decode cX12_back 7 = .ok (.aload_n 0, 1) := by decide +kernel
theorem dX12_back_8 : decode cX12_back 8 = .ok (.getfield 142, 3) := by decide +kernel
theorem dX12_back_11 : decode cX12_back 11 = .ok (.iload_n 1, 1) := by decide +kernel
theorem dX12_back_12 : decode cX12_back 12 = .ok (.baload, 1) := by decide +kernel
theorem dX12_back_13 : decode cX12_back 13 = .ok (.ifCond .ne 5, 3) := by decide +kernel
theorem dX12_back_16 : decode cX12_back 16 = .ok (.iconst (-1), 1) := by decide +kernel
theorem dX12_back_17 : decode cX12_back 17 = .ok (.ireturn, 1) := by decide +kernel
theorem dX12_back_18 : decode cX12_back 18 = .ok (.iconst 0, 1) := by decide +kernel
theorem dX12_back_19 : decode cX12_back 19 = .ok (.istore_n 2, 1) := by decide +kernel
theorem dX12_back_20 : decode cX12_back 20 = .ok (.iload_n 2, 1) := by decide +kernel
theorem dX12_back_21 : decode cX12_back 21 = .ok (.bipush 24, 2) := by decide +kernel
theorem dX12_back_23 : decode cX12_back 23 = .ok (.if_icmp .ge 26, 3) := by decide +kernel
theorem dX12_back_26 : decode cX12_back 26 = .ok (.aload_n 0, 1) := by decide +kernel
theorem dX12_back_27 : decode cX12_back 27 = .ok (.getfield 97, 3) := by decide +kernel
theorem dX12_back_30 : decode cX12_back 30 = .ok (.iload_n 2, 1) := by decide +kernel
theorem dX12_back_31 : decode cX12_back 31 = .ok (.aload_n 0, 1) := by decide +kernel
theorem dX12_back_32 : decode cX12_back 32 = .ok (.getfield 145, 3) := by decide +kernel
theorem dX12_back_35 : decode cX12_back 35 = .ok (.bipush 24, 2) := by decide +kernel
theorem dX12_back_37 : decode cX12_back 37 = .ok (.iload_n 1, 1) := by decide +kernel
theorem dX12_back_38 : decode cX12_back 38 = .ok (.imul, 1) := by decide +kernel
theorem dX12_back_39 : decode cX12_back 39 = .ok (.iload_n 2, 1) := by decide +kernel
theorem dX12_back_40 : decode cX12_back 40 = .ok (.iadd, 1) := by decide +kernel
theorem dX12_back_41 : decode cX12_back 41 = .ok (.iaload, 1) := by decide +kernel
theorem dX12_back_42 : decode cX12_back 42 = .ok (.iastore, 1) := by decide +kernel
theorem dX12_back_43 : decode cX12_back 43 = .ok (.iinc 2 1, 3) := by decide +kernel
theorem dX12_back_46 : decode cX12_back 46 = .ok (.goto (-26), 3) := by decide +kernel
theorem dX12_back_49 : decode cX12_back 49 = .ok (.aload_n 0, 1) := by decide +kernel
theorem dX12_back_50 : decode cX12_back 50 = .ok (.iconst 0, 1) := by decide +kernel
theorem dX12_back_51 : decode cX12_back 51 = .ok (.putfield 406, 3) := by decide +kernel
theorem dX12_back_54 : decode cX12_back 54 = .ok (.aload_n 0, 1) := by decide +kernel
theorem dX12_back_55 : decode cX12_back 55 = .ok (.iconst 0, 1) := by decide +kernel
theorem dX12_back_56 : decode cX12_back 56 = .ok (.putfield 409, 3) := by decide +kernel
theorem dX12_back_59 : decode cX12_back 59 = .ok (.aload_n 0, 1) := by decide +kernel
theorem dX12_back_60 : decode cX12_back 60 = .ok (.getfield 97, 3) := by decide +kernel
theorem dX12_back_63 : decode cX12_back 63 = .ok (.bipush 21, 2) := by decide +kernel
theorem dX12_back_65 : decode cX12_back 65 = .ok (.iaload, 1) := by decide +kernel
theorem dX12_back_66 : decode cX12_back 66 = .ok (.ireturn, 1) := by decide +kernel
theorem dX12_about_0 : decode cX12_about 0 = .ok (.iload_n 1, 1) := by decide +kernel
theorem dX12_about_1 : decode cX12_about 1 = .ok (.tableswitch 166 0 14 #[75, 80, 88, 96, 104, 109, 121, 126, 131, 136, 141, 146, 151, 156, 161], 75) := by decide +kernel
theorem dX12_about_76 : decode cX12_about 76 = .ok (.aload_n 0, 1) := by decide +kernel
theorem dX12_about_77 : decode cX12_about 77 = .ok (.getfield 323, 3) := by decide +kernel
theorem dX12_about_80 : decode cX12_about 80 = .ok (.ireturn, 1) := by decide +kernel
theorem dX12_about_81 : decode cX12_about 81 = .ok (.aload_n 0, 1) := by decide +kernel
theorem dX12_about_82 : decode cX12_about 82 = .ok (.getfield 97, 3) := by decide +kernel
theorem dX12_about_85 : decode cX12_about 85 = .ok (.bipush 21, 2) := by decide +kernel
theorem dX12_about_87 : decode cX12_about 87 = .ok (.iaload, 1) := by decide +kernel
theorem dX12_about_88 : decode cX12_about 88 = .ok (.ireturn, 1) := by decide +kernel
theorem dX12_about_89 : decode cX12_about 89 = .ok (.aload_n 0, 1) := by decide +kernel
theorem dX12_about_90 : decode cX12_about 90 = .ok (.getfield 97, 3) := by decide +kernel
theorem dX12_about_93 : decode cX12_about 93 = .ok (.bipush 23, 2) := by decide +kernel
theorem dX12_about_95 : decode cX12_about 95 = .ok (.iaload, 1) := by decide +kernel
theorem dX12_about_96 : decode cX12_about 96 = .ok (.ireturn, 1) := by decide +kernel
theorem dX12_about_97 : decode cX12_about 97 = .ok (.aload_n 0, 1) := by decide +kernel
theorem dX12_about_98 : decode cX12_about 98 = .ok (.getfield 97, 3) := by decide +kernel
theorem dX12_about_101 : decode cX12_about 101 = .ok (.bipush 22, 2) := by decide +kernel
theorem dX12_about_103 : decode cX12_about 103 = .ok (.iaload, 1) := by decide +kernel
theorem dX12_about_104 : decode cX12_about 104 = .ok (.ireturn, 1) := by decide +kernel
theorem dX12_about_105 : decode cX12_about 105 = .ok (.aload_n 0, 1) := by decide +kernel
theorem dX12_about_106 : decode cX12_about 106 = .ok (.getfield 94, 3) := by decide +kernel
theorem dX12_about_109 : decode cX12_about 109 = .ok (.ireturn, 1) := by decide +kernel
theorem dX12_about_110 : decode cX12_about 110 = .ok (.aload_n 0, 1) := by decide +kernel
theorem dX12_about_111 : decode cX12_about 111 = .ok (.aload_n 0, 1) := by decide +kernel
theorem dX12_about_112 : decode cX12_about 112 = .ok (.invokevirtual 498, 3) := by decide +kernel
theorem dX12_about_115 : decode cX12_about 115 = .ok (.invokevirtual 501, 3) := by decide +kernel
theorem dX12_about_118 : decode cX12_about 118 = .ok (.invokestatic 319, 3) := by decide +kernel
theorem dX12_about_121 : decode cX12_about 121 = .ok (.ireturn, 1) := by decide +kernel
theorem dX12_about_122 : decode cX12_about 122 = .ok (.aload_n 0, 1) := by decide +kernel
theorem dX12_about_123 : decode cX12_about 123 = .ok (.invokevirtual 483, 3) := by decide +kernel
theorem dX12_about_126 : decode cX12_about 126 = .ok (.ireturn, 1) := by decide +kernel
theorem dX12_about_127 : decode cX12_about 127 = .ok (.aload_n 0, 1) := by decide +kernel
theorem dX12_about_128 : decode cX12_about 128 = .ok (.invokevirtual 498, 3) := by decide +kernel
theorem dX12_about_131 : decode cX12_about 131 = .ok (.ireturn, 1) := by decide +kernel
theorem dX12_about_132 : decode cX12_about 132 = .ok (.aload_n 0, 1) := by decide +kernel
theorem dX12_about_133 : decode cX12_about 133 = .ok (.getfield 406, 3) := by decide +kernel
theorem dX12_about_136 : decode cX12_about 136 = .ok (.ireturn, 1) := by decide +kernel
theorem dX12_about_137 : decode cX12_about 137 = .ok (.aload_n 0, 1) := by decide +kernel
theorem dX12_about_138 : decode cX12_about 138 = .ok (.getfield 409, 3) := by decide +kernel
theorem dX12_about_141 : decode cX12_about 141 = .ok (.ireturn, 1) := by decide +kernel
theorem dX12_about_142 : decode cX12_about 142 = .ok (.aload_n 0, 1) := by decide +kernel
theorem dX12_about_143 : decode cX12_about 143 = .ok (.getfield 412, 3) := by decide +kernel
theorem dX12_about_146 : decode cX12_about 146 = .ok (.ireturn, 1) := by decide +kernel
theorem dX12_about_147 : decode cX12_about 147 = .ok (.aload_n 0, 1) := by decide +kernel
theorem dX12_about_148 : decode cX12_about 148 = .ok (.getfield 526, 3) := by decide +kernel
theorem dX12_about_151 : decode cX12_about 151 = .ok (.ireturn, 1) := by decide +kernel
theorem dX12_about_152 : decode cX12_about 152 = .ok (.aload_n 0, 1) := by decide +kernel
theorem dX12_about_153 : decode cX12_about 153 = .ok (.getfield 148, 3) := by decide +kernel
theorem dX12_about_156 : decode cX12_about 156 = .ok (.ireturn, 1) := by decide +kernel
theorem dX12_about_157 : decode cX12_about 157 = .ok (.aload_n 0, 1) := by decide +kernel
theorem dX12_about_158 : decode cX12_about 158 = .ok (.getfield 397, 3) := by decide +kernel
theorem dX12_about_161 : decode cX12_about 161 = .ok (.ireturn, 1) := by decide +kernel
theorem dX12_about_162 : decode cX12_about 162 = .ok (.aload_n 0, 1) := by decide +kernel
theorem dX12_about_163 : decode cX12_about 163 = .ok (.getfield 415, 3) := by decide +kernel
theorem dX12_about_166 : decode cX12_about 166 = .ok (.ireturn, 1) := by decide +kernel
theorem dX12_about_167 : decode cX12_about 167 = .ok (.iconst (-1), 1) := by decide +kernel
theorem dX12_about_168 : decode cX12_about 168 = .ok (.ireturn, 1) := by decide +kernel
theorem dJ6_bitCount_0f7a4_0 : decode cJ6_bitCount_0f7a4 0 = .ok (.iload_n 0, 1) := by decide +kernel
theorem dJ6_bitCount_0f7a4_1 : decode cJ6_bitCount_0f7a4 1 = .ok (.iload_n 0, 1) := by decide +kernel
theorem dJ6_bitCount_0f7a4_2 : decode cJ6_bitCount_0f7a4 2 = .ok (.iconst 1, 1) := by decide +kernel
theorem dJ6_bitCount_0f7a4_3 : decode cJ6_bitCount_0f7a4 3 = .ok (.iushr, 1) := by decide +kernel
theorem dJ6_bitCount_0f7a4_4 : decode cJ6_bitCount_0f7a4 4 = .ok (.ldc_w 265, 3) := by decide +kernel
theorem dJ6_bitCount_0f7a4_7 : decode cJ6_bitCount_0f7a4 7 = .ok (.iand, 1) := by decide +kernel
theorem dJ6_bitCount_0f7a4_8 : decode cJ6_bitCount_0f7a4 8 = .ok (.isub, 1) := by decide +kernel
theorem dJ6_bitCount_0f7a4_9 : decode cJ6_bitCount_0f7a4 9 = .ok (.istore_n 0, 1) := by decide +kernel
theorem dJ6_bitCount_0f7a4_10 : decode cJ6_bitCount_0f7a4 10 = .ok (.iload_n 0, 1) := by decide +kernel
theorem dJ6_bitCount_0f7a4_11 : decode cJ6_bitCount_0f7a4 11 = .ok (.ldc_w 266, 3) := by decide +kernel
theorem dJ6_bitCount_0f7a4_14 : decode cJ6_bitCount_0f7a4 14 = .ok (.iand, 1) := by decide +kernel
theorem dJ6_bitCount_0f7a4_15 : decode cJ6_bitCount_0f7a4 15 = .ok (.iload_n 0, 1) := by decide +kernel
theorem dJ6_bitCount_0f7a4_16 : decode cJ6_bitCount_0f7a4 16 = .ok (.iconst 2, 1) := by decide +kernel
theorem dJ6_bitCount_0f7a4_17 : decode cJ6_bitCount_0f7a4 17 = .ok (.iushr, 1) := by decide +kernel
theorem dJ6_bitCount_0f7a4_18 : decode cJ6_bitCount_0f7a4 18 = .ok (.ldc_w 266, 3) := by decide +kernel
theorem dJ6_bitCount_0f7a4_21 : decode cJ6_bitCount_0f7a4 21 = .ok (.iand, 1) := by decide +kernel
theorem dJ6_bitCount_0f7a4_22 : decode cJ6_bitCount_0f7a4 22 = .ok (.iadd, 1) := by decide +kernel
theorem dJ6_bitCount_0f7a4_23 : decode cJ6_bitCount_0f7a4 23 = .ok (.istore_n 0, 1) := by decide +kernel
theorem dJ6_bitCount_0f7a4_24 : decode cJ6_bitCount_0f7a4 24 = .ok (.iload_n 0, 1) := by decide +kernel
theorem dJ6_bitCount_0f7a4_25 : decode cJ6_bitCount_0f7a4 25 = .ok (.iload_n 0, 1) := by decide +kernel
theorem dJ6_bitCount_0f7a4_26 : decode cJ6_bitCount_0f7a4 26 = .ok (.iconst 4, 1) := by decide +kernel
theorem dJ6_bitCount_0f7a4_27 : decode cJ6_bitCount_0f7a4 27 = .ok (.iushr, 1) := by decide +kernel
theorem dJ6_bitCount_0f7a4_28 : decode cJ6_bitCount_0f7a4 28 = .ok (.iadd, 1) := by decide +kernel
theorem dJ6_bitCount_0f7a4_29 : decode cJ6_bitCount_0f7a4 29 = .ok (.ldc_w 267, 3) := by decide +kernel
theorem dJ6_bitCount_0f7a4_32 : decode cJ6_bitCount_0f7a4 32 = .ok (.iand, 1) := by decide +kernel
theorem dJ6_bitCount_0f7a4_33 : decode cJ6_bitCount_0f7a4 33 = .ok (.istore_n 0, 1) := by decide +kernel
theorem dJ6_bitCount_0f7a4_34 : decode cJ6_bitCount_0f7a4 34 = .ok (.iload_n 0, 1) := by decide +kernel
theorem dJ6_bitCount_0f7a4_35 : decode cJ6_bitCount_0f7a4 35 = .ok (.iload_n 0, 1) := by decide +kernel
theorem dJ6_bitCount_0f7a4_36 : decode cJ6_bitCount_0f7a4 36 = .ok (.bipush 8, 2) := by decide +kernel
theorem dJ6_bitCount_0f7a4_38 : decode cJ6_bitCount_0f7a4 38 = .ok (.iushr, 1) := by decide +kernel
theorem dJ6_bitCount_0f7a4_39 : decode cJ6_bitCount_0f7a4 39 = .ok (.iadd, 1) := by decide +kernel
theorem dJ6_bitCount_0f7a4_40 : decode cJ6_bitCount_0f7a4 40 = .ok (.istore_n 0, 1) := by decide +kernel
theorem dJ6_bitCount_0f7a4_41 : decode cJ6_bitCount_0f7a4 41 = .ok (.iload_n 0, 1) := by decide +kernel
theorem dJ6_bitCount_0f7a4_42 : decode cJ6_bitCount_0f7a4 42 = .ok (.iload_n 0, 1) := by decide +kernel
theorem dJ6_bitCount_0f7a4_43 : decode cJ6_bitCount_0f7a4 43 = .ok (.bipush 16, 2) := by decide +kernel
theorem dJ6_bitCount_0f7a4_45 : decode cJ6_bitCount_0f7a4 45 = .ok (.iushr, 1) := by decide +kernel
theorem dJ6_bitCount_0f7a4_46 : decode cJ6_bitCount_0f7a4 46 = .ok (.iadd, 1) := by decide +kernel
theorem dJ6_bitCount_0f7a4_47 : decode cJ6_bitCount_0f7a4 47 = .ok (.istore_n 0, 1) := by decide +kernel
theorem dJ6_bitCount_0f7a4_48 : decode cJ6_bitCount_0f7a4 48 = .ok (.iload_n 0, 1) := by decide +kernel
theorem dJ6_bitCount_0f7a4_49 : decode cJ6_bitCount_0f7a4 49 = .ok (.bipush 63, 2) := by decide +kernel
theorem dJ6_bitCount_0f7a4_51 : decode cJ6_bitCount_0f7a4 51 = .ok (.iand, 1) := by decide +kernel
theorem dJ6_bitCount_0f7a4_52 : decode cJ6_bitCount_0f7a4 52 = .ok (.ireturn, 1) := by decide +kernel
theorem dJ9_max_7cf53_0 : decode cJ9_max_7cf53 0 = .ok (.iload_n 0, 1) := by decide +kernel
theorem dJ9_max_7cf53_1 : decode cJ9_max_7cf53 1 = .ok (.iload_n 1, 1) := by decide +kernel
theorem dJ9_max_7cf53_2 : decode cJ9_max_7cf53 2 = .ok (.if_icmp .lt 7, 3) := by decide +kernel
theorem dJ9_max_7cf53_5 : decode cJ9_max_7cf53 5 = .ok (.iload_n 0, 1) := by decide +kernel
theorem dJ9_max_7cf53_6 : decode cJ9_max_7cf53 6 = .ok (.goto 4, 3) := by decide +kernel
theorem dJ9_max_7cf53_9 : decode cJ9_max_7cf53 9 = .ok (.iload_n 1, 1) := by decide +kernel
theorem dJ9_max_7cf53_10 : decode cJ9_max_7cf53 10 = .ok (.ireturn, 1) := by decide +kernel
theorem dJ9_min_7cf53_0 : decode cJ9_min_7cf53 0 = .ok (.iload_n 0, 1) := by decide +kernel
theorem dJ9_min_7cf53_1 : decode cJ9_min_7cf53 1 = .ok (.iload_n 1, 1) := by decide +kernel
theorem dJ9_min_7cf53_2 : decode cJ9_min_7cf53 2 = .ok (.if_icmp .gt 7, 3) := by decide +kernel
theorem dJ9_min_7cf53_5 : decode cJ9_min_7cf53 5 = .ok (.iload_n 0, 1) := by decide +kernel
theorem dJ9_min_7cf53_6 : decode cJ9_min_7cf53 6 = .ok (.goto 4, 3) := by decide +kernel
theorem dJ9_min_7cf53_9 : decode cJ9_min_7cf53 9 = .ok (.iload_n 1, 1) := by decide +kernel
theorem dJ9_min_7cf53_10 : decode cJ9_min_7cf53 10 = .ok (.ireturn, 1) := by decide +kernel
theorem dJ0_length_8abf5_0 : decode cJ0_length_8abf5 0 = .ok (.aload_n 0, 1) := by decide +kernel
theorem dJ0_length_8abf5_1 : decode cJ0_length_8abf5 1 = .ok (.getfield 9, 3) := by decide +kernel
theorem dJ0_length_8abf5_4 : decode cJ0_length_8abf5 4 = .ok (.arraylength, 1) := by decide +kernel
theorem dJ0_length_8abf5_5 : decode cJ0_length_8abf5 5 = .ok (.aload_n 0, 1) := by decide +kernel
theorem dJ0_length_8abf5_6 : decode cJ0_length_8abf5 6 = .ok (.invokevirtual 335, 3) := by decide +kernel
theorem dJ0_length_8abf5_9 : decode cJ0_length_8abf5 9 = .ok (.ishr, 1) := by decide +kernel
theorem dJ0_length_8abf5_10 : decode cJ0_length_8abf5 10 = .ok (.ireturn, 1) := by decide +kernel
theorem dJ0_charAt_5068e_0 : decode cJ0_charAt_5068e 0 = .ok (.aload_n 0, 1) := by decide +kernel
theorem dJ0_charAt_5068e_1 : decode cJ0_charAt_5068e 1 = .ok (.invokevirtual 492, 3) := by decide +kernel
theorem dJ0_charAt_5068e_4 : decode cJ0_charAt_5068e 4 = .ok (.ifCond .eq 12, 3) := by decide +kernel
theorem dJ0_charAt_5068e_7 : decode cJ0_charAt_5068e 7 = .ok (.aload_n 0, 1) := by decide +kernel
theorem dJ0_charAt_5068e_8 : decode cJ0_charAt_5068e 8 = .ok (.getfield 9, 3) := by decide +kernel
theorem dJ0_charAt_5068e_11 : decode cJ0_charAt_5068e 11 = .ok (.iload_n 1, 1) := by decide +kernel
theorem dJ0_charAt_5068e_12 : decode cJ0_charAt_5068e 12 = .ok (.invokestatic 495, 3) := by decide +kernel
theorem dJ0_charAt_5068e_15 : decode cJ0_charAt_5068e 15 = .ok (.ireturn, 1) := by decide +kernel
theorem dJ0_charAt_5068e_16 : decode cJ0_charAt_5068e 16 = .ok (.aload_n 0, 1) := by decide +kernel
theorem dJ0_charAt_5068e_17 : decode cJ0_charAt_5068e 17 = .ok (.getfield 9, 3) := by decide +kernel
theorem dJ0_charAt_5068e_20 : decode cJ0_charAt_5068e 20 = .ok (.iload_n 1, 1) := by decide +kernel
theorem dJ0_charAt_5068e_21 : decode cJ0_charAt_5068e 21 = .ok (.invokestatic 498, 3) := by decide +kernel
theorem dJ0_charAt_5068e_24 : decode cJ0_charAt_5068e 24 = .ok (.ireturn, 1) := by decide +kernel
theorem dJ0_coder_7d493_0 : decode cJ0_coder_7d493 0 = .ok (.getstatic 38, 3) := by decide +kernel
theorem dJ0_coder_7d493_3 : decode cJ0_coder_7d493 3 = .ok (.ifCond .eq 10, 3) := by decide +kernel
theorem dJ0_coder_7d493_6 : decode cJ0_coder_7d493 6 = .ok (.aload_n 0, 1) := by decide +kernel
theorem dJ0_coder_7d493_7 : decode cJ0_coder_7d493 7 = .ok (.getfield 15, 3) := by decide +kernel
theorem dJ0_coder_7d493_10 : decode cJ0_coder_7d493 10 = .ok (.goto 4, 3) := by decide +kernel
theorem dJ0_coder_7d493_13 : decode cJ0_coder_7d493 13 = .ok (.iconst 1, 1) := by decide +kernel
theorem dJ0_coder_7d493_14 : decode cJ0_coder_7d493 14 = .ok (.ireturn, 1) := by decide +kernel
theorem dJ0_isLatin1_aae02_0 : decode cJ0_isLatin1_aae02 0 = .ok (.getstatic 38, 3) := by decide +kernel
theorem dJ0_isLatin1_aae02_3 : decode cJ0_isLatin1_aae02 3 = .ok (.ifCond .eq 14, 3) := by decide +kernel
theorem dJ0_isLatin1_aae02_6 : decode cJ0_isLatin1_aae02 6 = .ok (.aload_n 0, 1) := by decide +kernel
theorem dJ0_isLatin1_aae02_7 : decode cJ0_isLatin1_aae02 7 = .ok (.getfield 15, 3) := by decide +kernel
theorem dJ0_isLatin1_aae02_10 : decode cJ0_isLatin1_aae02 10 = .ok (.ifCond .ne 7, 3) := by decide +kernel
theorem dJ0_isLatin1_aae02_13 : decode cJ0_isLatin1_aae02 13 = .ok (.iconst 1, 1) := by decide +kernel
theorem dJ0_isLatin1_aae02_14 : decode cJ0_isLatin1_aae02 14 = .ok (.goto 4, 3) := by decide +kernel
theorem dJ0_isLatin1_aae02_17 : decode cJ0_isLatin1_aae02 17 = .ok (.iconst 0, 1) := by decide +kernel
theorem dJ0_isLatin1_aae02_18 : decode cJ0_isLatin1_aae02 18 = .ok (.ireturn, 1) := by decide +kernel
theorem dJ0_checkIndex_df160_0 : decode cJ0_checkIndex_df160 0 = .ok (.iload_n 0, 1) := by decide +kernel
theorem dJ0_checkIndex_df160_1 : decode cJ0_checkIndex_df160 1 = .ok (.iload_n 1, 1) := by decide +kernel
theorem dJ0_checkIndex_df160_2 : decode cJ0_checkIndex_df160 2 = .ok (.getstatic 1053, 3) := by decide +kernel
theorem dJ0_checkIndex_df160_5 : decode cJ0_checkIndex_df160 5 = .ok (.invokestatic 1059, 3) := by decide +kernel
theorem dJ0_checkIndex_df160_8 : decode cJ0_checkIndex_df160 8 = .ok (.pop, 1) := by decide +kernel
theorem dJ0_checkIndex_df160_9 : decode cJ0_checkIndex_df160 9 = .ok (.return_, 1) := by decide +kernel
theorem dJ1_charAt_3b067_0 : decode cJ1_charAt_3b067 0 = .ok (.iload_n 1, 1) := by decide +kernel
theorem dJ1_charAt_3b067_1 : decode cJ1_charAt_3b067 1 = .ok (.aload_n 0, 1) := by decide +kernel
theorem dJ1_charAt_3b067_2 : decode cJ1_charAt_3b067 2 = .ok (.arraylength, 1) := by decide +kernel
theorem dJ1_charAt_3b067_3 : decode cJ1_charAt_3b067 3 = .ok (.invokestatic 9, 3) := by decide +kernel
theorem dJ1_charAt_3b067_6 : decode cJ1_charAt_3b067 6 = .ok (.aload_n 0, 1) := by decide +kernel
theorem dJ1_charAt_3b067_7 : decode cJ1_charAt_3b067 7 = .ok (.iload_n 1, 1) := by decide +kernel
theorem dJ1_charAt_3b067_8 : decode cJ1_charAt_3b067 8 = .ok (.baload, 1) := by decide +kernel
theorem dJ1_charAt_3b067_9 : decode cJ1_charAt_3b067 9 = .ok (.sipush 255, 3) := by decide +kernel
theorem dJ1_charAt_3b067_12 : decode cJ1_charAt_3b067 12 = .ok (.iand, 1) := by decide +kernel
theorem dJ1_charAt_3b067_13 : decode cJ1_charAt_3b067 13 = .ok (.i2c, 1) := by decide +kernel
theorem dJ1_charAt_3b067_14 : decode cJ1_charAt_3b067 14 = .ok (.ireturn, 1) := by decide +kernel
theorem dJ2_getChar_3b067_0 : decode cJ2_getChar_3b067 0 = .ok (.getstatic 44, 3) := by decide +kernel
theorem dJ2_getChar_3b067_3 : decode cJ2_getChar_3b067 3 = .ok (.ifCond .ne 25, 3) := by decide +kernel
theorem dJ2_getChar_3b067_6 : decode cJ2_getChar_3b067 6 = .ok (.iload_n 1, 1) := by decide +kernel
theorem dJ2_getChar_3b067_7 : decode cJ2_getChar_3b067 7 = .ok (.ifCond .lt 11, 3) := by decide +kernel
theorem dJ2_getChar_3b067_10 : decode cJ2_getChar_3b067 10 = .ok (.iload_n 1, 1) := by decide +kernel
theorem dJ2_getChar_3b067_11 : decode cJ2_getChar_3b067 11 = .ok (.aload_n 0, 1) := by decide +kernel
theorem dJ2_getChar_3b067_12 : decode cJ2_getChar_3b067 12 = .ok (.invokestatic 48, 3) := by decide +kernel
theorem dJ2_getChar_3b067_15 : decode cJ2_getChar_3b067 15 = .ok (.if_icmp .lt 13, 3) := by decide +kernel
theorem dJ2_getChar_3b067_18 : decode cJ2_getChar_3b067 18 = .ok (.new 52, 3) := by decide +kernel
theorem dJ2_getChar_3b067_21 : decode cJ2_getChar_3b067 21 = .ok (.dup, 1) := by decide +kernel
theorem dJ2_getChar_3b067_22 : decode cJ2_getChar_3b067 22 = .ok (.ldc 54, 2) := by decide +kernel
theorem dJ2_getChar_3b067_24 : decode cJ2_getChar_3b067 24 = .ok (.invokespecial 56, 3) := by decide +kernel
theorem dJ2_getChar_3b067_27 : decode cJ2_getChar_3b067 27 = .ok (.athrow, 1) := by decide +kernel
theorem dJ2_getChar_3b067_28 : decode cJ2_getChar_3b067 28 = .ok (.iload_n 1, 1) := by decide +kernel
theorem dJ2_getChar_3b067_29 : decode cJ2_getChar_3b067 29 = .ok (.iconst 1, 1) := by decide +kernel
theorem dJ2_getChar_3b067_30 : decode cJ2_getChar_3b067 30 = .ok (.ishl, 1) := by decide +kernel
theorem dJ2_getChar_3b067_31 : decode cJ2_getChar_3b067 31 = .ok (.istore_n 1, 1) := by decide +kernel
theorem dJ2_getChar_3b067_32 : decode cJ2_getChar_3b067 32 = .ok (.aload_n 0, 1) := by decide +kernel
theorem dJ2_getChar_3b067_33 : decode cJ2_getChar_3b067 33 = .ok (.iload_n 1, 1) := by decide +kernel
theorem dJ2_getChar_3b067_34 : decode cJ2_getChar_3b067 34 = .ok (.iinc 1 1, 3) := by decide +kernel
theorem dJ2_getChar_3b067_37 : decode cJ2_getChar_3b067 37 = .ok (.baload, 1) := by decide +kernel
theorem dJ2_getChar_3b067_38 : decode cJ2_getChar_3b067 38 = .ok (.sipush 255, 3) := by decide +kernel
theorem dJ2_getChar_3b067_41 : decode cJ2_getChar_3b067 41 = .ok (.iand, 1) := by decide +kernel
theorem dJ2_getChar_3b067_42 : decode cJ2_getChar_3b067 42 = .ok (.getstatic 59, 3) := by decide +kernel
theorem dJ2_getChar_3b067_45 : decode cJ2_getChar_3b067 45 = .ok (.ishl, 1) := by decide +kernel
theorem dJ2_getChar_3b067_46 : decode cJ2_getChar_3b067 46 = .ok (.aload_n 0, 1) := by decide +kernel
theorem dJ2_getChar_3b067_47 : decode cJ2_getChar_3b067 47 = .ok (.iload_n 1, 1) := by decide +kernel
theorem dJ2_getChar_3b067_48 : decode cJ2_getChar_3b067 48 = .ok (.baload, 1) := by decide +kernel
theorem dJ2_getChar_3b067_49 : decode cJ2_getChar_3b067 49 = .ok (.sipush 255, 3) := by decide +kernel
theorem dJ2_getChar_3b067_52 : decode cJ2_getChar_3b067 52 = .ok (.iand, 1) := by decide +kernel
theorem dJ2_getChar_3b067_53 : decode cJ2_getChar_3b067 53 = .ok (.getstatic 63, 3) := by decide +kernel
theorem dJ2_getChar_3b067_56 : decode cJ2_getChar_3b067 56 = .ok (.ishl, 1) := by decide +kernel
theorem dJ2_getChar_3b067_57 : decode cJ2_getChar_3b067 57 = .ok (.ior, 1) := by decide +kernel
theorem dJ2_getChar_3b067_58 : decode cJ2_getChar_3b067 58 = .ok (.i2c, 1) := by decide +kernel
theorem dJ2_getChar_3b067_59 : decode cJ2_getChar_3b067 59 = .ok (.ireturn, 1) := by decide +kernel
theorem dJ2_length_9d52b_0 : decode cJ2_length_9d52b 0 = .ok (.aload_n 0, 1) := by decide +kernel
theorem dJ2_length_9d52b_1 : decode cJ2_length_9d52b 1 = .ok (.arraylength, 1) := by decide +kernel
theorem dJ2_length_9d52b_2 : decode cJ2_length_9d52b 2 = .ok (.iconst 1, 1) := by decide +kernel
theorem dJ2_length_9d52b_3 : decode cJ2_length_9d52b 3 = .ok (.ishr, 1) := by decide +kernel
theorem dJ2_length_9d52b_4 : decode cJ2_length_9d52b 4 = .ok (.ireturn, 1) := by decide +kernel
theorem dJ2_charAt_3b067_0 : decode cJ2_charAt_3b067 0 = .ok (.iload_n 1, 1) := by decide +kernel
theorem dJ2_charAt_3b067_1 : decode cJ2_charAt_3b067 1 = .ok (.aload_n 0, 1) := by decide +kernel
theorem dJ2_charAt_3b067_2 : decode cJ2_charAt_3b067 2 = .ok (.invokestatic 67, 3) := by decide +kernel
theorem dJ2_charAt_3b067_5 : decode cJ2_charAt_3b067 5 = .ok (.aload_n 0, 1) := by decide +kernel
theorem dJ2_charAt_3b067_6 : decode cJ2_charAt_3b067 6 = .ok (.iload_n 1, 1) := by decide +kernel
theorem dJ2_charAt_3b067_7 : decode cJ2_charAt_3b067 7 = .ok (.invokestatic 71, 3) := by decide +kernel
theorem dJ2_charAt_3b067_10 : decode cJ2_charAt_3b067 10 = .ok (.ireturn, 1) := by decide +kernel
theorem dJ2_checkIndex_2214a_0 : decode cJ2_checkIndex_2214a 0 = .ok (.iload_n 0, 1) := by decide +kernel
theorem dJ2_checkIndex_2214a_1 : decode cJ2_checkIndex_2214a 1 = .ok (.aload_n 1, 1) := by decide +kernel
theorem dJ2_checkIndex_2214a_2 : decode cJ2_checkIndex_2214a 2 = .ok (.invokestatic 48, 3) := by decide +kernel
theorem dJ2_checkIndex_2214a_5 : decode cJ2_checkIndex_2214a 5 = .ok (.invokestatic 414, 3) := by decide +kernel
theorem dJ2_checkIndex_2214a_8 : decode cJ2_checkIndex_2214a 8 = .ok (.return_, 1) := by decide +kernel
theorem dJ3_checkIndex_8e157_0 : decode cJ3_checkIndex_8e157 0 = .ok (.iload_n 0, 1) := by decide +kernel
theorem dJ3_checkIndex_8e157_1 : decode cJ3_checkIndex_8e157 1 = .ok (.ifCond .lt 8, 3) := by decide +kernel
theorem dJ3_checkIndex_8e157_4 : decode cJ3_checkIndex_8e157 4 = .ok (.iload_n 0, 1) := by decide +kernel
theorem dJ3_checkIndex_8e157_5 : decode cJ3_checkIndex_8e157 5 = .ok (.iload_n 1, 1) := by decide +kernel
theorem dJ3_checkIndex_8e157_6 : decode cJ3_checkIndex_8e157 6 = .ok (.if_icmp .lt 10, 3) := by decide +kernel
theorem dJ3_checkIndex_8e157_9 : decode cJ3_checkIndex_8e157 9 = .ok (.aload_n 2, 1) := by decide +kernel
theorem dJ3_checkIndex_8e157_10 : decode cJ3_checkIndex_8e157 10 = .ok (.iload_n 0, 1) := by decide +kernel
theorem dJ3_checkIndex_8e157_11 : decode cJ3_checkIndex_8e157 11 = .ok (.iload_n 1, 1) := by decide +kernel
theorem dJ3_checkIndex_8e157_12 : decode cJ3_checkIndex_8e157 12 = .ok (.invokestatic 95, 3) := by decide +kernel
theorem dJ3_checkIndex_8e157_15 : decode cJ3_checkIndex_8e157 15 = .ok (.athrow, 1) := by decide +kernel
theorem dJ3_checkIndex_8e157_16 : decode cJ3_checkIndex_8e157 16 = .ok (.iload_n 0, 1) := by decide +kernel
theorem dJ3_checkIndex_8e157_17 : decode cJ3_checkIndex_8e157 17 = .ok (.ireturn, 1) := by decide +kernel
theorem dL_law_0 : decode cL_law 0 = .ok (.new 7, 3) := by decide +kernel
theorem dL_law_3 : decode cL_law 3 = .ok (.dup, 1) := by decide +kernel
theorem dL_law_4 : decode cL_law 4 = .ok (.invokespecial 9, 3) := by decide +kernel
theorem dL_law_7 : decode cL_law 7 = .ok (.astore_n 1, 1) := by decide +kernel
theorem dL_law_8 : decode cL_law 8 = .ok (.new 10, 3) := by decide +kernel
theorem dL_law_11 : decode cL_law 11 = .ok (.dup, 1) := by decide +kernel
theorem dL_law_12 : decode cL_law 12 = .ok (.invokespecial 12, 3) := by decide +kernel
theorem dL_law_15 : decode cL_law 15 = .ok (.astore_n 2, 1) := by decide +kernel
theorem dL_law_16 : decode cL_law 16 = .ok (.iconst 0, 1) := by decide +kernel
theorem dL_law_17 : decode cL_law 17 = .ok (.istore_n 3, 1) := by decide +kernel
theorem dL_law_18 : decode cL_law 18 = .ok (.iload_n 3, 1) := by decide +kernel
theorem dL_law_19 : decode cL_law 19 = .ok (.aload_n 0, 1) := by decide +kernel
theorem dL_law_20 : decode cL_law 20 = .ok (.arraylength, 1) := by decide +kernel
theorem dL_law_21 : decode cL_law 21 = .ok (.bipush 6, 2) := by decide +kernel
theorem dL_law_23 : decode cL_law 23 = .ok (.isub, 1) := by decide +kernel
theorem dL_law_24 : decode cL_law 24 = .ok (.if_icmp .gt 1207, 3) := by decide +kernel
theorem dL_law_27 : decode cL_law 27 = .ok (.aload_n 0, 1) := by decide +kernel
theorem dL_law_28 : decode cL_law 28 = .ok (.iload_n 3, 1) := by decide +kernel
theorem dL_law_29 : decode cL_law 29 = .ok (.iaload, 1) := by decide +kernel
theorem dL_law_30 : decode cL_law 30 = .ok (.bipush 63, 2) := by decide +kernel
theorem dL_law_32 : decode cL_law 32 = .ok (.iand, 1) := by decide +kernel
theorem dL_law_33 : decode cL_law 33 = .ok (.tableswitch 1192 0 42 #[187, 250, 273, 286, 309, 342, 365, 378, 401, 424, 457, 470, 483, 496, 509, 522, 545, 558, 571, 584, 607, 640, 663, 676, 699, 712, 735, 758, 791, 824, 847, 870, 893, 906, 929, 988, 1011, 1034, 1057, 1090, 1123, 1146, 1169], 187) := by decide +kernel
theorem dL_law_220 : decode cL_law 220 = .ok (.aload_n 1, 1) := by decide +kernel
theorem dL_law_221 : decode cL_law 221 = .ok (.aload_n 0, 1) := by decide +kernel
theorem dL_law_222 : decode cL_law 222 = .ok (.iload_n 3, 1) := by decide +kernel
theorem dL_law_223 : decode cL_law 223 = .ok (.iconst 1, 1) := by decide +kernel
theorem dL_law_224 : decode cL_law 224 = .ok (.iadd, 1) := by decide +kernel
theorem dL_law_225 : decode cL_law 225 = .ok (.iaload, 1) := by decide +kernel
theorem dL_law_226 : decode cL_law 226 = .ok (.aload_n 0, 1) := by decide +kernel
theorem dL_law_227 : decode cL_law 227 = .ok (.iload_n 3, 1) := by decide +kernel
theorem dL_law_228 : decode cL_law 228 = .ok (.iconst 2, 1) := by decide +kernel
theorem dL_law_229 : decode cL_law 229 = .ok (.iadd, 1) := by decide +kernel
theorem dL_law_230 : decode cL_law 230 = .ok (.iaload, 1) := by decide +kernel
theorem dL_law_231 : decode cL_law 231 = .ok (.aload_n 0, 1) := by decide +kernel
theorem dL_law_232 : decode cL_law 232 = .ok (.iload_n 3, 1) := by decide +kernel
theorem dL_law_233 : decode cL_law 233 = .ok (.iconst 3, 1) := by decide +kernel
theorem dL_law_234 : decode cL_law 234 = .ok (.iadd, 1) := by decide +kernel
theorem dL_law_235 : decode cL_law 235 = .ok (.iaload, 1) := by decide +kernel
theorem dL_law_236 : decode cL_law 236 = .ok (.aload_n 0, 1) := by decide +kernel
theorem dL_law_237 : decode cL_law 237 = .ok (.iload_n 3, 1) := by decide +kernel
theorem dL_law_238 : decode cL_law 238 = .ok (.iconst 4, 1) := by decide +kernel
theorem dL_law_239 : decode cL_law 239 = .ok (.iadd, 1) := by decide +kernel
theorem dL_law_240 : decode cL_law 240 = .ok (.iaload, 1) := by decide +kernel
theorem dL_law_241 : decode cL_law 241 = .ok (.aload_n 0, 1) := by decide +kernel
theorem dL_law_242 : decode cL_law 242 = .ok (.iload_n 3, 1) := by decide +kernel
theorem dL_law_243 : decode cL_law 243 = .ok (.iconst 5, 1) := by decide +kernel
theorem dL_law_244 : decode cL_law 244 = .ok (.iadd, 1) := by decide +kernel
theorem dL_law_245 : decode cL_law 245 = .ok (.iaload, 1) := by decide +kernel
theorem dL_law_246 : decode cL_law 246 = .ok (.invokevirtual 13, 3) := by decide +kernel
theorem dL_law_249 : decode cL_law 249 = .ok (.aload_n 2, 1) := by decide +kernel
theorem dL_law_250 : decode cL_law 250 = .ok (.aload_n 0, 1) := by decide +kernel
theorem dL_law_251 : decode cL_law 251 = .ok (.iload_n 3, 1) := by decide +kernel
theorem dL_law_252 : decode cL_law 252 = .ok (.iconst 1, 1) := by decide +kernel
theorem dL_law_253 : decode cL_law 253 = .ok (.iadd, 1) := by decide +kernel
theorem dL_law_254 : decode cL_law 254 = .ok (.iaload, 1) := by decide +kernel
theorem dL_law_255 : decode cL_law 255 = .ok (.aload_n 0, 1) := by decide +kernel
theorem dL_law_256 : decode cL_law 256 = .ok (.iload_n 3, 1) := by decide +kernel
theorem dL_law_257 : decode cL_law 257 = .ok (.iconst 2, 1) := by decide +kernel
theorem dL_law_258 : decode cL_law 258 = .ok (.iadd, 1) := by decide +kernel
theorem dL_law_259 : decode cL_law 259 = .ok (.iaload, 1) := by decide +kernel
theorem dL_law_260 : decode cL_law 260 = .ok (.aload_n 0, 1) := by decide +kernel
theorem dL_law_261 : decode cL_law 261 = .ok (.iload_n 3, 1) := by decide +kernel
theorem dL_law_262 : decode cL_law 262 = .ok (.iconst 3, 1) := by decide +kernel
theorem dL_law_263 : decode cL_law 263 = .ok (.iadd, 1) := by decide +kernel
theorem dL_law_264 : decode cL_law 264 = .ok (.iaload, 1) := by decide +kernel
theorem dL_law_265 : decode cL_law 265 = .ok (.aload_n 0, 1) := by decide +kernel
theorem dL_law_266 : decode cL_law 266 = .ok (.iload_n 3, 1) := by decide +kernel
theorem dL_law_267 : decode cL_law 267 = .ok (.iconst 4, 1) := by decide +kernel
theorem dL_law_268 : decode cL_law 268 = .ok (.iadd, 1) := by decide +kernel
theorem dL_law_269 : decode cL_law 269 = .ok (.iaload, 1) := by decide +kernel
theorem dL_law_270 : decode cL_law 270 = .ok (.aload_n 0, 1) := by decide +kernel
theorem dL_law_271 : decode cL_law 271 = .ok (.iload_n 3, 1) := by decide +kernel
theorem dL_law_272 : decode cL_law 272 = .ok (.iconst 5, 1) := by decide +kernel
theorem dL_law_273 : decode cL_law 273 = .ok (.iadd, 1) := by decide +kernel
theorem dL_law_274 : decode cL_law 274 = .ok (.iaload, 1) := by decide +kernel
theorem dL_law_275 : decode cL_law 275 = .ok (.invokevirtual 17, 3) := by decide +kernel
theorem dL_law_278 : decode cL_law 278 = .ok (.if_icmp .eq 947, 3) := by decide +kernel
theorem dL_law_281 : decode cL_law 281 = .ok (.iconst 0, 1) := by decide +kernel
theorem dL_law_282 : decode cL_law 282 = .ok (.ireturn, 1) := by decide +kernel
theorem dL_law_283 : decode cL_law 283 = .ok (.aload_n 1, 1) := by decide +kernel
theorem dL_law_284 : decode cL_law 284 = .ok (.aload_n 0, 1) := by decide +kernel
theorem dL_law_285 : decode cL_law 285 = .ok (.iload_n 3, 1) := by decide +kernel
theorem dL_law_286 : decode cL_law 286 = .ok (.iconst 1, 1) := by decide +kernel
theorem dL_law_287 : decode cL_law 287 = .ok (.iadd, 1) := by decide +kernel
theorem dL_law_288 : decode cL_law 288 = .ok (.iaload, 1) := by decide +kernel
theorem dL_law_289 : decode cL_law 289 = .ok (.invokevirtual 18, 3) := by decide +kernel
theorem dL_law_292 : decode cL_law 292 = .ok (.aload_n 2, 1) := by decide +kernel
theorem dL_law_293 : decode cL_law 293 = .ok (.aload_n 0, 1) := by decide +kernel
theorem dL_law_294 : decode cL_law 294 = .ok (.iload_n 3, 1) := by decide +kernel
theorem dL_law_295 : decode cL_law 295 = .ok (.iconst 1, 1) := by decide +kernel
theorem dL_law_296 : decode cL_law 296 = .ok (.iadd, 1) := by decide +kernel
theorem dL_law_297 : decode cL_law 297 = .ok (.iaload, 1) := by decide +kernel
theorem dL_law_298 : decode cL_law 298 = .ok (.invokevirtual 22, 3) := by decide +kernel
theorem dL_law_301 : decode cL_law 301 = .ok (.if_icmp .eq 924, 3) := by decide +kernel
theorem dL_law_304 : decode cL_law 304 = .ok (.iconst 0, 1) := by decide +kernel
theorem dL_law_305 : decode cL_law 305 = .ok (.ireturn, 1) := by decide +kernel
theorem dL_law_306 : decode cL_law 306 = .ok (.aload_n 1, 1) := by decide +kernel
theorem dL_law_307 : decode cL_law 307 = .ok (.invokevirtual 23, 3) := by decide +kernel
theorem dL_law_310 : decode cL_law 310 = .ok (.aload_n 2, 1) := by decide +kernel
theorem dL_law_311 : decode cL_law 311 = .ok (.invokevirtual 27, 3) := by decide +kernel
theorem dL_law_314 : decode cL_law 314 = .ok (.if_icmp .eq 911, 3) := by decide +kernel
theorem dL_law_317 : decode cL_law 317 = .ok (.iconst 0, 1) := by decide +kernel
theorem dL_law_318 : decode cL_law 318 = .ok (.ireturn, 1) := by decide +kernel
theorem dL_law_319 : decode cL_law 319 = .ok (.aload_n 1, 1) := by decide +kernel
theorem dL_law_320 : decode cL_law 320 = .ok (.aload_n 0, 1) := by decide +kernel
theorem dL_law_321 : decode cL_law 321 = .ok (.iload_n 3, 1) := by decide +kernel
theorem dL_law_322 : decode cL_law 322 = .ok (.iconst 1, 1) := by decide +kernel
theorem dL_law_323 : decode cL_law 323 = .ok (.iadd, 1) := by decide +kernel
theorem dL_law_324 : decode cL_law 324 = .ok (.iaload, 1) := by decide +kernel
theorem dL_law_325 : decode cL_law 325 = .ok (.invokevirtual 28, 3) := by decide +kernel
theorem dL_law_328 : decode cL_law 328 = .ok (.aload_n 2, 1) := by decide +kernel
theorem dL_law_329 : decode cL_law 329 = .ok (.aload_n 0, 1) := by decide +kernel
theorem dL_law_330 : decode cL_law 330 = .ok (.iload_n 3, 1) := by decide +kernel
theorem dL_law_331 : decode cL_law 331 = .ok (.iconst 1, 1) := by decide +kernel
theorem dL_law_332 : decode cL_law 332 = .ok (.iadd, 1) := by decide +kernel
theorem dL_law_333 : decode cL_law 333 = .ok (.iaload, 1) := by decide +kernel
theorem dL_law_334 : decode cL_law 334 = .ok (.invokevirtual 31, 3) := by decide +kernel
theorem dL_law_337 : decode cL_law 337 = .ok (.if_icmp .eq 888, 3) := by decide +kernel
theorem dL_law_340 : decode cL_law 340 = .ok (.iconst 0, 1) := by decide +kernel
theorem dL_law_341 : decode cL_law 341 = .ok (.ireturn, 1) := by decide +kernel
theorem dL_law_342 : decode cL_law 342 = .ok (.aload_n 1, 1) := by decide +kernel
theorem dL_law_343 : decode cL_law 343 = .ok (.aload_n 0, 1) := by decide +kernel
theorem dL_law_344 : decode cL_law 344 = .ok (.iload_n 3, 1) := by decide +kernel
theorem dL_law_345 : decode cL_law 345 = .ok (.iconst 1, 1) := by decide +kernel
theorem dL_law_346 : decode cL_law 346 = .ok (.iadd, 1) := by decide +kernel
theorem dL_law_347 : decode cL_law 347 = .ok (.iaload, 1) := by decide +kernel
theorem dL_law_348 : decode cL_law 348 = .ok (.aload_n 0, 1) := by decide +kernel
theorem dL_law_349 : decode cL_law 349 = .ok (.iload_n 3, 1) := by decide +kernel
theorem dL_law_350 : decode cL_law 350 = .ok (.iconst 2, 1) := by decide +kernel
theorem dL_law_351 : decode cL_law 351 = .ok (.iadd, 1) := by decide +kernel
theorem dL_law_352 : decode cL_law 352 = .ok (.iaload, 1) := by decide +kernel
theorem dL_law_353 : decode cL_law 353 = .ok (.invokevirtual 32, 3) := by decide +kernel
theorem dL_law_356 : decode cL_law 356 = .ok (.aload_n 2, 1) := by decide +kernel
theorem dL_law_357 : decode cL_law 357 = .ok (.aload_n 0, 1) := by decide +kernel
theorem dL_law_358 : decode cL_law 358 = .ok (.iload_n 3, 1) := by decide +kernel
theorem dL_law_359 : decode cL_law 359 = .ok (.iconst 1, 1) := by decide +kernel
theorem dL_law_360 : decode cL_law 360 = .ok (.iadd, 1) := by decide +kernel
theorem dL_law_361 : decode cL_law 361 = .ok (.iaload, 1) := by decide +kernel
theorem dL_law_362 : decode cL_law 362 = .ok (.aload_n 0, 1) := by decide +kernel
theorem dL_law_363 : decode cL_law 363 = .ok (.iload_n 3, 1) := by decide +kernel
theorem dL_law_364 : decode cL_law 364 = .ok (.iconst 2, 1) := by decide +kernel
theorem dL_law_365 : decode cL_law 365 = .ok (.iadd, 1) := by decide +kernel
theorem dL_law_366 : decode cL_law 366 = .ok (.iaload, 1) := by decide +kernel
theorem dL_law_367 : decode cL_law 367 = .ok (.invokevirtual 36, 3) := by decide +kernel
theorem dL_law_370 : decode cL_law 370 = .ok (.if_icmp .eq 855, 3) := by decide +kernel
theorem dL_law_373 : decode cL_law 373 = .ok (.iconst 0, 1) := by decide +kernel
theorem dL_law_374 : decode cL_law 374 = .ok (.ireturn, 1) := by decide +kernel
theorem dL_law_375 : decode cL_law 375 = .ok (.aload_n 1, 1) := by decide +kernel
theorem dL_law_376 : decode cL_law 376 = .ok (.aload_n 0, 1) := by decide +kernel
theorem dL_law_377 : decode cL_law 377 = .ok (.iload_n 3, 1) := by decide +kernel
theorem dL_law_378 : decode cL_law 378 = .ok (.iconst 1, 1) := by decide +kernel
theorem dL_law_379 : decode cL_law 379 = .ok (.iadd, 1) := by decide +kernel
theorem dL_law_380 : decode cL_law 380 = .ok (.iaload, 1) := by decide +kernel
theorem dL_law_381 : decode cL_law 381 = .ok (.invokevirtual 37, 3) := by decide +kernel
theorem dL_law_384 : decode cL_law 384 = .ok (.aload_n 2, 1) := by decide +kernel
theorem dL_law_385 : decode cL_law 385 = .ok (.aload_n 0, 1) := by decide +kernel
theorem dL_law_386 : decode cL_law 386 = .ok (.iload_n 3, 1) := by decide +kernel
theorem dL_law_387 : decode cL_law 387 = .ok (.iconst 1, 1) := by decide +kernel
theorem dL_law_388 : decode cL_law 388 = .ok (.iadd, 1) := by decide +kernel
theorem dL_law_389 : decode cL_law 389 = .ok (.iaload, 1) := by decide +kernel
theorem dL_law_390 : decode cL_law 390 = .ok (.invokevirtual 40, 3) := by decide +kernel
theorem dL_law_393 : decode cL_law 393 = .ok (.if_icmp .eq 832, 3) := by decide +kernel
theorem dL_law_396 : decode cL_law 396 = .ok (.iconst 0, 1) := by decide +kernel
theorem dL_law_397 : decode cL_law 397 = .ok (.ireturn, 1) := by decide +kernel
theorem dL_law_398 : decode cL_law 398 = .ok (.aload_n 1, 1) := by decide +kernel
theorem dL_law_399 : decode cL_law 399 = .ok (.invokevirtual 41, 3) := by decide +kernel
theorem dL_law_402 : decode cL_law 402 = .ok (.aload_n 2, 1) := by decide +kernel
theorem dL_law_403 : decode cL_law 403 = .ok (.invokevirtual 44, 3) := by decide +kernel
theorem dL_law_406 : decode cL_law 406 = .ok (.if_icmp .eq 819, 3) := by decide +kernel
theorem dL_law_409 : decode cL_law 409 = .ok (.iconst 0, 1) := by decide +kernel
theorem dL_law_410 : decode cL_law 410 = .ok (.ireturn, 1) := by decide +kernel
theorem dL_law_411 : decode cL_law 411 = .ok (.aload_n 1, 1) := by decide +kernel
theorem dL_law_412 : decode cL_law 412 = .ok (.aload_n 0, 1) := by decide +kernel
theorem dL_law_413 : decode cL_law 413 = .ok (.iload_n 3, 1) := by decide +kernel
theorem dL_law_414 : decode cL_law 414 = .ok (.iconst 1, 1) := by decide +kernel
theorem dL_law_415 : decode cL_law 415 = .ok (.iadd, 1) := by decide +kernel
theorem dL_law_416 : decode cL_law 416 = .ok (.iaload, 1) := by decide +kernel
theorem dL_law_417 : decode cL_law 417 = .ok (.invokevirtual 45, 3) := by decide +kernel
theorem dL_law_420 : decode cL_law 420 = .ok (.aload_n 2, 1) := by decide +kernel
theorem dL_law_421 : decode cL_law 421 = .ok (.aload_n 0, 1) := by decide +kernel
theorem dL_law_422 : decode cL_law 422 = .ok (.iload_n 3, 1) := by decide +kernel
theorem dL_law_423 : decode cL_law 423 = .ok (.iconst 1, 1) := by decide +kernel
theorem dL_law_424 : decode cL_law 424 = .ok (.iadd, 1) := by decide +kernel
theorem dL_law_425 : decode cL_law 425 = .ok (.iaload, 1) := by decide +kernel
theorem dL_law_426 : decode cL_law 426 = .ok (.invokevirtual 48, 3) := by decide +kernel
theorem dL_law_429 : decode cL_law 429 = .ok (.if_icmp .eq 796, 3) := by decide +kernel
theorem dL_law_432 : decode cL_law 432 = .ok (.iconst 0, 1) := by decide +kernel
theorem dL_law_433 : decode cL_law 433 = .ok (.ireturn, 1) := by decide +kernel
theorem dL_law_434 : decode cL_law 434 = .ok (.aload_n 1, 1) := by decide +kernel
theorem dL_law_435 : decode cL_law 435 = .ok (.aload_n 0, 1) := by decide +kernel
theorem dL_law_436 : decode cL_law 436 = .ok (.iload_n 3, 1) := by decide +kernel
theorem dL_law_437 : decode cL_law 437 = .ok (.iconst 1, 1) := by decide +kernel
theorem dL_law_438 : decode cL_law 438 = .ok (.iadd, 1) := by decide +kernel
theorem dL_law_439 : decode cL_law 439 = .ok (.iaload, 1) := by decide +kernel
theorem dL_law_440 : decode cL_law 440 = .ok (.invokevirtual 49, 3) := by decide +kernel
theorem dL_law_443 : decode cL_law 443 = .ok (.aload_n 2, 1) := by decide +kernel
theorem dL_law_444 : decode cL_law 444 = .ok (.aload_n 0, 1) := by decide +kernel
theorem dL_law_445 : decode cL_law 445 = .ok (.iload_n 3, 1) := by decide +kernel
theorem dL_law_446 : decode cL_law 446 = .ok (.iconst 1, 1) := by decide +kernel
theorem dL_law_447 : decode cL_law 447 = .ok (.iadd, 1) := by decide +kernel
theorem dL_law_448 : decode cL_law 448 = .ok (.iaload, 1) := by decide +kernel
theorem dL_law_449 : decode cL_law 449 = .ok (.invokevirtual 52, 3) := by decide +kernel
theorem dL_law_452 : decode cL_law 452 = .ok (.if_icmp .eq 773, 3) := by decide +kernel
theorem dL_law_455 : decode cL_law 455 = .ok (.iconst 0, 1) := by decide +kernel
theorem dL_law_456 : decode cL_law 456 = .ok (.ireturn, 1) := by decide +kernel
theorem dL_law_457 : decode cL_law 457 = .ok (.aload_n 1, 1) := by decide +kernel
theorem dL_law_458 : decode cL_law 458 = .ok (.aload_n 0, 1) := by decide +kernel
theorem dL_law_459 : decode cL_law 459 = .ok (.iload_n 3, 1) := by decide +kernel
theorem dL_law_460 : decode cL_law 460 = .ok (.iconst 1, 1) := by decide +kernel
theorem dL_law_461 : decode cL_law 461 = .ok (.iadd, 1) := by decide +kernel
theorem dL_law_462 : decode cL_law 462 = .ok (.iaload, 1) := by decide +kernel
theorem dL_law_463 : decode cL_law 463 = .ok (.aload_n 0, 1) := by decide +kernel
theorem dL_law_464 : decode cL_law 464 = .ok (.iload_n 3, 1) := by decide +kernel
theorem dL_law_465 : decode cL_law 465 = .ok (.iconst 2, 1) := by decide +kernel
theorem dL_law_466 : decode cL_law 466 = .ok (.iadd, 1) := by decide +kernel
theorem dL_law_467 : decode cL_law 467 = .ok (.iaload, 1) := by decide +kernel
theorem dL_law_468 : decode cL_law 468 = .ok (.invokevirtual 53, 3) := by decide +kernel
theorem dL_law_471 : decode cL_law 471 = .ok (.aload_n 2, 1) := by decide +kernel
theorem dL_law_472 : decode cL_law 472 = .ok (.aload_n 0, 1) := by decide +kernel
theorem dL_law_473 : decode cL_law 473 = .ok (.iload_n 3, 1) := by decide +kernel
theorem dL_law_474 : decode cL_law 474 = .ok (.iconst 1, 1) := by decide +kernel
theorem dL_law_475 : decode cL_law 475 = .ok (.iadd, 1) := by decide +kernel
theorem dL_law_476 : decode cL_law 476 = .ok (.iaload, 1) := by decide +kernel
theorem dL_law_477 : decode cL_law 477 = .ok (.aload_n 0, 1) := by decide +kernel
theorem dL_law_478 : decode cL_law 478 = .ok (.iload_n 3, 1) := by decide +kernel
theorem dL_law_479 : decode cL_law 479 = .ok (.iconst 2, 1) := by decide +kernel
theorem dL_law_480 : decode cL_law 480 = .ok (.iadd, 1) := by decide +kernel
theorem dL_law_481 : decode cL_law 481 = .ok (.iaload, 1) := by decide +kernel
theorem dL_law_482 : decode cL_law 482 = .ok (.invokevirtual 56, 3) := by decide +kernel
theorem dL_law_485 : decode cL_law 485 = .ok (.if_icmp .eq 740, 3) := by decide +kernel
theorem dL_law_488 : decode cL_law 488 = .ok (.iconst 0, 1) := by decide +kernel
theorem dL_law_489 : decode cL_law 489 = .ok (.ireturn, 1) := by decide +kernel
theorem dL_law_490 : decode cL_law 490 = .ok (.aload_n 1, 1) := by decide +kernel
theorem dL_law_491 : decode cL_law 491 = .ok (.invokevirtual 57, 3) := by decide +kernel
theorem dL_law_494 : decode cL_law 494 = .ok (.aload_n 2, 1) := by decide +kernel
theorem dL_law_495 : decode cL_law 495 = .ok (.invokevirtual 61, 3) := by decide +kernel
theorem dL_law_498 : decode cL_law 498 = .ok (.if_icmp .eq 727, 3) := by decide +kernel
theorem dL_law_501 : decode cL_law 501 = .ok (.iconst 0, 1) := by decide +kernel
theorem dL_law_502 : decode cL_law 502 = .ok (.ireturn, 1) := by decide +kernel
theorem dL_law_503 : decode cL_law 503 = .ok (.aload_n 1, 1) := by decide +kernel
theorem dL_law_504 : decode cL_law 504 = .ok (.invokevirtual 62, 3) := by decide +kernel
theorem dL_law_507 : decode cL_law 507 = .ok (.aload_n 2, 1) := by decide +kernel
theorem dL_law_508 : decode cL_law 508 = .ok (.invokevirtual 65, 3) := by decide +kernel
theorem dL_law_511 : decode cL_law 511 = .ok (.if_icmp .eq 714, 3) := by decide +kernel
theorem dL_law_514 : decode cL_law 514 = .ok (.iconst 0, 1) := by decide +kernel
theorem dL_law_515 : decode cL_law 515 = .ok (.ireturn, 1) := by decide +kernel
theorem dL_law_516 : decode cL_law 516 = .ok (.aload_n 1, 1) := by decide +kernel
theorem dL_law_517 : decode cL_law 517 = .ok (.invokevirtual 66, 3) := by decide +kernel
theorem dL_law_520 : decode cL_law 520 = .ok (.aload_n 2, 1) := by decide +kernel
theorem dL_law_521 : decode cL_law 521 = .ok (.invokevirtual 69, 3) := by decide +kernel
theorem dL_law_524 : decode cL_law 524 = .ok (.if_icmp .eq 701, 3) := by decide +kernel
theorem dL_law_527 : decode cL_law 527 = .ok (.iconst 0, 1) := by decide +kernel
theorem dL_law_528 : decode cL_law 528 = .ok (.ireturn, 1) := by decide +kernel
theorem dL_law_529 : decode cL_law 529 = .ok (.aload_n 1, 1) := by decide +kernel
theorem dL_law_530 : decode cL_law 530 = .ok (.invokevirtual 70, 3) := by decide +kernel
theorem dL_law_533 : decode cL_law 533 = .ok (.aload_n 2, 1) := by decide +kernel
theorem dL_law_534 : decode cL_law 534 = .ok (.invokevirtual 73, 3) := by decide +kernel
theorem dL_law_537 : decode cL_law 537 = .ok (.if_icmp .eq 688, 3) := by decide +kernel
theorem dL_law_540 : decode cL_law 540 = .ok (.iconst 0, 1) := by decide +kernel
theorem dL_law_541 : decode cL_law 541 = .ok (.ireturn, 1) := by decide +kernel
theorem dL_law_542 : decode cL_law 542 = .ok (.aload_n 1, 1) := by decide +kernel
theorem dL_law_543 : decode cL_law 543 = .ok (.invokevirtual 74, 3) := by decide +kernel
theorem dL_law_546 : decode cL_law 546 = .ok (.aload_n 2, 1) := by decide +kernel
theorem dL_law_547 : decode cL_law 547 = .ok (.invokevirtual 77, 3) := by decide +kernel
theorem dL_law_550 : decode cL_law 550 = .ok (.if_icmp .eq 675, 3) := by decide +kernel
theorem dL_law_553 : decode cL_law 553 = .ok (.iconst 0, 1) := by decide +kernel
theorem dL_law_554 : decode cL_law 554 = .ok (.ireturn, 1) := by decide +kernel
theorem dL_law_555 : decode cL_law 555 = .ok (.aload_n 1, 1) := by decide +kernel
theorem dL_law_556 : decode cL_law 556 = .ok (.aload_n 0, 1) := by decide +kernel
theorem dL_law_557 : decode cL_law 557 = .ok (.iload_n 3, 1) := by decide +kernel
theorem dL_law_558 : decode cL_law 558 = .ok (.iconst 1, 1) := by decide +kernel
theorem dL_law_559 : decode cL_law 559 = .ok (.iadd, 1) := by decide +kernel
theorem dL_law_560 : decode cL_law 560 = .ok (.iaload, 1) := by decide +kernel
theorem dL_law_561 : decode cL_law 561 = .ok (.invokevirtual 78, 3) := by decide +kernel
theorem dL_law_564 : decode cL_law 564 = .ok (.aload_n 2, 1) := by decide +kernel
theorem dL_law_565 : decode cL_law 565 = .ok (.aload_n 0, 1) := by decide +kernel
theorem dL_law_566 : decode cL_law 566 = .ok (.iload_n 3, 1) := by decide +kernel
theorem dL_law_567 : decode cL_law 567 = .ok (.iconst 1, 1) := by decide +kernel
theorem dL_law_568 : decode cL_law 568 = .ok (.iadd, 1) := by decide +kernel
theorem dL_law_569 : decode cL_law 569 = .ok (.iaload, 1) := by decide +kernel
theorem dL_law_570 : decode cL_law 570 = .ok (.invokevirtual 81, 3) := by decide +kernel
theorem dL_law_573 : decode cL_law 573 = .ok (.if_icmp .eq 652, 3) := by decide +kernel
theorem dL_law_576 : decode cL_law 576 = .ok (.iconst 0, 1) := by decide +kernel
theorem dL_law_577 : decode cL_law 577 = .ok (.ireturn, 1) := by decide +kernel
theorem dL_law_578 : decode cL_law 578 = .ok (.aload_n 1, 1) := by decide +kernel
theorem dL_law_579 : decode cL_law 579 = .ok (.invokevirtual 82, 3) := by decide +kernel
theorem dL_law_582 : decode cL_law 582 = .ok (.aload_n 2, 1) := by decide +kernel
theorem dL_law_583 : decode cL_law 583 = .ok (.invokevirtual 85, 3) := by decide +kernel
theorem dL_law_586 : decode cL_law 586 = .ok (.if_icmp .eq 639, 3) := by decide +kernel
theorem dL_law_589 : decode cL_law 589 = .ok (.iconst 0, 1) := by decide +kernel
theorem dL_law_590 : decode cL_law 590 = .ok (.ireturn, 1) := by decide +kernel
theorem dL_law_591 : decode cL_law 591 = .ok (.aload_n 1, 1) := by decide +kernel
theorem dL_law_592 : decode cL_law 592 = .ok (.invokevirtual 86, 3) := by decide +kernel
theorem dL_law_595 : decode cL_law 595 = .ok (.aload_n 2, 1) := by decide +kernel
theorem dL_law_596 : decode cL_law 596 = .ok (.invokevirtual 89, 3) := by decide +kernel
theorem dL_law_599 : decode cL_law 599 = .ok (.if_icmp .eq 626, 3) := by decide +kernel
theorem dL_law_602 : decode cL_law 602 = .ok (.iconst 0, 1) := by decide +kernel
theorem dL_law_603 : decode cL_law 603 = .ok (.ireturn, 1) := by decide +kernel
theorem dL_law_604 : decode cL_law 604 = .ok (.aload_n 1, 1) := by decide +kernel
theorem dL_law_605 : decode cL_law 605 = .ok (.invokevirtual 90, 3) := by decide +kernel
theorem dL_law_608 : decode cL_law 608 = .ok (.aload_n 2, 1) := by decide +kernel
theorem dL_law_609 : decode cL_law 609 = .ok (.invokevirtual 93, 3) := by decide +kernel
theorem dL_law_612 : decode cL_law 612 = .ok (.if_icmp .eq 613, 3) := by decide +kernel
theorem dL_law_615 : decode cL_law 615 = .ok (.iconst 0, 1) := by decide +kernel
theorem dL_law_616 : decode cL_law 616 = .ok (.ireturn, 1) := by decide +kernel
theorem dL_law_617 : decode cL_law 617 = .ok (.aload_n 1, 1) := by decide +kernel
theorem dL_law_618 : decode cL_law 618 = .ok (.aload_n 0, 1) := by decide +kernel
theorem dL_law_619 : decode cL_law 619 = .ok (.iload_n 3, 1) := by decide +kernel
theorem dL_law_620 : decode cL_law 620 = .ok (.iconst 1, 1) := by decide +kernel
theorem dL_law_621 : decode cL_law 621 = .ok (.iadd, 1) := by decide +kernel
theorem dL_law_622 : decode cL_law 622 = .ok (.iaload, 1) := by decide +kernel
theorem dL_law_623 : decode cL_law 623 = .ok (.invokevirtual 94, 3) := by decide +kernel
theorem dL_law_626 : decode cL_law 626 = .ok (.aload_n 2, 1) := by decide +kernel
theorem dL_law_627 : decode cL_law 627 = .ok (.aload_n 0, 1) := by decide +kernel
theorem dL_law_628 : decode cL_law 628 = .ok (.iload_n 3, 1) := by decide +kernel
theorem dL_law_629 : decode cL_law 629 = .ok (.iconst 1, 1) := by decide +kernel
theorem dL_law_630 : decode cL_law 630 = .ok (.iadd, 1) := by decide +kernel
theorem dL_law_631 : decode cL_law 631 = .ok (.iaload, 1) := by decide +kernel
theorem dL_law_632 : decode cL_law 632 = .ok (.invokevirtual 97, 3) := by decide +kernel
theorem dL_law_635 : decode cL_law 635 = .ok (.if_icmp .eq 590, 3) := by decide +kernel
theorem dL_law_638 : decode cL_law 638 = .ok (.iconst 0, 1) := by decide +kernel
theorem dL_law_639 : decode cL_law 639 = .ok (.ireturn, 1) := by decide +kernel
theorem dL_law_640 : decode cL_law 640 = .ok (.aload_n 1, 1) := by decide +kernel
theorem dL_law_641 : decode cL_law 641 = .ok (.aload_n 0, 1) := by decide +kernel
theorem dL_law_642 : decode cL_law 642 = .ok (.iload_n 3, 1) := by decide +kernel
theorem dL_law_643 : decode cL_law 643 = .ok (.iconst 1, 1) := by decide +kernel
theorem dL_law_644 : decode cL_law 644 = .ok (.iadd, 1) := by decide +kernel
theorem dL_law_645 : decode cL_law 645 = .ok (.iaload, 1) := by decide +kernel
theorem dL_law_646 : decode cL_law 646 = .ok (.aload_n 0, 1) := by decide +kernel
theorem dL_law_647 : decode cL_law 647 = .ok (.iload_n 3, 1) := by decide +kernel
theorem dL_law_648 : decode cL_law 648 = .ok (.iconst 2, 1) := by decide +kernel
theorem dL_law_649 : decode cL_law 649 = .ok (.iadd, 1) := by decide +kernel
theorem dL_law_650 : decode cL_law 650 = .ok (.iaload, 1) := by decide +kernel
theorem dL_law_651 : decode cL_law 651 = .ok (.invokevirtual 98, 3) := by decide +kernel
theorem dL_law_654 : decode cL_law 654 = .ok (.aload_n 2, 1) := by decide +kernel
theorem dL_law_655 : decode cL_law 655 = .ok (.aload_n 0, 1) := by decide +kernel
theorem dL_law_656 : decode cL_law 656 = .ok (.iload_n 3, 1) := by decide +kernel
theorem dL_law_657 : decode cL_law 657 = .ok (.iconst 1, 1) := by decide +kernel
theorem dL_law_658 : decode cL_law 658 = .ok (.iadd, 1) := by decide +kernel
theorem dL_law_659 : decode cL_law 659 = .ok (.iaload, 1) := by decide +kernel
theorem dL_law_660 : decode cL_law 660 = .ok (.aload_n 0, 1) := by decide +kernel
theorem dL_law_661 : decode cL_law 661 = .ok (.iload_n 3, 1) := by decide +kernel
theorem dL_law_662 : decode cL_law 662 = .ok (.iconst 2, 1) := by decide +kernel
theorem dL_law_663 : decode cL_law 663 = .ok (.iadd, 1) := by decide +kernel
theorem dL_law_664 : decode cL_law 664 = .ok (.iaload, 1) := by decide +kernel
theorem dL_law_665 : decode cL_law 665 = .ok (.invokevirtual 101, 3) := by decide +kernel
theorem dL_law_668 : decode cL_law 668 = .ok (.if_icmp .eq 557, 3) := by decide +kernel
theorem dL_law_671 : decode cL_law 671 = .ok (.iconst 0, 1) := by decide +kernel
theorem dL_law_672 : decode cL_law 672 = .ok (.ireturn, 1) := by decide +kernel
theorem dL_law_673 : decode cL_law 673 = .ok (.aload_n 1, 1) := by decide +kernel
theorem dL_law_674 : decode cL_law 674 = .ok (.aload_n 0, 1) := by decide +kernel
theorem dL_law_675 : decode cL_law 675 = .ok (.iload_n 3, 1) := by decide +kernel
theorem dL_law_676 : decode cL_law 676 = .ok (.iconst 1, 1) := by decide +kernel
theorem dL_law_677 : decode cL_law 677 = .ok (.iadd, 1) := by decide +kernel
theorem dL_law_678 : decode cL_law 678 = .ok (.iaload, 1) := by decide +kernel
theorem dL_law_679 : decode cL_law 679 = .ok (.invokevirtual 102, 3) := by decide +kernel
theorem dL_law_682 : decode cL_law 682 = .ok (.aload_n 2, 1) := by decide +kernel
theorem dL_law_683 : decode cL_law 683 = .ok (.aload_n 0, 1) := by decide +kernel
theorem dL_law_684 : decode cL_law 684 = .ok (.iload_n 3, 1) := by decide +kernel
theorem dL_law_685 : decode cL_law 685 = .ok (.iconst 1, 1) := by decide +kernel
theorem dL_law_686 : decode cL_law 686 = .ok (.iadd, 1) := by decide +kernel
theorem dL_law_687 : decode cL_law 687 = .ok (.iaload, 1) := by decide +kernel
theorem dL_law_688 : decode cL_law 688 = .ok (.invokevirtual 105, 3) := by decide +kernel
theorem dL_law_691 : decode cL_law 691 = .ok (.if_icmp .eq 534, 3) := by decide +kernel
theorem dL_law_694 : decode cL_law 694 = .ok (.iconst 0, 1) := by decide +kernel
theorem dL_law_695 : decode cL_law 695 = .ok (.ireturn, 1) := by decide +kernel
theorem dL_law_696 : decode cL_law 696 = .ok (.aload_n 1, 1) := by decide +kernel
theorem dL_law_697 : decode cL_law 697 = .ok (.invokevirtual 106, 3) := by decide +kernel
theorem dL_law_700 : decode cL_law 700 = .ok (.aload_n 2, 1) := by decide +kernel
theorem dL_law_701 : decode cL_law 701 = .ok (.invokevirtual 109, 3) := by decide +kernel
theorem dL_law_704 : decode cL_law 704 = .ok (.if_icmp .eq 521, 3) := by decide +kernel
theorem dL_law_707 : decode cL_law 707 = .ok (.iconst 0, 1) := by decide +kernel
theorem dL_law_708 : decode cL_law 708 = .ok (.ireturn, 1) := by decide +kernel
theorem dL_law_709 : decode cL_law 709 = .ok (.aload_n 1, 1) := by decide +kernel
theorem dL_law_710 : decode cL_law 710 = .ok (.aload_n 0, 1) := by decide +kernel
theorem dL_law_711 : decode cL_law 711 = .ok (.iload_n 3, 1) := by decide +kernel
theorem dL_law_712 : decode cL_law 712 = .ok (.iconst 1, 1) := by decide +kernel
theorem dL_law_713 : decode cL_law 713 = .ok (.iadd, 1) := by decide +kernel
theorem dL_law_714 : decode cL_law 714 = .ok (.iaload, 1) := by decide +kernel
theorem dL_law_715 : decode cL_law 715 = .ok (.invokevirtual 110, 3) := by decide +kernel
theorem dL_law_718 : decode cL_law 718 = .ok (.aload_n 2, 1) := by decide +kernel
theorem dL_law_719 : decode cL_law 719 = .ok (.aload_n 0, 1) := by decide +kernel
theorem dL_law_720 : decode cL_law 720 = .ok (.iload_n 3, 1) := by decide +kernel
theorem dL_law_721 : decode cL_law 721 = .ok (.iconst 1, 1) := by decide +kernel
theorem dL_law_722 : decode cL_law 722 = .ok (.iadd, 1) := by decide +kernel
theorem dL_law_723 : decode cL_law 723 = .ok (.iaload, 1) := by decide +kernel
theorem dL_law_724 : decode cL_law 724 = .ok (.invokevirtual 113, 3) := by decide +kernel
theorem dL_law_727 : decode cL_law 727 = .ok (.if_icmp .eq 498, 3) := by decide +kernel
theorem dL_law_730 : decode cL_law 730 = .ok (.iconst 0, 1) := by decide +kernel
theorem dL_law_731 : decode cL_law 731 = .ok (.ireturn, 1) := by decide +kernel
theorem dL_law_732 : decode cL_law 732 = .ok (.aload_n 1, 1) := by decide +kernel
theorem dL_law_733 : decode cL_law 733 = .ok (.invokevirtual 114, 3) := by decide +kernel
theorem dL_law_736 : decode cL_law 736 = .ok (.aload_n 2, 1) := by decide +kernel
theorem dL_law_737 : decode cL_law 737 = .ok (.invokevirtual 117, 3) := by decide +kernel
theorem dL_law_740 : decode cL_law 740 = .ok (.if_icmp .eq 485, 3) := by decide +kernel
theorem dL_law_743 : decode cL_law 743 = .ok (.iconst 0, 1) := by decide +kernel
theorem dL_law_744 : decode cL_law 744 = .ok (.ireturn, 1) := by decide +kernel
theorem dL_law_745 : decode cL_law 745 = .ok (.aload_n 1, 1) := by decide +kernel
theorem dL_law_746 : decode cL_law 746 = .ok (.aload_n 0, 1) := by decide +kernel
theorem dL_law_747 : decode cL_law 747 = .ok (.iload_n 3, 1) := by decide +kernel
theorem dL_law_748 : decode cL_law 748 = .ok (.iconst 1, 1) := by decide +kernel
theorem dL_law_749 : decode cL_law 749 = .ok (.iadd, 1) := by decide +kernel
theorem dL_law_750 : decode cL_law 750 = .ok (.iaload, 1) := by decide +kernel
theorem dL_law_751 : decode cL_law 751 = .ok (.invokevirtual 118, 3) := by decide +kernel
theorem dL_law_754 : decode cL_law 754 = .ok (.aload_n 2, 1) := by decide +kernel
theorem dL_law_755 : decode cL_law 755 = .ok (.aload_n 0, 1) := by decide +kernel
theorem dL_law_756 : decode cL_law 756 = .ok (.iload_n 3, 1) := by decide +kernel
theorem dL_law_757 : decode cL_law 757 = .ok (.iconst 1, 1) := by decide +kernel
theorem dL_law_758 : decode cL_law 758 = .ok (.iadd, 1) := by decide +kernel
theorem dL_law_759 : decode cL_law 759 = .ok (.iaload, 1) := by decide +kernel
theorem dL_law_760 : decode cL_law 760 = .ok (.invokevirtual 121, 3) := by decide +kernel
theorem dL_law_763 : decode cL_law 763 = .ok (.if_icmp .eq 462, 3) := by decide +kernel
theorem dL_law_766 : decode cL_law 766 = .ok (.iconst 0, 1) := by decide +kernel
theorem dL_law_767 : decode cL_law 767 = .ok (.ireturn, 1) := by decide +kernel
theorem dL_law_768 : decode cL_law 768 = .ok (.aload_n 1, 1) := by decide +kernel
theorem dL_law_769 : decode cL_law 769 = .ok (.aload_n 0, 1) := by decide +kernel
theorem dL_law_770 : decode cL_law 770 = .ok (.iload_n 3, 1) := by decide +kernel
theorem dL_law_771 : decode cL_law 771 = .ok (.iconst 1, 1) := by decide +kernel
theorem dL_law_772 : decode cL_law 772 = .ok (.iadd, 1) := by decide +kernel
theorem dL_law_773 : decode cL_law 773 = .ok (.iaload, 1) := by decide +kernel
theorem dL_law_774 : decode cL_law 774 = .ok (.invokevirtual 122, 3) := by decide +kernel
theorem dL_law_777 : decode cL_law 777 = .ok (.aload_n 2, 1) := by decide +kernel
theorem dL_law_778 : decode cL_law 778 = .ok (.aload_n 0, 1) := by decide +kernel
theorem dL_law_779 : decode cL_law 779 = .ok (.iload_n 3, 1) := by decide +kernel
theorem dL_law_780 : decode cL_law 780 = .ok (.iconst 1, 1) := by decide +kernel
theorem dL_law_781 : decode cL_law 781 = .ok (.iadd, 1) := by decide +kernel
theorem dL_law_782 : decode cL_law 782 = .ok (.iaload, 1) := by decide +kernel
theorem dL_law_783 : decode cL_law 783 = .ok (.invokevirtual 125, 3) := by decide +kernel
theorem dL_law_786 : decode cL_law 786 = .ok (.if_icmp .eq 439, 3) := by decide +kernel
theorem dL_law_789 : decode cL_law 789 = .ok (.iconst 0, 1) := by decide +kernel
theorem dL_law_790 : decode cL_law 790 = .ok (.ireturn, 1) := by decide +kernel
theorem dL_law_791 : decode cL_law 791 = .ok (.aload_n 1, 1) := by decide +kernel
theorem dL_law_792 : decode cL_law 792 = .ok (.aload_n 0, 1) := by decide +kernel
theorem dL_law_793 : decode cL_law 793 = .ok (.iload_n 3, 1) := by decide +kernel
theorem dL_law_794 : decode cL_law 794 = .ok (.iconst 1, 1) := by decide +kernel
theorem dL_law_795 : decode cL_law 795 = .ok (.iadd, 1) := by decide +kernel
theorem dL_law_796 : decode cL_law 796 = .ok (.iaload, 1) := by decide +kernel
theorem dL_law_797 : decode cL_law 797 = .ok (.aload_n 0, 1) := by decide +kernel
theorem dL_law_798 : decode cL_law 798 = .ok (.iload_n 3, 1) := by decide +kernel
theorem dL_law_799 : decode cL_law 799 = .ok (.iconst 2, 1) := by decide +kernel
theorem dL_law_800 : decode cL_law 800 = .ok (.iadd, 1) := by decide +kernel
theorem dL_law_801 : decode cL_law 801 = .ok (.iaload, 1) := by decide +kernel
theorem dL_law_802 : decode cL_law 802 = .ok (.invokevirtual 126, 3) := by decide +kernel
theorem dL_law_805 : decode cL_law 805 = .ok (.aload_n 2, 1) := by decide +kernel
theorem dL_law_806 : decode cL_law 806 = .ok (.aload_n 0, 1) := by decide +kernel
theorem dL_law_807 : decode cL_law 807 = .ok (.iload_n 3, 1) := by decide +kernel
theorem dL_law_808 : decode cL_law 808 = .ok (.iconst 1, 1) := by decide +kernel
theorem dL_law_809 : decode cL_law 809 = .ok (.iadd, 1) := by decide +kernel
theorem dL_law_810 : decode cL_law 810 = .ok (.iaload, 1) := by decide +kernel
theorem dL_law_811 : decode cL_law 811 = .ok (.aload_n 0, 1) := by decide +kernel
theorem dL_law_812 : decode cL_law 812 = .ok (.iload_n 3, 1) := by decide +kernel
theorem dL_law_813 : decode cL_law 813 = .ok (.iconst 2, 1) := by decide +kernel
theorem dL_law_814 : decode cL_law 814 = .ok (.iadd, 1) := by decide +kernel
theorem dL_law_815 : decode cL_law 815 = .ok (.iaload, 1) := by decide +kernel
theorem dL_law_816 : decode cL_law 816 = .ok (.invokevirtual 129, 3) := by decide +kernel
theorem dL_law_819 : decode cL_law 819 = .ok (.if_icmp .eq 406, 3) := by decide +kernel
theorem dL_law_822 : decode cL_law 822 = .ok (.iconst 0, 1) := by decide +kernel
theorem dL_law_823 : decode cL_law 823 = .ok (.ireturn, 1) := by decide +kernel
theorem dL_law_824 : decode cL_law 824 = .ok (.aload_n 1, 1) := by decide +kernel
theorem dL_law_825 : decode cL_law 825 = .ok (.aload_n 0, 1) := by decide +kernel
theorem dL_law_826 : decode cL_law 826 = .ok (.iload_n 3, 1) := by decide +kernel
theorem dL_law_827 : decode cL_law 827 = .ok (.iconst 1, 1) := by decide +kernel
theorem dL_law_828 : decode cL_law 828 = .ok (.iadd, 1) := by decide +kernel
theorem dL_law_829 : decode cL_law 829 = .ok (.iaload, 1) := by decide +kernel
theorem dL_law_830 : decode cL_law 830 = .ok (.aload_n 0, 1) := by decide +kernel
theorem dL_law_831 : decode cL_law 831 = .ok (.iload_n 3, 1) := by decide +kernel
theorem dL_law_832 : decode cL_law 832 = .ok (.iconst 2, 1) := by decide +kernel
theorem dL_law_833 : decode cL_law 833 = .ok (.iadd, 1) := by decide +kernel
theorem dL_law_834 : decode cL_law 834 = .ok (.iaload, 1) := by decide +kernel
theorem dL_law_835 : decode cL_law 835 = .ok (.invokevirtual 130, 3) := by decide +kernel
theorem dL_law_838 : decode cL_law 838 = .ok (.aload_n 2, 1) := by decide +kernel
theorem dL_law_839 : decode cL_law 839 = .ok (.aload_n 0, 1) := by decide +kernel
theorem dL_law_840 : decode cL_law 840 = .ok (.iload_n 3, 1) := by decide +kernel
theorem dL_law_841 : decode cL_law 841 = .ok (.iconst 1, 1) := by decide +kernel
theorem dL_law_842 : decode cL_law 842 = .ok (.iadd, 1) := by decide +kernel
theorem dL_law_843 : decode cL_law 843 = .ok (.iaload, 1) := by decide +kernel
theorem dL_law_844 : decode cL_law 844 = .ok (.aload_n 0, 1) := by decide +kernel
theorem dL_law_845 : decode cL_law 845 = .ok (.iload_n 3, 1) := by decide +kernel
theorem dL_law_846 : decode cL_law 846 = .ok (.iconst 2, 1) := by decide +kernel
theorem dL_law_847 : decode cL_law 847 = .ok (.iadd, 1) := by decide +kernel
theorem dL_law_848 : decode cL_law 848 = .ok (.iaload, 1) := by decide +kernel
theorem dL_law_849 : decode cL_law 849 = .ok (.invokevirtual 133, 3) := by decide +kernel
theorem dL_law_852 : decode cL_law 852 = .ok (.if_icmp .eq 373, 3) := by decide +kernel
theorem dL_law_855 : decode cL_law 855 = .ok (.iconst 0, 1) := by decide +kernel
theorem dL_law_856 : decode cL_law 856 = .ok (.ireturn, 1) := by decide +kernel
theorem dL_law_857 : decode cL_law 857 = .ok (.aload_n 1, 1) := by decide +kernel
theorem dL_law_858 : decode cL_law 858 = .ok (.aload_n 0, 1) := by decide +kernel
theorem dL_law_859 : decode cL_law 859 = .ok (.iload_n 3, 1) := by decide +kernel
theorem dL_law_860 : decode cL_law 860 = .ok (.iconst 1, 1) := by decide +kernel
theorem dL_law_861 : decode cL_law 861 = .ok (.iadd, 1) := by decide +kernel
theorem dL_law_862 : decode cL_law 862 = .ok (.iaload, 1) := by decide +kernel
theorem dL_law_863 : decode cL_law 863 = .ok (.invokevirtual 134, 3) := by decide +kernel
theorem dL_law_866 : decode cL_law 866 = .ok (.aload_n 2, 1) := by decide +kernel
theorem dL_law_867 : decode cL_law 867 = .ok (.aload_n 0, 1) := by decide +kernel
theorem dL_law_868 : decode cL_law 868 = .ok (.iload_n 3, 1) := by decide +kernel
theorem dL_law_869 : decode cL_law 869 = .ok (.iconst 1, 1) := by decide +kernel
theorem dL_law_870 : decode cL_law 870 = .ok (.iadd, 1) := by decide +kernel
theorem dL_law_871 : decode cL_law 871 = .ok (.iaload, 1) := by decide +kernel
theorem dL_law_872 : decode cL_law 872 = .ok (.invokevirtual 137, 3) := by decide +kernel
theorem dL_law_875 : decode cL_law 875 = .ok (.if_icmp .eq 350, 3) := by decide +kernel
theorem dL_law_878 : decode cL_law 878 = .ok (.iconst 0, 1) := by decide +kernel
theorem dL_law_879 : decode cL_law 879 = .ok (.ireturn, 1) := by decide +kernel
theorem dL_law_880 : decode cL_law 880 = .ok (.aload_n 1, 1) := by decide +kernel
theorem dL_law_881 : decode cL_law 881 = .ok (.aload_n 0, 1) := by decide +kernel
theorem dL_law_882 : decode cL_law 882 = .ok (.iload_n 3, 1) := by decide +kernel
theorem dL_law_883 : decode cL_law 883 = .ok (.iconst 1, 1) := by decide +kernel
theorem dL_law_884 : decode cL_law 884 = .ok (.iadd, 1) := by decide +kernel
theorem dL_law_885 : decode cL_law 885 = .ok (.iaload, 1) := by decide +kernel
theorem dL_law_886 : decode cL_law 886 = .ok (.invokevirtual 138, 3) := by decide +kernel
theorem dL_law_889 : decode cL_law 889 = .ok (.aload_n 2, 1) := by decide +kernel
theorem dL_law_890 : decode cL_law 890 = .ok (.aload_n 0, 1) := by decide +kernel
theorem dL_law_891 : decode cL_law 891 = .ok (.iload_n 3, 1) := by decide +kernel
theorem dL_law_892 : decode cL_law 892 = .ok (.iconst 1, 1) := by decide +kernel
theorem dL_law_893 : decode cL_law 893 = .ok (.iadd, 1) := by decide +kernel
theorem dL_law_894 : decode cL_law 894 = .ok (.iaload, 1) := by decide +kernel
theorem dL_law_895 : decode cL_law 895 = .ok (.invokevirtual 141, 3) := by decide +kernel
theorem dL_law_898 : decode cL_law 898 = .ok (.if_icmp .eq 327, 3) := by decide +kernel
theorem dL_law_901 : decode cL_law 901 = .ok (.iconst 0, 1) := by decide +kernel
theorem dL_law_902 : decode cL_law 902 = .ok (.ireturn, 1) := by decide +kernel
theorem dL_law_903 : decode cL_law 903 = .ok (.aload_n 1, 1) := by decide +kernel
theorem dL_law_904 : decode cL_law 904 = .ok (.aload_n 0, 1) := by decide +kernel
theorem dL_law_905 : decode cL_law 905 = .ok (.iload_n 3, 1) := by decide +kernel
theorem dL_law_906 : decode cL_law 906 = .ok (.iconst 1, 1) := by decide +kernel
theorem dL_law_907 : decode cL_law 907 = .ok (.iadd, 1) := by decide +kernel
theorem dL_law_908 : decode cL_law 908 = .ok (.iaload, 1) := by decide +kernel
theorem dL_law_909 : decode cL_law 909 = .ok (.invokevirtual 142, 3) := by decide +kernel
theorem dL_law_912 : decode cL_law 912 = .ok (.aload_n 2, 1) := by decide +kernel
theorem dL_law_913 : decode cL_law 913 = .ok (.aload_n 0, 1) := by decide +kernel
theorem dL_law_914 : decode cL_law 914 = .ok (.iload_n 3, 1) := by decide +kernel
theorem dL_law_915 : decode cL_law 915 = .ok (.iconst 1, 1) := by decide +kernel
theorem dL_law_916 : decode cL_law 916 = .ok (.iadd, 1) := by decide +kernel
theorem dL_law_917 : decode cL_law 917 = .ok (.iaload, 1) := by decide +kernel
theorem dL_law_918 : decode cL_law 918 = .ok (.invokevirtual 145, 3) := by decide +kernel
theorem dL_law_921 : decode cL_law 921 = .ok (.if_icmp .eq 304, 3) := by decide +kernel
theorem dL_law_924 : decode cL_law 924 = .ok (.iconst 0, 1) := by decide +kernel
theorem dL_law_925 : decode cL_law 925 = .ok (.ireturn, 1) := by decide +kernel
theorem dL_law_926 : decode cL_law 926 = .ok (.aload_n 1, 1) := by decide +kernel
theorem dL_law_927 : decode cL_law 927 = .ok (.invokevirtual 146, 3) := by decide +kernel
theorem dL_law_930 : decode cL_law 930 = .ok (.aload_n 2, 1) := by decide +kernel
theorem dL_law_931 : decode cL_law 931 = .ok (.invokevirtual 149, 3) := by decide +kernel
theorem dL_law_934 : decode cL_law 934 = .ok (.if_icmp .eq 291, 3) := by decide +kernel
theorem dL_law_937 : decode cL_law 937 = .ok (.iconst 0, 1) := by decide +kernel
theorem dL_law_938 : decode cL_law 938 = .ok (.ireturn, 1) := by decide +kernel
theorem dL_law_939 : decode cL_law 939 = .ok (.aload_n 1, 1) := by decide +kernel
theorem dL_law_940 : decode cL_law 940 = .ok (.aload_n 0, 1) := by decide +kernel
theorem dL_law_941 : decode cL_law 941 = .ok (.iload_n 3, 1) := by decide +kernel
theorem dL_law_942 : decode cL_law 942 = .ok (.iconst 1, 1) := by decide +kernel
theorem dL_law_943 : decode cL_law 943 = .ok (.iadd, 1) := by decide +kernel
theorem dL_law_944 : decode cL_law 944 = .ok (.iaload, 1) := by decide +kernel
theorem dL_law_945 : decode cL_law 945 = .ok (.invokevirtual 150, 3) := by decide +kernel
theorem dL_law_948 : decode cL_law 948 = .ok (.aload_n 2, 1) := by decide +kernel
theorem dL_law_949 : decode cL_law 949 = .ok (.aload_n 0, 1) := by decide +kernel
theorem dL_law_950 : decode cL_law 950 = .ok (.iload_n 3, 1) := by decide +kernel
theorem dL_law_951 : decode cL_law 951 = .ok (.iconst 1, 1) := by decide +kernel
theorem dL_law_952 : decode cL_law 952 = .ok (.iadd, 1) := by decide +kernel
theorem dL_law_953 : decode cL_law 953 = .ok (.iaload, 1) := by decide +kernel
theorem dL_law_954 : decode cL_law 954 = .ok (.invokevirtual 153, 3) := by decide +kernel
theorem dL_law_957 : decode cL_law 957 = .ok (.if_icmp .eq 268, 3) := by decide +kernel
theorem dL_law_960 : decode cL_law 960 = .ok (.iconst 0, 1) := by decide +kernel
theorem dL_law_961 : decode cL_law 961 = .ok (.ireturn, 1) := by decide +kernel
theorem dL_law_962 : decode cL_law 962 = .ok (.aload_n 1, 1) := by decide +kernel
theorem dL_law_963 : decode cL_law 963 = .ok (.aload_n 0, 1) := by decide +kernel
theorem dL_law_964 : decode cL_law 964 = .ok (.iload_n 3, 1) := by decide +kernel
theorem dL_law_965 : decode cL_law 965 = .ok (.iconst 1, 1) := by decide +kernel
theorem dL_law_966 : decode cL_law 966 = .ok (.iadd, 1) := by decide +kernel
theorem dL_law_967 : decode cL_law 967 = .ok (.iaload, 1) := by decide +kernel
theorem dL_law_968 : decode cL_law 968 = .ok (.aload_n 0, 1) := by decide +kernel
theorem dL_law_969 : decode cL_law 969 = .ok (.iload_n 3, 1) := by decide +kernel
theorem dL_law_970 : decode cL_law 970 = .ok (.iconst 2, 1) := by decide +kernel
theorem dL_law_971 : decode cL_law 971 = .ok (.iadd, 1) := by decide +kernel
theorem dL_law_972 : decode cL_law 972 = .ok (.iaload, 1) := by decide +kernel
theorem dL_law_973 : decode cL_law 973 = .ok (.aload_n 0, 1) := by decide +kernel
theorem dL_law_974 : decode cL_law 974 = .ok (.iload_n 3, 1) := by decide +kernel
theorem dL_law_975 : decode cL_law 975 = .ok (.iconst 3, 1) := by decide +kernel
theorem dL_law_976 : decode cL_law 976 = .ok (.iadd, 1) := by decide +kernel
theorem dL_law_977 : decode cL_law 977 = .ok (.iaload, 1) := by decide +kernel
theorem dL_law_978 : decode cL_law 978 = .ok (.ifCond .eq 7, 3) := by decide +kernel
theorem dL_law_981 : decode cL_law 981 = .ok (.iconst 1, 1) := by decide +kernel
theorem dL_law_982 : decode cL_law 982 = .ok (.goto 4, 3) := by decide +kernel
theorem dL_law_985 : decode cL_law 985 = .ok (.iconst 0, 1) := by decide +kernel
theorem dL_law_986 : decode cL_law 986 = .ok (.invokevirtual 154, 3) := by decide +kernel
theorem dL_law_989 : decode cL_law 989 = .ok (.aload_n 2, 1) := by decide +kernel
theorem dL_law_990 : decode cL_law 990 = .ok (.aload_n 0, 1) := by decide +kernel
theorem dL_law_991 : decode cL_law 991 = .ok (.iload_n 3, 1) := by decide +kernel
theorem dL_law_992 : decode cL_law 992 = .ok (.iconst 1, 1) := by decide +kernel
theorem dL_law_993 : decode cL_law 993 = .ok (.iadd, 1) := by decide +kernel
theorem dL_law_994 : decode cL_law 994 = .ok (.iaload, 1) := by decide +kernel
theorem dL_law_995 : decode cL_law 995 = .ok (.aload_n 0, 1) := by decide +kernel
theorem dL_law_996 : decode cL_law 996 = .ok (.iload_n 3, 1) := by decide +kernel
theorem dL_law_997 : decode cL_law 997 = .ok (.iconst 2, 1) := by decide +kernel
theorem dL_law_998 : decode cL_law 998 = .ok (.iadd, 1) := by decide +kernel
theorem dL_law_999 : decode cL_law 999 = .ok (.iaload, 1) := by decide +kernel
theorem dL_law_1000 : decode cL_law 1000 = .ok (.aload_n 0, 1) := by decide +kernel
theorem dL_law_1001 : decode cL_law 1001 = .ok (.iload_n 3, 1) := by decide +kernel
theorem dL_law_1002 : decode cL_law 1002 = .ok (.iconst 3, 1) := by decide +kernel
theorem dL_law_1003 : decode cL_law 1003 = .ok (.iadd, 1) := by decide +kernel
theorem dL_law_1004 : decode cL_law 1004 = .ok (.iaload, 1) := by decide +kernel
theorem dL_law_1005 : decode cL_law 1005 = .ok (.ifCond .eq 7, 3) := by decide +kernel
theorem dL_law_1008 : decode cL_law 1008 = .ok (.iconst 1, 1) := by decide +kernel
theorem dL_law_1009 : decode cL_law 1009 = .ok (.goto 4, 3) := by decide +kernel
theorem dL_law_1012 : decode cL_law 1012 = .ok (.iconst 0, 1) := by decide +kernel
theorem dL_law_1013 : decode cL_law 1013 = .ok (.invokevirtual 158, 3) := by decide +kernel
theorem dL_law_1016 : decode cL_law 1016 = .ok (.if_icmp .eq 209, 3) := by decide +kernel
theorem dL_law_1019 : decode cL_law 1019 = .ok (.iconst 0, 1) := by decide +kernel
theorem dL_law_1020 : decode cL_law 1020 = .ok (.ireturn, 1) := by decide +kernel
theorem dL_law_1021 : decode cL_law 1021 = .ok (.aload_n 1, 1) := by decide +kernel
theorem dL_law_1022 : decode cL_law 1022 = .ok (.aload_n 0, 1) := by decide +kernel
theorem dL_law_1023 : decode cL_law 1023 = .ok (.iload_n 3, 1) := by decide +kernel
theorem dL_law_1024 : decode cL_law 1024 = .ok (.iconst 1, 1) := by decide +kernel
theorem dL_law_1025 : decode cL_law 1025 = .ok (.iadd, 1) := by decide +kernel
theorem dL_law_1026 : decode cL_law 1026 = .ok (.iaload, 1) := by decide +kernel
theorem dL_law_1027 : decode cL_law 1027 = .ok (.invokevirtual 159, 3) := by decide +kernel
theorem dL_law_1030 : decode cL_law 1030 = .ok (.aload_n 2, 1) := by decide +kernel
theorem dL_law_1031 : decode cL_law 1031 = .ok (.aload_n 0, 1) := by decide +kernel
theorem dL_law_1032 : decode cL_law 1032 = .ok (.iload_n 3, 1) := by decide +kernel
theorem dL_law_1033 : decode cL_law 1033 = .ok (.iconst 1, 1) := by decide +kernel
theorem dL_law_1034 : decode cL_law 1034 = .ok (.iadd, 1) := by decide +kernel
theorem dL_law_1035 : decode cL_law 1035 = .ok (.iaload, 1) := by decide +kernel
theorem dL_law_1036 : decode cL_law 1036 = .ok (.invokevirtual 163, 3) := by decide +kernel
theorem dL_law_1039 : decode cL_law 1039 = .ok (.if_icmp .eq 186, 3) := by decide +kernel
theorem dL_law_1042 : decode cL_law 1042 = .ok (.iconst 0, 1) := by decide +kernel
theorem dL_law_1043 : decode cL_law 1043 = .ok (.ireturn, 1) := by decide +kernel
theorem dL_law_1044 : decode cL_law 1044 = .ok (.aload_n 1, 1) := by decide +kernel
theorem dL_law_1045 : decode cL_law 1045 = .ok (.aload_n 0, 1) := by decide +kernel
theorem dL_law_1046 : decode cL_law 1046 = .ok (.iload_n 3, 1) := by decide +kernel
theorem dL_law_1047 : decode cL_law 1047 = .ok (.iconst 1, 1) := by decide +kernel
theorem dL_law_1048 : decode cL_law 1048 = .ok (.iadd, 1) := by decide +kernel
theorem dL_law_1049 : decode cL_law 1049 = .ok (.iaload, 1) := by decide +kernel
theorem dL_law_1050 : decode cL_law 1050 = .ok (.invokevirtual 164, 3) := by decide +kernel
theorem dL_law_1053 : decode cL_law 1053 = .ok (.aload_n 2, 1) := by decide +kernel
theorem dL_law_1054 : decode cL_law 1054 = .ok (.aload_n 0, 1) := by decide +kernel
theorem dL_law_1055 : decode cL_law 1055 = .ok (.iload_n 3, 1) := by decide +kernel
theorem dL_law_1056 : decode cL_law 1056 = .ok (.iconst 1, 1) := by decide +kernel
theorem dL_law_1057 : decode cL_law 1057 = .ok (.iadd, 1) := by decide +kernel
theorem dL_law_1058 : decode cL_law 1058 = .ok (.iaload, 1) := by decide +kernel
theorem dL_law_1059 : decode cL_law 1059 = .ok (.invokevirtual 167, 3) := by decide +kernel
theorem dL_law_1062 : decode cL_law 1062 = .ok (.if_icmp .eq 163, 3) := by decide +kernel
theorem dL_law_1065 : decode cL_law 1065 = .ok (.iconst 0, 1) := by decide +kernel
theorem dL_law_1066 : decode cL_law 1066 = .ok (.ireturn, 1) := by decide +kernel
theorem dL_law_1067 : decode cL_law 1067 = .ok (.aload_n 1, 1) := by decide +kernel
theorem dL_law_1068 : decode cL_law 1068 = .ok (.aload_n 0, 1) := by decide +kernel
theorem dL_law_1069 : decode cL_law 1069 = .ok (.iload_n 3, 1) := by decide +kernel
theorem dL_law_1070 : decode cL_law 1070 = .ok (.iconst 1, 1) := by decide +kernel
theorem dL_law_1071 : decode cL_law 1071 = .ok (.iadd, 1) := by decide +kernel
theorem dL_law_1072 : decode cL_law 1072 = .ok (.iaload, 1) := by decide +kernel
theorem dL_law_1073 : decode cL_law 1073 = .ok (.invokevirtual 168, 3) := by decide +kernel
theorem dL_law_1076 : decode cL_law 1076 = .ok (.aload_n 2, 1) := by decide +kernel
theorem dL_law_1077 : decode cL_law 1077 = .ok (.aload_n 0, 1) := by decide +kernel
theorem dL_law_1078 : decode cL_law 1078 = .ok (.iload_n 3, 1) := by decide +kernel
theorem dL_law_1079 : decode cL_law 1079 = .ok (.iconst 1, 1) := by decide +kernel
theorem dL_law_1080 : decode cL_law 1080 = .ok (.iadd, 1) := by decide +kernel
theorem dL_law_1081 : decode cL_law 1081 = .ok (.iaload, 1) := by decide +kernel
theorem dL_law_1082 : decode cL_law 1082 = .ok (.invokevirtual 171, 3) := by decide +kernel
theorem dL_law_1085 : decode cL_law 1085 = .ok (.if_icmp .eq 140, 3) := by decide +kernel
theorem dL_law_1088 : decode cL_law 1088 = .ok (.iconst 0, 1) := by decide +kernel
theorem dL_law_1089 : decode cL_law 1089 = .ok (.ireturn, 1) := by decide +kernel
theorem dL_law_1090 : decode cL_law 1090 = .ok (.aload_n 1, 1) := by decide +kernel
theorem dL_law_1091 : decode cL_law 1091 = .ok (.aload_n 0, 1) := by decide +kernel
theorem dL_law_1092 : decode cL_law 1092 = .ok (.iload_n 3, 1) := by decide +kernel
theorem dL_law_1093 : decode cL_law 1093 = .ok (.iconst 1, 1) := by decide +kernel
theorem dL_law_1094 : decode cL_law 1094 = .ok (.iadd, 1) := by decide +kernel
theorem dL_law_1095 : decode cL_law 1095 = .ok (.iaload, 1) := by decide +kernel
theorem dL_law_1096 : decode cL_law 1096 = .ok (.aload_n 0, 1) := by decide +kernel
theorem dL_law_1097 : decode cL_law 1097 = .ok (.iload_n 3, 1) := by decide +kernel
theorem dL_law_1098 : decode cL_law 1098 = .ok (.iconst 2, 1) := by decide +kernel
theorem dL_law_1099 : decode cL_law 1099 = .ok (.iadd, 1) := by decide +kernel
theorem dL_law_1100 : decode cL_law 1100 = .ok (.iaload, 1) := by decide +kernel
theorem dL_law_1101 : decode cL_law 1101 = .ok (.invokevirtual 172, 3) := by decide +kernel
theorem dL_law_1104 : decode cL_law 1104 = .ok (.aload_n 2, 1) := by decide +kernel
theorem dL_law_1105 : decode cL_law 1105 = .ok (.aload_n 0, 1) := by decide +kernel
theorem dL_law_1106 : decode cL_law 1106 = .ok (.iload_n 3, 1) := by decide +kernel
theorem dL_law_1107 : decode cL_law 1107 = .ok (.iconst 1, 1) := by decide +kernel
theorem dL_law_1108 : decode cL_law 1108 = .ok (.iadd, 1) := by decide +kernel
theorem dL_law_1109 : decode cL_law 1109 = .ok (.iaload, 1) := by decide +kernel
theorem dL_law_1110 : decode cL_law 1110 = .ok (.aload_n 0, 1) := by decide +kernel
theorem dL_law_1111 : decode cL_law 1111 = .ok (.iload_n 3, 1) := by decide +kernel
theorem dL_law_1112 : decode cL_law 1112 = .ok (.iconst 2, 1) := by decide +kernel
theorem dL_law_1113 : decode cL_law 1113 = .ok (.iadd, 1) := by decide +kernel
theorem dL_law_1114 : decode cL_law 1114 = .ok (.iaload, 1) := by decide +kernel
theorem dL_law_1115 : decode cL_law 1115 = .ok (.invokevirtual 175, 3) := by decide +kernel
theorem dL_law_1118 : decode cL_law 1118 = .ok (.if_icmp .eq 107, 3) := by decide +kernel
theorem dL_law_1121 : decode cL_law 1121 = .ok (.iconst 0, 1) := by decide +kernel
theorem dL_law_1122 : decode cL_law 1122 = .ok (.ireturn, 1) := by decide +kernel
theorem dL_law_1123 : decode cL_law 1123 = .ok (.aload_n 1, 1) := by decide +kernel
theorem dL_law_1124 : decode cL_law 1124 = .ok (.aload_n 0, 1) := by decide +kernel
theorem dL_law_1125 : decode cL_law 1125 = .ok (.iload_n 3, 1) := by decide +kernel
theorem dL_law_1126 : decode cL_law 1126 = .ok (.iconst 1, 1) := by decide +kernel
theorem dL_law_1127 : decode cL_law 1127 = .ok (.iadd, 1) := by decide +kernel
theorem dL_law_1128 : decode cL_law 1128 = .ok (.iaload, 1) := by decide +kernel
theorem dL_law_1129 : decode cL_law 1129 = .ok (.aload_n 0, 1) := by decide +kernel
theorem dL_law_1130 : decode cL_law 1130 = .ok (.iload_n 3, 1) := by decide +kernel
theorem dL_law_1131 : decode cL_law 1131 = .ok (.iconst 2, 1) := by decide +kernel
theorem dL_law_1132 : decode cL_law 1132 = .ok (.iadd, 1) := by decide +kernel
theorem dL_law_1133 : decode cL_law 1133 = .ok (.iaload, 1) := by decide +kernel
theorem dL_law_1134 : decode cL_law 1134 = .ok (.invokevirtual 176, 3) := by decide +kernel
theorem dL_law_1137 : decode cL_law 1137 = .ok (.aload_n 2, 1) := by decide +kernel
theorem dL_law_1138 : decode cL_law 1138 = .ok (.aload_n 0, 1) := by decide +kernel
theorem dL_law_1139 : decode cL_law 1139 = .ok (.iload_n 3, 1) := by decide +kernel
theorem dL_law_1140 : decode cL_law 1140 = .ok (.iconst 1, 1) := by decide +kernel
theorem dL_law_1141 : decode cL_law 1141 = .ok (.iadd, 1) := by decide +kernel
theorem dL_law_1142 : decode cL_law 1142 = .ok (.iaload, 1) := by decide +kernel
theorem dL_law_1143 : decode cL_law 1143 = .ok (.aload_n 0, 1) := by decide +kernel
theorem dL_law_1144 : decode cL_law 1144 = .ok (.iload_n 3, 1) := by decide +kernel
theorem dL_law_1145 : decode cL_law 1145 = .ok (.iconst 2, 1) := by decide +kernel
theorem dL_law_1146 : decode cL_law 1146 = .ok (.iadd, 1) := by decide +kernel
theorem dL_law_1147 : decode cL_law 1147 = .ok (.iaload, 1) := by decide +kernel
theorem dL_law_1148 : decode cL_law 1148 = .ok (.invokevirtual 179, 3) := by decide +kernel
theorem dL_law_1151 : decode cL_law 1151 = .ok (.if_icmp .eq 74, 3) := by decide +kernel
theorem dL_law_1154 : decode cL_law 1154 = .ok (.iconst 0, 1) := by decide +kernel
theorem dL_law_1155 : decode cL_law 1155 = .ok (.ireturn, 1) := by decide +kernel
theorem dL_law_1156 : decode cL_law 1156 = .ok (.aload_n 1, 1) := by decide +kernel
theorem dL_law_1157 : decode cL_law 1157 = .ok (.aload_n 0, 1) := by decide +kernel
theorem dL_law_1158 : decode cL_law 1158 = .ok (.iload_n 3, 1) := by decide +kernel
theorem dL_law_1159 : decode cL_law 1159 = .ok (.iconst 1, 1) := by decide +kernel
theorem dL_law_1160 : decode cL_law 1160 = .ok (.iadd, 1) := by decide +kernel
theorem dL_law_1161 : decode cL_law 1161 = .ok (.iaload, 1) := by decide +kernel
theorem dL_law_1162 : decode cL_law 1162 = .ok (.invokevirtual 180, 3) := by decide +kernel
theorem dL_law_1165 : decode cL_law 1165 = .ok (.aload_n 2, 1) := by decide +kernel
theorem dL_law_1166 : decode cL_law 1166 = .ok (.aload_n 0, 1) := by decide +kernel
theorem dL_law_1167 : decode cL_law 1167 = .ok (.iload_n 3, 1) := by decide +kernel
theorem dL_law_1168 : decode cL_law 1168 = .ok (.iconst 1, 1) := by decide +kernel
theorem dL_law_1169 : decode cL_law 1169 = .ok (.iadd, 1) := by decide +kernel
theorem dL_law_1170 : decode cL_law 1170 = .ok (.iaload, 1) := by decide +kernel
theorem dL_law_1171 : decode cL_law 1171 = .ok (.invokevirtual 183, 3) := by decide +kernel
theorem dL_law_1174 : decode cL_law 1174 = .ok (.if_icmp .eq 51, 3) := by decide +kernel
theorem dL_law_1177 : decode cL_law 1177 = .ok (.iconst 0, 1) := by decide +kernel
theorem dL_law_1178 : decode cL_law 1178 = .ok (.ireturn, 1) := by decide +kernel
theorem dL_law_1179 : decode cL_law 1179 = .ok (.aload_n 1, 1) := by decide +kernel
theorem dL_law_1180 : decode cL_law 1180 = .ok (.aload_n 0, 1) := by decide +kernel
theorem dL_law_1181 : decode cL_law 1181 = .ok (.iload_n 3, 1) := by decide +kernel
theorem dL_law_1182 : decode cL_law 1182 = .ok (.iconst 1, 1) := by decide +kernel
theorem dL_law_1183 : decode cL_law 1183 = .ok (.iadd, 1) := by decide +kernel
theorem dL_law_1184 : decode cL_law 1184 = .ok (.iaload, 1) := by decide +kernel
theorem dL_law_1185 : decode cL_law 1185 = .ok (.invokevirtual 184, 3) := by decide +kernel
theorem dL_law_1188 : decode cL_law 1188 = .ok (.aload_n 2, 1) := by decide +kernel
theorem dL_law_1189 : decode cL_law 1189 = .ok (.aload_n 0, 1) := by decide +kernel
theorem dL_law_1190 : decode cL_law 1190 = .ok (.iload_n 3, 1) := by decide +kernel
theorem dL_law_1191 : decode cL_law 1191 = .ok (.iconst 1, 1) := by decide +kernel
theorem dL_law_1192 : decode cL_law 1192 = .ok (.iadd, 1) := by decide +kernel
theorem dL_law_1193 : decode cL_law 1193 = .ok (.iaload, 1) := by decide +kernel
theorem dL_law_1194 : decode cL_law 1194 = .ok (.invokevirtual 187, 3) := by decide +kernel
theorem dL_law_1197 : decode cL_law 1197 = .ok (.if_icmp .eq 28, 3) := by decide +kernel
theorem dL_law_1200 : decode cL_law 1200 = .ok (.iconst 0, 1) := by decide +kernel
theorem dL_law_1201 : decode cL_law 1201 = .ok (.ireturn, 1) := by decide +kernel
theorem dL_law_1202 : decode cL_law 1202 = .ok (.aload_n 1, 1) := by decide +kernel
theorem dL_law_1203 : decode cL_law 1203 = .ok (.aload_n 0, 1) := by decide +kernel
theorem dL_law_1204 : decode cL_law 1204 = .ok (.iload_n 3, 1) := by decide +kernel
theorem dL_law_1205 : decode cL_law 1205 = .ok (.iconst 1, 1) := by decide +kernel
theorem dL_law_1206 : decode cL_law 1206 = .ok (.iadd, 1) := by decide +kernel
theorem dL_law_1207 : decode cL_law 1207 = .ok (.iaload, 1) := by decide +kernel
theorem dL_law_1208 : decode cL_law 1208 = .ok (.invokevirtual 188, 3) := by decide +kernel
theorem dL_law_1211 : decode cL_law 1211 = .ok (.aload_n 2, 1) := by decide +kernel
theorem dL_law_1212 : decode cL_law 1212 = .ok (.aload_n 0, 1) := by decide +kernel
theorem dL_law_1213 : decode cL_law 1213 = .ok (.iload_n 3, 1) := by decide +kernel
theorem dL_law_1214 : decode cL_law 1214 = .ok (.iconst 1, 1) := by decide +kernel
theorem dL_law_1215 : decode cL_law 1215 = .ok (.iadd, 1) := by decide +kernel
theorem dL_law_1216 : decode cL_law 1216 = .ok (.iaload, 1) := by decide +kernel
theorem dL_law_1217 : decode cL_law 1217 = .ok (.invokevirtual 191, 3) := by decide +kernel
theorem dL_law_1220 : decode cL_law 1220 = .ok (.if_icmp .eq 5, 3) := by decide +kernel
theorem dL_law_1223 : decode cL_law 1223 = .ok (.iconst 0, 1) := by decide +kernel
theorem dL_law_1224 : decode cL_law 1224 = .ok (.ireturn, 1) := by decide +kernel
theorem dL_law_1225 : decode cL_law 1225 = .ok (.iinc 3 6, 3) := by decide +kernel
theorem dL_law_1228 : decode cL_law 1228 = .ok (.goto (-1210), 3) := by decide +kernel
theorem dL_law_1231 : decode cL_law 1231 = .ok (.iconst 1, 1) := by decide +kernel
theorem dL_law_1232 : decode cL_law 1232 = .ok (.ireturn, 1) := by decide +kernel
