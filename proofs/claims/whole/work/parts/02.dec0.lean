theorem dX0_init_0 : decode cX0_init 0 = .ok (.aload_n 0, 1) := by decide +kernel
theorem dX0_init_1 : decode cX0_init 1 = .ok (.invokespecial 3, 3) := by decide +kernel
theorem dX0_init_4 : decode cX0_init 4 = .ok (.aload_n 0, 1) := by decide +kernel
theorem dX0_init_5 : decode cX0_init 5 = .ok (.iconst 0, 1) := by decide +kernel
theorem dX0_init_6 : decode cX0_init 6 = .ok (.putfield 9, 3) := by decide +kernel
theorem dX0_init_9 : decode cX0_init 9 = .ok (.aload_n 0, 1) := by decide +kernel
theorem dX0_init_10 : decode cX0_init 10 = .ok (.iconst 0, 1) := by decide +kernel
theorem dX0_init_11 : decode cX0_init 11 = .ok (.putfield 15, 3) := by decide +kernel
theorem dX0_init_14 : decode cX0_init 14 = .ok (.aload_n 0, 1) := by decide +kernel
theorem dX0_init_15 : decode cX0_init 15 = .ok (.iconst 0, 1) := by decide +kernel
theorem dX0_init_16 : decode cX0_init 16 = .ok (.putfield 18, 3) := by decide +kernel
theorem dX0_init_19 : decode cX0_init 19 = .ok (.aload_n 0, 1) := by decide +kernel
theorem dX0_init_20 : decode cX0_init 20 = .ok (.iconst 0, 1) := by decide +kernel
theorem dX0_init_21 : decode cX0_init 21 = .ok (.putfield 21, 3) := by decide +kernel
theorem dX0_init_24 : decode cX0_init 24 = .ok (.aload_n 0, 1) := by decide +kernel
theorem dX0_init_25 : decode cX0_init 25 = .ok (.iconst 0, 1) := by decide +kernel
theorem dX0_init_26 : decode cX0_init 26 = .ok (.putfield 24, 3) := by decide +kernel
theorem dX0_init_29 : decode cX0_init 29 = .ok (.aload_n 0, 1) := by decide +kernel
theorem dX0_init_30 : decode cX0_init 30 = .ok (.aload_n 1, 1) := by decide +kernel
theorem dX0_init_31 : decode cX0_init 31 = .ok (.putfield 27, 3) := by decide +kernel
theorem dX0_init_34 : decode cX0_init 34 = .ok (.aload_n 0, 1) := by decide +kernel
theorem dX0_init_35 : decode cX0_init 35 = .ok (.aload_n 2, 1) := by decide +kernel
theorem dX0_init_36 : decode cX0_init 36 = .ok (.putfield 31, 3) := by decide +kernel
theorem dX0_init_39 : decode cX0_init 39 = .ok (.aload_n 0, 1) := by decide +kernel
theorem dX0_init_40 : decode cX0_init 40 = .ok (.aload_n 3, 1) := by decide +kernel
theorem dX0_init_41 : decode cX0_init 41 = .ok (.putfield 35, 3) := by decide +kernel
theorem dX0_init_44 : decode cX0_init 44 = .ok (.return_, 1) := by decide +kernel
theorem dX0_duskWithout_0 : decode cX0_duskWithout 0 = .ok (.aload_n 0, 1) := by decide +kernel
theorem dX0_duskWithout_1 : decode cX0_duskWithout 1 = .ok (.getfield 35, 3) := by decide +kernel
theorem dX0_duskWithout_4 : decode cX0_duskWithout 4 = .ok (.getfield 39, 3) := by decide +kernel
theorem dX0_duskWithout_7 : decode cX0_duskWithout 7 = .ok (.aload_n 0, 1) := by decide +kernel
theorem dX0_duskWithout_8 : decode cX0_duskWithout 8 = .ok (.getfield 31, 3) := by decide +kernel
theorem dX0_duskWithout_11 : decode cX0_duskWithout 11 = .ok (.invokevirtual 44, 3) := by decide +kernel
theorem dX0_duskWithout_14 : decode cX0_duskWithout 14 = .ok (.aload_n 0, 1) := by decide +kernel
theorem dX0_duskWithout_15 : decode cX0_duskWithout 15 = .ok (.getfield 35, 3) := by decide +kernel
theorem dX0_duskWithout_18 : decode cX0_duskWithout 18 = .ok (.getfield 39, 3) := by decide +kernel
theorem dX0_duskWithout_21 : decode cX0_duskWithout 21 = .ok (.iload_n 1, 1) := by decide +kernel
theorem dX0_duskWithout_22 : decode cX0_duskWithout 22 = .ok (.iconst 0, 1) := by decide +kernel
theorem dX0_duskWithout_23 : decode cX0_duskWithout 23 = .ok (.iconst 5, 1) := by decide +kernel
theorem dX0_duskWithout_24 : decode cX0_duskWithout 24 = .ok (.invokevirtual 50, 3) := by decide +kernel
theorem dX0_duskWithout_27 : decode cX0_duskWithout 27 = .ok (.aload_n 0, 1) := by decide +kernel
theorem dX0_duskWithout_28 : decode cX0_duskWithout 28 = .ok (.getfield 35, 3) := by decide +kernel
theorem dX0_duskWithout_31 : decode cX0_duskWithout 31 = .ok (.invokevirtual 54, 3) := by decide +kernel
theorem dX0_duskWithout_34 : decode cX0_duskWithout 34 = .ok (.ireturn, 1) := by decide +kernel
theorem dX0_findFirst_0 : decode cX0_findFirst 0 = .ok (.iconst 0, 1) := by decide +kernel
theorem dX0_findFirst_1 : decode cX0_findFirst 1 = .ok (.istore_n 1, 1) := by decide +kernel
theorem dX0_findFirst_2 : decode cX0_findFirst 2 = .ok (.iconst 0, 1) := by decide +kernel
theorem dX0_findFirst_3 : decode cX0_findFirst 3 = .ok (.istore_n 2, 1) := by decide +kernel
theorem dX0_findFirst_4 : decode cX0_findFirst 4 = .ok (.iload_n 2, 1) := by decide +kernel
theorem dX0_findFirst_5 : decode cX0_findFirst 5 = .ok (.aload_n 0, 1) := by decide +kernel
theorem dX0_findFirst_6 : decode cX0_findFirst 6 = .ok (.getfield 27, 3) := by decide +kernel
theorem dX0_findFirst_9 : decode cX0_findFirst 9 = .ok (.getfield 58, 3) := by decide +kernel
theorem dX0_findFirst_12 : decode cX0_findFirst 12 = .ok (.if_icmp .ge 78, 3) := by decide +kernel
theorem dX0_findFirst_15 : decode cX0_findFirst 15 = .ok (.aload_n 0, 1) := by decide +kernel
theorem dX0_findFirst_16 : decode cX0_findFirst 16 = .ok (.getfield 31, 3) := by decide +kernel
theorem dX0_findFirst_19 : decode cX0_findFirst 19 = .ok (.iload_n 2, 1) := by decide +kernel
theorem dX0_findFirst_20 : decode cX0_findFirst 20 = .ok (.invokevirtual 63, 3) := by decide +kernel
theorem dX0_findFirst_23 : decode cX0_findFirst 23 = .ok (.ifCond .eq 61, 3) := by decide +kernel
theorem dX0_findFirst_26 : decode cX0_findFirst 26 = .ok (.aload_n 0, 1) := by decide +kernel
theorem dX0_findFirst_27 : decode cX0_findFirst 27 = .ok (.getfield 35, 3) := by decide +kernel
theorem dX0_findFirst_30 : decode cX0_findFirst 30 = .ok (.getfield 39, 3) := by decide +kernel
theorem dX0_findFirst_33 : decode cX0_findFirst 33 = .ok (.aload_n 0, 1) := by decide +kernel
theorem dX0_findFirst_34 : decode cX0_findFirst 34 = .ok (.getfield 31, 3) := by decide +kernel
theorem dX0_findFirst_37 : decode cX0_findFirst 37 = .ok (.invokevirtual 44, 3) := by decide +kernel
theorem dX0_findFirst_40 : decode cX0_findFirst 40 = .ok (.aload_n 0, 1) := by decide +kernel
theorem dX0_findFirst_41 : decode cX0_findFirst 41 = .ok (.getfield 35, 3) := by decide +kernel
theorem dX0_findFirst_44 : decode cX0_findFirst 44 = .ok (.getfield 39, 3) := by decide +kernel
theorem dX0_findFirst_47 : decode cX0_findFirst 47 = .ok (.iload_n 2, 1) := by decide +kernel
theorem dX0_findFirst_48 : decode cX0_findFirst 48 = .ok (.iconst 1, 1) := by decide +kernel
theorem dX0_findFirst_49 : decode cX0_findFirst 49 = .ok (.invokevirtual 67, 3) := by decide +kernel
theorem dX0_findFirst_52 : decode cX0_findFirst 52 = .ok (.aload_n 0, 1) := by decide +kernel
theorem dX0_findFirst_53 : decode cX0_findFirst 53 = .ok (.getfield 35, 3) := by decide +kernel
theorem dX0_findFirst_56 : decode cX0_findFirst 56 = .ok (.invokevirtual 54, 3) := by decide +kernel
theorem dX0_findFirst_59 : decode cX0_findFirst 59 = .ok (.istore_n 3, 1) := by decide +kernel
theorem dX0_findFirst_60 : decode cX0_findFirst 60 = .ok (.iload_n 1, 1) := by decide +kernel
theorem dX0_findFirst_61 : decode cX0_findFirst 61 = .ok (.ifCond .eq 11, 3) := by decide +kernel
theorem dX0_findFirst_64 : decode cX0_findFirst 64 = .ok (.iload_n 3, 1) := by decide +kernel
theorem dX0_findFirst_65 : decode cX0_findFirst 65 = .ok (.aload_n 0, 1) := by decide +kernel
theorem dX0_findFirst_66 : decode cX0_findFirst 66 = .ok (.getfield 24, 3) := by decide +kernel
theorem dX0_findFirst_69 : decode cX0_findFirst 69 = .ok (.if_icmp .ge 15, 3) := by decide +kernel
theorem dX0_findFirst_72 : decode cX0_findFirst 72 = .ok (.iconst 1, 1) := by decide +kernel
theorem dX0_findFirst_73 : decode cX0_findFirst 73 = .ok (.istore_n 1, 1) := by decide +kernel
theorem dX0_findFirst_74 : decode cX0_findFirst 74 = .ok (.aload_n 0, 1) := by decide +kernel
theorem dX0_findFirst_75 : decode cX0_findFirst 75 = .ok (.iload_n 2, 1) := by decide +kernel
theorem dX0_findFirst_76 : decode cX0_findFirst 76 = .ok (.putfield 9, 3) := by decide +kernel
theorem dX0_findFirst_79 : decode cX0_findFirst 79 = .ok (.aload_n 0, 1) := by decide +kernel
theorem dX0_findFirst_80 : decode cX0_findFirst 80 = .ok (.iload_n 3, 1) := by decide +kernel
theorem dX0_findFirst_81 : decode cX0_findFirst 81 = .ok (.putfield 24, 3) := by decide +kernel
theorem dX0_findFirst_84 : decode cX0_findFirst 84 = .ok (.iinc 2 1, 3) := by decide +kernel
theorem dX0_findFirst_87 : decode cX0_findFirst 87 = .ok (.goto (-83), 3) := by decide +kernel
theorem dX0_findFirst_90 : decode cX0_findFirst 90 = .ok (.iload_n 1, 1) := by decide +kernel
theorem dX0_findFirst_91 : decode cX0_findFirst 91 = .ok (.ireturn, 1) := by decide +kernel
theorem dX0_findPurchase_0 : decode cX0_findPurchase 0 = .ok (.aload_n 0, 1) := by decide +kernel
theorem dX0_findPurchase_1 : decode cX0_findPurchase 1 = .ok (.getfield 31, 3) := by decide +kernel
theorem dX0_findPurchase_4 : decode cX0_findPurchase 4 = .ok (.getfield 71, 3) := by decide +kernel
theorem dX0_findPurchase_7 : decode cX0_findPurchase 7 = .ok (.iload_n 1, 1) := by decide +kernel
theorem dX0_findPurchase_8 : decode cX0_findPurchase 8 = .ok (.if_icmp .le 5, 3) := by decide +kernel
theorem dX0_findPurchase_11 : decode cX0_findPurchase 11 = .ok (.iconst 0, 1) := by decide +kernel
theorem dX0_findPurchase_12 : decode cX0_findPurchase 12 = .ok (.ireturn, 1) := by decide +kernel
theorem dX0_findPurchase_13 : decode cX0_findPurchase 13 = .ok (.aload_n 0, 1) := by decide +kernel
theorem dX0_findPurchase_14 : decode cX0_findPurchase 14 = .ok (.getfield 31, 3) := by decide +kernel
theorem dX0_findPurchase_17 : decode cX0_findPurchase 17 = .ok (.getfield 72, 3) := by decide +kernel
theorem dX0_findPurchase_20 : decode cX0_findPurchase 20 = .ok (.iconst 0, 1) := by decide +kernel
theorem dX0_findPurchase_21 : decode cX0_findPurchase 21 = .ok (.iaload, 1) := by decide +kernel
theorem dX0_findPurchase_22 : decode cX0_findPurchase 22 = .ok (.istore_n 2, 1) := by decide +kernel
theorem dX0_findPurchase_23 : decode cX0_findPurchase 23 = .ok (.aload_n 0, 1) := by decide +kernel
theorem dX0_findPurchase_24 : decode cX0_findPurchase 24 = .ok (.iload_n 2, 1) := by decide +kernel
theorem dX0_findPurchase_25 : decode cX0_findPurchase 25 = .ok (.putfield 9, 3) := by decide +kernel
theorem dX0_findPurchase_28 : decode cX0_findPurchase 28 = .ok (.aload_n 0, 1) := by decide +kernel
theorem dX0_findPurchase_29 : decode cX0_findPurchase 29 = .ok (.aload_n 0, 1) := by decide +kernel
theorem dX0_findPurchase_30 : decode cX0_findPurchase 30 = .ok (.iload_n 2, 1) := by decide +kernel
theorem dX0_findPurchase_31 : decode cX0_findPurchase 31 = .ok (.invokevirtual 76, 3) := by decide +kernel
theorem dX0_findPurchase_34 : decode cX0_findPurchase 34 = .ok (.putfield 18, 3) := by decide +kernel
theorem dX0_findPurchase_37 : decode cX0_findPurchase 37 = .ok (.iconst 0, 1) := by decide +kernel
theorem dX0_findPurchase_38 : decode cX0_findPurchase 38 = .ok (.istore_n 3, 1) := by decide +kernel
theorem dX0_findPurchase_39 : decode cX0_findPurchase 39 = .ok (.iload_n 3, 1) := by decide +kernel
theorem dX0_findPurchase_40 : decode cX0_findPurchase 40 = .ok (.iload_n 2, 1) := by decide +kernel
theorem dX0_findPurchase_41 : decode cX0_findPurchase 41 = .ok (.if_icmp .ge 48, 3) := by decide +kernel
theorem dX0_findPurchase_44 : decode cX0_findPurchase 44 = .ok (.iload_n 3, 1) := by decide +kernel
theorem dX0_findPurchase_45 : decode cX0_findPurchase 45 = .ok (.iload_n 2, 1) := by decide +kernel
theorem dX0_findPurchase_46 : decode cX0_findPurchase 46 = .ok (.iconst (-1), 1) := by decide +kernel
theorem dX0_findPurchase_47 : decode cX0_findPurchase 47 = .ok (.ixor, 1) := by decide +kernel
theorem dX0_findPurchase_48 : decode cX0_findPurchase 48 = .ok (.iand, 1) := by decide +kernel
theorem dX0_findPurchase_49 : decode cX0_findPurchase 49 = .ok (.ifCond .ne 34, 3) := by decide +kernel
theorem dX0_findPurchase_52 : decode cX0_findPurchase 52 = .ok (.aload_n 0, 1) := by decide +kernel
theorem dX0_findPurchase_53 : decode cX0_findPurchase 53 = .ok (.iload_n 3, 1) := by decide +kernel
theorem dX0_findPurchase_54 : decode cX0_findPurchase 54 = .ok (.invokevirtual 80, 3) := by decide +kernel
theorem dX0_findPurchase_57 : decode cX0_findPurchase 57 = .ok (.ifCond .eq 26, 3) := by decide +kernel
theorem dX0_findPurchase_60 : decode cX0_findPurchase 60 = .ok (.aload_n 0, 1) := by decide +kernel
theorem dX0_findPurchase_61 : decode cX0_findPurchase 61 = .ok (.iload_n 3, 1) := by decide +kernel
theorem dX0_findPurchase_62 : decode cX0_findPurchase 62 = .ok (.invokevirtual 83, 3) := by decide +kernel
theorem dX0_findPurchase_65 : decode cX0_findPurchase 65 = .ok (.iload_n 1, 1) := by decide +kernel
theorem dX0_findPurchase_66 : decode cX0_findPurchase 66 = .ok (.if_icmp .gt 17, 3) := by decide +kernel
theorem dX0_findPurchase_69 : decode cX0_findPurchase 69 = .ok (.aload_n 0, 1) := by decide +kernel
theorem dX0_findPurchase_70 : decode cX0_findPurchase 70 = .ok (.iload_n 3, 1) := by decide +kernel
theorem dX0_findPurchase_71 : decode cX0_findPurchase 71 = .ok (.putfield 9, 3) := by decide +kernel
theorem dX0_findPurchase_74 : decode cX0_findPurchase 74 = .ok (.aload_n 0, 1) := by decide +kernel
theorem dX0_findPurchase_75 : decode cX0_findPurchase 75 = .ok (.aload_n 0, 1) := by decide +kernel
theorem dX0_findPurchase_76 : decode cX0_findPurchase 76 = .ok (.iload_n 3, 1) := by decide +kernel
theorem dX0_findPurchase_77 : decode cX0_findPurchase 77 = .ok (.invokevirtual 76, 3) := by decide +kernel
theorem dX0_findPurchase_80 : decode cX0_findPurchase 80 = .ok (.putfield 18, 3) := by decide +kernel
theorem dX0_findPurchase_83 : decode cX0_findPurchase 83 = .ok (.iinc 3 1, 3) := by decide +kernel
theorem dX0_findPurchase_86 : decode cX0_findPurchase 86 = .ok (.goto (-47), 3) := by decide +kernel
theorem dX0_findPurchase_89 : decode cX0_findPurchase 89 = .ok (.iconst 1, 1) := by decide +kernel
theorem dX0_findPurchase_90 : decode cX0_findPurchase 90 = .ok (.ireturn, 1) := by decide +kernel
theorem dX0_isCheaper_0 : decode cX0_isCheaper 0 = .ok (.aload_n 0, 1) := by decide +kernel
theorem dX0_isCheaper_1 : decode cX0_isCheaper 1 = .ok (.iload_n 1, 1) := by decide +kernel
theorem dX0_isCheaper_2 : decode cX0_isCheaper 2 = .ok (.invokevirtual 76, 3) := by decide +kernel
theorem dX0_isCheaper_5 : decode cX0_isCheaper 5 = .ok (.istore_n 2, 1) := by decide +kernel
theorem dX0_isCheaper_6 : decode cX0_isCheaper 6 = .ok (.iload_n 2, 1) := by decide +kernel
theorem dX0_isCheaper_7 : decode cX0_isCheaper 7 = .ok (.aload_n 0, 1) := by decide +kernel
theorem dX0_isCheaper_8 : decode cX0_isCheaper 8 = .ok (.getfield 18, 3) := by decide +kernel
theorem dX0_isCheaper_11 : decode cX0_isCheaper 11 = .ok (.if_icmp .lt 25, 3) := by decide +kernel
theorem dX0_isCheaper_14 : decode cX0_isCheaper 14 = .ok (.iload_n 2, 1) := by decide +kernel
theorem dX0_isCheaper_15 : decode cX0_isCheaper 15 = .ok (.aload_n 0, 1) := by decide +kernel
theorem dX0_isCheaper_16 : decode cX0_isCheaper 16 = .ok (.getfield 18, 3) := by decide +kernel
theorem dX0_isCheaper_19 : decode cX0_isCheaper 19 = .ok (.if_icmp .ne 21, 3) := by decide +kernel
theorem dX0_isCheaper_22 : decode cX0_isCheaper 22 = .ok (.iload_n 1, 1) := by decide +kernel
theorem dX0_isCheaper_23 : decode cX0_isCheaper 23 = .ok (.invokestatic 86, 3) := by decide +kernel
theorem dX0_isCheaper_26 : decode cX0_isCheaper 26 = .ok (.aload_n 0, 1) := by decide +kernel
theorem dX0_isCheaper_27 : decode cX0_isCheaper 27 = .ok (.getfield 9, 3) := by decide +kernel
theorem dX0_isCheaper_30 : decode cX0_isCheaper 30 = .ok (.invokestatic 86, 3) := by decide +kernel
theorem dX0_isCheaper_33 : decode cX0_isCheaper 33 = .ok (.if_icmp .ge 7, 3) := by decide +kernel
theorem dX0_isCheaper_36 : decode cX0_isCheaper 36 = .ok (.iconst 1, 1) := by decide +kernel
theorem dX0_isCheaper_37 : decode cX0_isCheaper 37 = .ok (.goto 4, 3) := by decide +kernel
theorem dX0_isCheaper_40 : decode cX0_isCheaper 40 = .ok (.iconst 0, 1) := by decide +kernel
theorem dX0_isCheaper_41 : decode cX0_isCheaper 41 = .ok (.ireturn, 1) := by decide +kernel
theorem dX0_priceOf_0 : decode cX0_priceOf 0 = .ok (.iconst 0, 1) := by decide +kernel
theorem dX0_priceOf_1 : decode cX0_priceOf 1 = .ok (.istore_n 2, 1) := by decide +kernel
theorem dX0_priceOf_2 : decode cX0_priceOf 2 = .ok (.iconst 0, 1) := by decide +kernel
theorem dX0_priceOf_3 : decode cX0_priceOf 3 = .ok (.istore_n 3, 1) := by decide +kernel
theorem dX0_priceOf_4 : decode cX0_priceOf 4 = .ok (.iload_n 3, 1) := by decide +kernel
theorem dX0_priceOf_5 : decode cX0_priceOf 5 = .ok (.aload_n 0, 1) := by decide +kernel
theorem dX0_priceOf_6 : decode cX0_priceOf 6 = .ok (.getfield 27, 3) := by decide +kernel
theorem dX0_priceOf_9 : decode cX0_priceOf 9 = .ok (.getfield 58, 3) := by decide +kernel
theorem dX0_priceOf_12 : decode cX0_priceOf 12 = .ok (.if_icmp .ge 33, 3) := by decide +kernel
theorem dX0_priceOf_15 : decode cX0_priceOf 15 = .ok (.iload_n 2, 1) := by decide +kernel
theorem dX0_priceOf_16 : decode cX0_priceOf 16 = .ok (.iload_n 1, 1) := by decide +kernel
theorem dX0_priceOf_17 : decode cX0_priceOf 17 = .ok (.iload_n 3, 1) := by decide +kernel
theorem dX0_priceOf_18 : decode cX0_priceOf 18 = .ok (.ishr, 1) := by decide +kernel
theorem dX0_priceOf_19 : decode cX0_priceOf 19 = .ok (.iconst 1, 1) := by decide +kernel
theorem dX0_priceOf_20 : decode cX0_priceOf 20 = .ok (.iand, 1) := by decide +kernel
theorem dX0_priceOf_21 : decode cX0_priceOf 21 = .ok (.ifCond .eq 15, 3) := by decide +kernel
theorem dX0_priceOf_24 : decode cX0_priceOf 24 = .ok (.aload_n 0, 1) := by decide +kernel
theorem dX0_priceOf_25 : decode cX0_priceOf 25 = .ok (.getfield 27, 3) := by decide +kernel
theorem dX0_priceOf_28 : decode cX0_priceOf 28 = .ok (.getfield 91, 3) := by decide +kernel
theorem dX0_priceOf_31 : decode cX0_priceOf 31 = .ok (.iload_n 3, 1) := by decide +kernel
theorem dX0_priceOf_32 : decode cX0_priceOf 32 = .ok (.iaload, 1) := by decide +kernel
theorem dX0_priceOf_33 : decode cX0_priceOf 33 = .ok (.goto 4, 3) := by decide +kernel
theorem dX0_priceOf_36 : decode cX0_priceOf 36 = .ok (.iconst 0, 1) := by decide +kernel
theorem dX0_priceOf_37 : decode cX0_priceOf 37 = .ok (.iadd, 1) := by decide +kernel
theorem dX0_priceOf_38 : decode cX0_priceOf 38 = .ok (.istore_n 2, 1) := by decide +kernel
theorem dX0_priceOf_39 : decode cX0_priceOf 39 = .ok (.iinc 3 1, 3) := by decide +kernel
theorem dX0_priceOf_42 : decode cX0_priceOf 42 = .ok (.goto (-38), 3) := by decide +kernel
theorem dX0_priceOf_45 : decode cX0_priceOf 45 = .ok (.iload_n 2, 1) := by decide +kernel
theorem dX0_priceOf_46 : decode cX0_priceOf 46 = .ok (.ireturn, 1) := by decide +kernel
theorem dX0_leastGrave_0 : decode cX0_leastGrave 0 = .ok (.aload_n 0, 1) := by decide +kernel
theorem dX0_leastGrave_1 : decode cX0_leastGrave 1 = .ok (.getfield 35, 3) := by decide +kernel
theorem dX0_leastGrave_4 : decode cX0_leastGrave 4 = .ok (.getfield 39, 3) := by decide +kernel
theorem dX0_leastGrave_7 : decode cX0_leastGrave 7 = .ok (.aload_n 0, 1) := by decide +kernel
theorem dX0_leastGrave_8 : decode cX0_leastGrave 8 = .ok (.getfield 31, 3) := by decide +kernel
theorem dX0_leastGrave_11 : decode cX0_leastGrave 11 = .ok (.invokevirtual 44, 3) := by decide +kernel
theorem dX0_leastGrave_14 : decode cX0_leastGrave 14 = .ok (.aload_n 0, 1) := by decide +kernel
theorem dX0_leastGrave_15 : decode cX0_leastGrave 15 = .ok (.getfield 35, 3) := by decide +kernel
theorem dX0_leastGrave_18 : decode cX0_leastGrave 18 = .ok (.getfield 39, 3) := by decide +kernel
theorem dX0_leastGrave_21 : decode cX0_leastGrave 21 = .ok (.iconst 1, 1) := by decide +kernel
theorem dX0_leastGrave_22 : decode cX0_leastGrave 22 = .ok (.iload_n 1, 1) := by decide +kernel
theorem dX0_leastGrave_23 : decode cX0_leastGrave 23 = .ok (.ishl, 1) := by decide +kernel
theorem dX0_leastGrave_24 : decode cX0_leastGrave 24 = .ok (.iconst 0, 1) := by decide +kernel
theorem dX0_leastGrave_25 : decode cX0_leastGrave 25 = .ok (.iconst 5, 1) := by decide +kernel
theorem dX0_leastGrave_26 : decode cX0_leastGrave 26 = .ok (.invokevirtual 50, 3) := by decide +kernel
theorem dX0_leastGrave_29 : decode cX0_leastGrave 29 = .ok (.aload_n 0, 1) := by decide +kernel
theorem dX0_leastGrave_30 : decode cX0_leastGrave 30 = .ok (.getfield 35, 3) := by decide +kernel
theorem dX0_leastGrave_33 : decode cX0_leastGrave 33 = .ok (.getfield 39, 3) := by decide +kernel
theorem dX0_leastGrave_36 : decode cX0_leastGrave 36 = .ok (.invokevirtual 93, 3) := by decide +kernel
theorem dX0_leastGrave_39 : decode cX0_leastGrave 39 = .ok (.istore_n 2, 1) := by decide +kernel
theorem dX0_leastGrave_40 : decode cX0_leastGrave 40 = .ok (.iload_n 2, 1) := by decide +kernel
theorem dX0_leastGrave_41 : decode cX0_leastGrave 41 = .ok (.ifCond .ge 7, 3) := by decide +kernel
theorem dX0_leastGrave_44 : decode cX0_leastGrave 44 = .ok (.iconst 0, 1) := by decide +kernel
theorem dX0_leastGrave_45 : decode cX0_leastGrave 45 = .ok (.goto 20, 3) := by decide +kernel
theorem dX0_leastGrave_48 : decode cX0_leastGrave 48 = .ok (.aload_n 0, 1) := by decide +kernel
theorem dX0_leastGrave_49 : decode cX0_leastGrave 49 = .ok (.getfield 31, 3) := by decide +kernel
theorem dX0_leastGrave_52 : decode cX0_leastGrave 52 = .ok (.iload_n 2, 1) := by decide +kernel
theorem dX0_leastGrave_53 : decode cX0_leastGrave 53 = .ok (.aload_n 0, 1) := by decide +kernel
theorem dX0_leastGrave_54 : decode cX0_leastGrave 54 = .ok (.getfield 27, 3) := by decide +kernel
theorem dX0_leastGrave_57 : decode cX0_leastGrave 57 = .ok (.getfield 96, 3) := by decide +kernel
theorem dX0_leastGrave_60 : decode cX0_leastGrave 60 = .ok (.iload_n 2, 1) := by decide +kernel
theorem dX0_leastGrave_61 : decode cX0_leastGrave 61 = .ok (.iaload, 1) := by decide +kernel
theorem dX0_leastGrave_62 : decode cX0_leastGrave 62 = .ok (.invokevirtual 99, 3) := by decide +kernel
theorem dX0_leastGrave_65 : decode cX0_leastGrave 65 = .ok (.istore_n 3, 1) := by decide +kernel
theorem dX0_leastGrave_66 : decode cX0_leastGrave 66 = .ok (.iload_n 2, 1) := by decide +kernel
theorem dX0_leastGrave_67 : decode cX0_leastGrave 67 = .ok (.ifCond .lt 24, 3) := by decide +kernel
theorem dX0_leastGrave_70 : decode cX0_leastGrave 70 = .ok (.aload_n 0, 1) := by decide +kernel
theorem dX0_leastGrave_71 : decode cX0_leastGrave 71 = .ok (.getfield 31, 3) := by decide +kernel
theorem dX0_leastGrave_74 : decode cX0_leastGrave 74 = .ok (.getfield 103, 3) := by decide +kernel
theorem dX0_leastGrave_77 : decode cX0_leastGrave 77 = .ok (.iload_n 1, 1) := by decide +kernel
theorem dX0_leastGrave_78 : decode cX0_leastGrave 78 = .ok (.iaload, 1) := by decide +kernel
theorem dX0_leastGrave_79 : decode cX0_leastGrave 79 = .ok (.aload_n 0, 1) := by decide +kernel
theorem dX0_leastGrave_80 : decode cX0_leastGrave 80 = .ok (.getfield 31, 3) := by decide +kernel
theorem dX0_leastGrave_83 : decode cX0_leastGrave 83 = .ok (.getfield 103, 3) := by decide +kernel
theorem dX0_leastGrave_86 : decode cX0_leastGrave 86 = .ok (.iload_n 2, 1) := by decide +kernel
theorem dX0_leastGrave_87 : decode cX0_leastGrave 87 = .ok (.iaload, 1) := by decide +kernel
theorem dX0_leastGrave_88 : decode cX0_leastGrave 88 = .ok (.if_icmp .ge 7, 3) := by decide +kernel
theorem dX0_leastGrave_91 : decode cX0_leastGrave 91 = .ok (.iconst 1, 1) := by decide +kernel
theorem dX0_leastGrave_92 : decode cX0_leastGrave 92 = .ok (.goto 4, 3) := by decide +kernel
theorem dX0_leastGrave_95 : decode cX0_leastGrave 95 = .ok (.iconst 0, 1) := by decide +kernel
theorem dX0_leastGrave_96 : decode cX0_leastGrave 96 = .ok (.istore 4, 2) := by decide +kernel
theorem dX0_leastGrave_98 : decode cX0_leastGrave 98 = .ok (.iconst 0, 1) := by decide +kernel
theorem dX0_leastGrave_99 : decode cX0_leastGrave 99 = .ok (.istore 5, 2) := by decide +kernel
theorem dX0_leastGrave_101 : decode cX0_leastGrave 101 = .ok (.iload 5, 2) := by decide +kernel
theorem dX0_leastGrave_103 : decode cX0_leastGrave 103 = .ok (.bipush 100, 2) := by decide +kernel
theorem dX0_leastGrave_105 : decode cX0_leastGrave 105 = .ok (.if_icmp .ge 45, 3) := by decide +kernel
theorem dX0_leastGrave_108 : decode cX0_leastGrave 108 = .ok (.aload_n 0, 1) := by decide +kernel
theorem dX0_leastGrave_109 : decode cX0_leastGrave 109 = .ok (.getfield 31, 3) := by decide +kernel
theorem dX0_leastGrave_112 : decode cX0_leastGrave 112 = .ok (.iload_n 1, 1) := by decide +kernel
theorem dX0_leastGrave_113 : decode cX0_leastGrave 113 = .ok (.iload 5, 2) := by decide +kernel
theorem dX0_leastGrave_115 : decode cX0_leastGrave 115 = .ok (.invokevirtual 99, 3) := by decide +kernel
theorem dX0_leastGrave_118 : decode cX0_leastGrave 118 = .ok (.istore 6, 2) := by decide +kernel
theorem dX0_leastGrave_120 : decode cX0_leastGrave 120 = .ok (.iload_n 2, 1) := by decide +kernel
theorem dX0_leastGrave_121 : decode cX0_leastGrave 121 = .ok (.ifCond .lt 20, 3) := by decide +kernel
theorem dX0_leastGrave_124 : decode cX0_leastGrave 124 = .ok (.iload 6, 2) := by decide +kernel
theorem dX0_leastGrave_126 : decode cX0_leastGrave 126 = .ok (.iload_n 3, 1) := by decide +kernel
theorem dX0_leastGrave_127 : decode cX0_leastGrave 127 = .ok (.if_icmp .gt 14, 3) := by decide +kernel
theorem dX0_leastGrave_130 : decode cX0_leastGrave 130 = .ok (.iload 6, 2) := by decide +kernel
theorem dX0_leastGrave_132 : decode cX0_leastGrave 132 = .ok (.iload_n 3, 1) := by decide +kernel
theorem dX0_leastGrave_133 : decode cX0_leastGrave 133 = .ok (.if_icmp .ne 11, 3) := by decide +kernel
theorem dX0_leastGrave_136 : decode cX0_leastGrave 136 = .ok (.iload 4, 2) := by decide +kernel
theorem dX0_leastGrave_138 : decode cX0_leastGrave 138 = .ok (.ifCond .eq 6, 3) := by decide +kernel
theorem dX0_leastGrave_141 : decode cX0_leastGrave 141 = .ok (.iload 5, 2) := by decide +kernel
theorem dX0_leastGrave_143 : decode cX0_leastGrave 143 = .ok (.ireturn, 1) := by decide +kernel
theorem dX0_leastGrave_144 : decode cX0_leastGrave 144 = .ok (.iinc 5 1, 3) := by decide +kernel
theorem dX0_leastGrave_147 : decode cX0_leastGrave 147 = .ok (.goto (-46), 3) := by decide +kernel
theorem dX0_leastGrave_150 : decode cX0_leastGrave 150 = .ok (.iconst (-1), 1) := by decide +kernel
theorem dX0_leastGrave_151 : decode cX0_leastGrave 151 = .ok (.ireturn, 1) := by decide +kernel
theorem dX0_findTarry_0 : decode cX0_findTarry 0 = .ok (.iconst 0, 1) := by decide +kernel
theorem dX0_findTarry_1 : decode cX0_findTarry 1 = .ok (.istore_n 2, 1) := by decide +kernel
theorem dX0_findTarry_2 : decode cX0_findTarry 2 = .ok (.iload_n 2, 1) := by decide +kernel
theorem dX0_findTarry_3 : decode cX0_findTarry 3 = .ok (.iload_n 1, 1) := by decide +kernel
theorem dX0_findTarry_4 : decode cX0_findTarry 4 = .ok (.if_icmp .gt 65, 3) := by decide +kernel
theorem dX0_findTarry_7 : decode cX0_findTarry 7 = .ok (.aload_n 0, 1) := by decide +kernel
theorem dX0_findTarry_8 : decode cX0_findTarry 8 = .ok (.getfield 35, 3) := by decide +kernel
theorem dX0_findTarry_11 : decode cX0_findTarry 11 = .ok (.getfield 39, 3) := by decide +kernel
theorem dX0_findTarry_14 : decode cX0_findTarry 14 = .ok (.aload_n 0, 1) := by decide +kernel
theorem dX0_findTarry_15 : decode cX0_findTarry 15 = .ok (.getfield 31, 3) := by decide +kernel
theorem dX0_findTarry_18 : decode cX0_findTarry 18 = .ok (.invokevirtual 44, 3) := by decide +kernel
theorem dX0_findTarry_21 : decode cX0_findTarry 21 = .ok (.aload_n 0, 1) := by decide +kernel
theorem dX0_findTarry_22 : decode cX0_findTarry 22 = .ok (.getfield 35, 3) := by decide +kernel
theorem dX0_findTarry_25 : decode cX0_findTarry 25 = .ok (.getfield 39, 3) := by decide +kernel
theorem dX0_findTarry_28 : decode cX0_findTarry 28 = .ok (.iload_n 2, 1) := by decide +kernel
theorem dX0_findTarry_29 : decode cX0_findTarry 29 = .ok (.invokevirtual 106, 3) := by decide +kernel
theorem dX0_findTarry_32 : decode cX0_findTarry 32 = .ok (.pop, 1) := by decide +kernel
theorem dX0_findTarry_33 : decode cX0_findTarry 33 = .ok (.aload_n 0, 1) := by decide +kernel
theorem dX0_findTarry_34 : decode cX0_findTarry 34 = .ok (.getfield 35, 3) := by decide +kernel
theorem dX0_findTarry_37 : decode cX0_findTarry 37 = .ok (.invokevirtual 54, 3) := by decide +kernel
theorem dX0_findTarry_40 : decode cX0_findTarry 40 = .ok (.istore_n 3, 1) := by decide +kernel
theorem dX0_findTarry_41 : decode cX0_findTarry 41 = .ok (.iload_n 2, 1) := by decide +kernel
theorem dX0_findTarry_42 : decode cX0_findTarry 42 = .ok (.ifCond .eq 11, 3) := by decide +kernel
theorem dX0_findTarry_45 : decode cX0_findTarry 45 = .ok (.iload_n 3, 1) := by decide +kernel
theorem dX0_findTarry_46 : decode cX0_findTarry 46 = .ok (.aload_n 0, 1) := by decide +kernel
theorem dX0_findTarry_47 : decode cX0_findTarry 47 = .ok (.getfield 24, 3) := by decide +kernel
theorem dX0_findTarry_50 : decode cX0_findTarry 50 = .ok (.if_icmp .ge 13, 3) := by decide +kernel
theorem dX0_findTarry_53 : decode cX0_findTarry 53 = .ok (.aload_n 0, 1) := by decide +kernel
theorem dX0_findTarry_54 : decode cX0_findTarry 54 = .ok (.iload_n 2, 1) := by decide +kernel
theorem dX0_findTarry_55 : decode cX0_findTarry 55 = .ok (.putfield 21, 3) := by decide +kernel
theorem dX0_findTarry_58 : decode cX0_findTarry 58 = .ok (.aload_n 0, 1) := by decide +kernel
theorem dX0_findTarry_59 : decode cX0_findTarry 59 = .ok (.iload_n 3, 1) := by decide +kernel
theorem dX0_findTarry_60 : decode cX0_findTarry 60 = .ok (.putfield 24, 3) := by decide +kernel
theorem dX0_findTarry_63 : decode cX0_findTarry 63 = .ok (.iinc 2 1, 3) := by decide +kernel
theorem dX0_findTarry_66 : decode cX0_findTarry 66 = .ok (.goto (-64), 3) := by decide +kernel
theorem dX0_findTarry_69 : decode cX0_findTarry 69 = .ok (.return_, 1) := by decide +kernel
theorem dX0_findSwap_0 : decode cX0_findSwap 0 = .ok (.iconst 0, 1) := by decide +kernel
theorem dX0_findSwap_1 : decode cX0_findSwap 1 = .ok (.istore_n 1, 1) := by decide +kernel
theorem dX0_findSwap_2 : decode cX0_findSwap 2 = .ok (.aload_n 0, 1) := by decide +kernel
theorem dX0_findSwap_3 : decode cX0_findSwap 3 = .ok (.aload_n 0, 1) := by decide +kernel
theorem dX0_findSwap_4 : decode cX0_findSwap 4 = .ok (.iconst 0, 1) := by decide +kernel
theorem dX0_findSwap_5 : decode cX0_findSwap 5 = .ok (.invokevirtual 83, 3) := by decide +kernel
theorem dX0_findSwap_8 : decode cX0_findSwap 8 = .ok (.putfield 24, 3) := by decide +kernel
theorem dX0_findSwap_11 : decode cX0_findSwap 11 = .ok (.iconst 0, 1) := by decide +kernel
theorem dX0_findSwap_12 : decode cX0_findSwap 12 = .ok (.istore_n 2, 1) := by decide +kernel
theorem dX0_findSwap_13 : decode cX0_findSwap 13 = .ok (.iload_n 2, 1) := by decide +kernel
theorem dX0_findSwap_14 : decode cX0_findSwap 14 = .ok (.aload_n 0, 1) := by decide +kernel
theorem dX0_findSwap_15 : decode cX0_findSwap 15 = .ok (.getfield 27, 3) := by decide +kernel
theorem dX0_findSwap_18 : decode cX0_findSwap 18 = .ok (.getfield 58, 3) := by decide +kernel
theorem dX0_findSwap_21 : decode cX0_findSwap 21 = .ok (.if_icmp .ge 94, 3) := by decide +kernel
theorem dX0_findSwap_24 : decode cX0_findSwap 24 = .ok (.iload_n 2, 1) := by decide +kernel
theorem dX0_findSwap_25 : decode cX0_findSwap 25 = .ok (.iconst 1, 1) := by decide +kernel
theorem dX0_findSwap_26 : decode cX0_findSwap 26 = .ok (.iadd, 1) := by decide +kernel
theorem dX0_findSwap_27 : decode cX0_findSwap 27 = .ok (.istore_n 3, 1) := by decide +kernel
theorem dX0_findSwap_28 : decode cX0_findSwap 28 = .ok (.iload_n 3, 1) := by decide +kernel
theorem dX0_findSwap_29 : decode cX0_findSwap 29 = .ok (.aload_n 0, 1) := by decide +kernel
theorem dX0_findSwap_30 : decode cX0_findSwap 30 = .ok (.getfield 27, 3) := by decide +kernel
theorem dX0_findSwap_33 : decode cX0_findSwap 33 = .ok (.getfield 58, 3) := by decide +kernel
theorem dX0_findSwap_36 : decode cX0_findSwap 36 = .ok (.if_icmp .ge 73, 3) := by decide +kernel
theorem dX0_findSwap_39 : decode cX0_findSwap 39 = .ok (.aload_n 0, 1) := by decide +kernel
theorem dX0_findSwap_40 : decode cX0_findSwap 40 = .ok (.getfield 31, 3) := by decide +kernel
theorem dX0_findSwap_43 : decode cX0_findSwap 43 = .ok (.iload_n 2, 1) := by decide +kernel
theorem dX0_findSwap_44 : decode cX0_findSwap 44 = .ok (.invokevirtual 63, 3) := by decide +kernel
theorem dX0_findSwap_47 : decode cX0_findSwap 47 = .ok (.ifCond .eq 23, 3) := by decide +kernel
theorem dX0_findSwap_50 : decode cX0_findSwap 50 = .ok (.aload_n 0, 1) := by decide +kernel
theorem dX0_findSwap_51 : decode cX0_findSwap 51 = .ok (.getfield 31, 3) := by decide +kernel
theorem dX0_findSwap_54 : decode cX0_findSwap 54 = .ok (.iload_n 3, 1) := by decide +kernel
theorem dX0_findSwap_55 : decode cX0_findSwap 55 = .ok (.invokevirtual 63, 3) := by decide +kernel
theorem dX0_findSwap_58 : decode cX0_findSwap 58 = .ok (.ifCond .eq 12, 3) := by decide +kernel
theorem dX0_findSwap_61 : decode cX0_findSwap 61 = .ok (.aload_n 0, 1) := by decide +kernel
theorem dX0_findSwap_62 : decode cX0_findSwap 62 = .ok (.iload_n 2, 1) := by decide +kernel
theorem dX0_findSwap_63 : decode cX0_findSwap 63 = .ok (.iload_n 3, 1) := by decide +kernel
theorem dX0_findSwap_64 : decode cX0_findSwap 64 = .ok (.invokevirtual 109, 3) := by decide +kernel
theorem dX0_findSwap_67 : decode cX0_findSwap 67 = .ok (.goto 7, 3) := by decide +kernel
theorem dX0_findSwap_70 : decode cX0_findSwap 70 = .ok (.aload_n 0, 1) := by decide +kernel
theorem dX0_findSwap_71 : decode cX0_findSwap 71 = .ok (.getfield 24, 3) := by decide +kernel
theorem dX0_findSwap_74 : decode cX0_findSwap 74 = .ok (.istore 4, 2) := by decide +kernel
theorem dX0_findSwap_76 : decode cX0_findSwap 76 = .ok (.iload 4, 2) := by decide +kernel
theorem dX0_findSwap_78 : decode cX0_findSwap 78 = .ok (.aload_n 0, 1) := by decide +kernel
theorem dX0_findSwap_79 : decode cX0_findSwap 79 = .ok (.getfield 24, 3) := by decide +kernel
theorem dX0_findSwap_82 : decode cX0_findSwap 82 = .ok (.if_icmp .ge 21, 3) := by decide +kernel
theorem dX0_findSwap_85 : decode cX0_findSwap 85 = .ok (.iconst 1, 1) := by decide +kernel
theorem dX0_findSwap_86 : decode cX0_findSwap 86 = .ok (.istore_n 1, 1) := by decide +kernel
theorem dX0_findSwap_87 : decode cX0_findSwap 87 = .ok (.aload_n 0, 1) := by decide +kernel
theorem dX0_findSwap_88 : decode cX0_findSwap 88 = .ok (.iload_n 2, 1) := by decide +kernel
theorem dX0_findSwap_89 : decode cX0_findSwap 89 = .ok (.putfield 9, 3) := by decide +kernel
theorem dX0_findSwap_92 : decode cX0_findSwap 92 = .ok (.aload_n 0, 1) := by decide +kernel
theorem dX0_findSwap_93 : decode cX0_findSwap 93 = .ok (.iload_n 3, 1) := by decide +kernel
theorem dX0_findSwap_94 : decode cX0_findSwap 94 = .ok (.putfield 15, 3) := by decide +kernel
theorem dX0_findSwap_97 : decode cX0_findSwap 97 = .ok (.aload_n 0, 1) := by decide +kernel
theorem dX0_findSwap_98 : decode cX0_findSwap 98 = .ok (.iload 4, 2) := by decide +kernel
theorem dX0_findSwap_100 : decode cX0_findSwap 100 = .ok (.putfield 24, 3) := by decide +kernel
theorem dX0_findSwap_103 : decode cX0_findSwap 103 = .ok (.iinc 3 1, 3) := by decide +kernel
theorem dX0_findSwap_106 : decode cX0_findSwap 106 = .ok (.goto (-78), 3) := by decide +kernel
theorem dX0_findSwap_109 : decode cX0_findSwap 109 = .ok (.iinc 2 1, 3) := by decide +kernel
theorem dX0_findSwap_112 : decode cX0_findSwap 112 = .ok (.goto (-99), 3) := by decide +kernel
theorem dX0_findSwap_115 : decode cX0_findSwap 115 = .ok (.iload_n 1, 1) := by decide +kernel
theorem dX0_findSwap_116 : decode cX0_findSwap 116 = .ok (.ireturn, 1) := by decide +kernel
theorem dX0_duskExchanged_0 : decode cX0_duskExchanged 0 = .ok (.aload_n 0, 1) := by decide +kernel
theorem dX0_duskExchanged_1 : decode cX0_duskExchanged 1 = .ok (.getfield 35, 3) := by decide +kernel
theorem dX0_duskExchanged_4 : decode cX0_duskExchanged 4 = .ok (.getfield 39, 3) := by decide +kernel
theorem dX0_duskExchanged_7 : decode cX0_duskExchanged 7 = .ok (.aload_n 0, 1) := by decide +kernel
theorem dX0_duskExchanged_8 : decode cX0_duskExchanged 8 = .ok (.getfield 31, 3) := by decide +kernel
theorem dX0_duskExchanged_11 : decode cX0_duskExchanged 11 = .ok (.invokevirtual 44, 3) := by decide +kernel
theorem dX0_duskExchanged_14 : decode cX0_duskExchanged 14 = .ok (.aload_n 0, 1) := by decide +kernel
theorem dX0_duskExchanged_15 : decode cX0_duskExchanged 15 = .ok (.getfield 35, 3) := by decide +kernel
theorem dX0_duskExchanged_18 : decode cX0_duskExchanged 18 = .ok (.getfield 39, 3) := by decide +kernel
theorem dX0_duskExchanged_21 : decode cX0_duskExchanged 21 = .ok (.iload_n 1, 1) := by decide +kernel
theorem dX0_duskExchanged_22 : decode cX0_duskExchanged 22 = .ok (.iload_n 2, 1) := by decide +kernel
theorem dX0_duskExchanged_23 : decode cX0_duskExchanged 23 = .ok (.invokevirtual 112, 3) := by decide +kernel
theorem dX0_duskExchanged_26 : decode cX0_duskExchanged 26 = .ok (.aload_n 0, 1) := by decide +kernel
theorem dX0_duskExchanged_27 : decode cX0_duskExchanged 27 = .ok (.getfield 35, 3) := by decide +kernel
theorem dX0_duskExchanged_30 : decode cX0_duskExchanged 30 = .ok (.invokevirtual 54, 3) := by decide +kernel
theorem dX0_duskExchanged_33 : decode cX0_duskExchanged 33 = .ok (.ireturn, 1) := by decide +kernel
theorem dX1_init_0 : decode cX1_init 0 = .ok (.aload_n 0, 1) := by decide +kernel
theorem dX1_init_1 : decode cX1_init 1 = .ok (.invokespecial 5, 3) := by decide +kernel
theorem dX1_init_4 : decode cX1_init 4 = .ok (.aload_n 0, 1) := by decide +kernel
theorem dX1_init_5 : decode cX1_init 5 = .ok (.iconst 0, 1) := by decide +kernel
theorem dX1_init_6 : decode cX1_init 6 = .ok (.putfield 11, 3) := by decide +kernel
theorem dX1_init_9 : decode cX1_init 9 = .ok (.aload_n 0, 1) := by decide +kernel
theorem dX1_init_10 : decode cX1_init 10 = .ok (.iconst 0, 1) := by decide +kernel
theorem dX1_init_11 : decode cX1_init 11 = .ok (.putfield 15, 3) := by decide +kernel
theorem dX1_init_14 : decode cX1_init 14 = .ok (.aload_n 0, 1) := by decide +kernel
theorem dX1_init_15 : decode cX1_init 15 = .ok (.sipush 984, 3) := by decide +kernel
theorem dX1_init_18 : decode cX1_init 18 = .ok (.newarray .int, 2) := by decide +kernel
theorem dX1_init_20 : decode cX1_init 20 = .ok (.putfield 20, 3) := by decide +kernel
theorem dX1_init_23 : decode cX1_init 23 = .ok (.aload_n 0, 1) := by decide +kernel
theorem dX1_init_24 : decode cX1_init 24 = .ok (.iconst 0, 1) := by decide +kernel
theorem dX1_init_25 : decode cX1_init 25 = .ok (.putfield 24, 3) := by decide +kernel
theorem dX1_init_28 : decode cX1_init 28 = .ok (.aload_n 0, 1) := by decide +kernel
theorem dX1_init_29 : decode cX1_init 29 = .ok (.bipush 72, 2) := by decide +kernel
theorem dX1_init_31 : decode cX1_init 31 = .ok (.newarray .int, 2) := by decide +kernel
theorem dX1_init_33 : decode cX1_init 33 = .ok (.putfield 27, 3) := by decide +kernel
theorem dX1_init_36 : decode cX1_init 36 = .ok (.aload_n 0, 1) := by decide +kernel
theorem dX1_init_37 : decode cX1_init 37 = .ok (.iconst 0, 1) := by decide +kernel
theorem dX1_init_38 : decode cX1_init 38 = .ok (.putfield 30, 3) := by decide +kernel
theorem dX1_init_41 : decode cX1_init 41 = .ok (.aload_n 0, 1) := by decide +kernel
theorem dX1_init_42 : decode cX1_init 42 = .ok (.aload_n 1, 1) := by decide +kernel
theorem dX1_init_43 : decode cX1_init 43 = .ok (.putfield 33, 3) := by decide +kernel
theorem dX1_init_46 : decode cX1_init 46 = .ok (.return_, 1) := by decide +kernel
theorem dX1_forgetActs_0 : decode cX1_forgetActs 0 = .ok (.aload_n 0, 1) := by decide +kernel
theorem dX1_forgetActs_1 : decode cX1_forgetActs 1 = .ok (.iconst 0, 1) := by decide +kernel
theorem dX1_forgetActs_2 : decode cX1_forgetActs 2 = .ok (.putfield 24, 3) := by decide +kernel
theorem dX1_forgetActs_5 : decode cX1_forgetActs 5 = .ok (.aload_n 0, 1) := by decide +kernel
theorem dX1_forgetActs_6 : decode cX1_forgetActs 6 = .ok (.iconst 0, 1) := by decide +kernel
theorem dX1_forgetActs_7 : decode cX1_forgetActs 7 = .ok (.putfield 11, 3) := by decide +kernel
theorem dX1_forgetActs_10 : decode cX1_forgetActs 10 = .ok (.aload_n 0, 1) := by decide +kernel
theorem dX1_forgetActs_11 : decode cX1_forgetActs 11 = .ok (.iconst 0, 1) := by decide +kernel
theorem dX1_forgetActs_12 : decode cX1_forgetActs 12 = .ok (.putfield 15, 3) := by decide +kernel
theorem dX1_forgetActs_15 : decode cX1_forgetActs 15 = .ok (.return_, 1) := by decide +kernel
theorem dX1_emptyBoxes_0 : decode cX1_emptyBoxes 0 = .ok (.aload_n 0, 1) := by decide +kernel
theorem dX1_emptyBoxes_1 : decode cX1_emptyBoxes 1 = .ok (.iconst 0, 1) := by decide +kernel
theorem dX1_emptyBoxes_2 : decode cX1_emptyBoxes 2 = .ok (.putfield 30, 3) := by decide +kernel
theorem dX1_emptyBoxes_5 : decode cX1_emptyBoxes 5 = .ok (.return_, 1) := by decide +kernel
theorem dX1_rowOf_0 : decode cX1_rowOf 0 = .ok (.aload_n 0, 1) := by decide +kernel
theorem dX1_rowOf_1 : decode cX1_rowOf 1 = .ok (.getfield 24, 3) := by decide +kernel
theorem dX1_rowOf_4 : decode cX1_rowOf 4 = .ok (.iload_n 1, 1) := by decide +kernel
theorem dX1_rowOf_5 : decode cX1_rowOf 5 = .ok (.iadd, 1) := by decide +kernel
theorem dX1_rowOf_6 : decode cX1_rowOf 6 = .ok (.bipush 41, 2) := by decide +kernel
theorem dX1_rowOf_8 : decode cX1_rowOf 8 = .ok (.irem, 1) := by decide +kernel
theorem dX1_rowOf_9 : decode cX1_rowOf 9 = .ok (.bipush 24, 2) := by decide +kernel
theorem dX1_rowOf_11 : decode cX1_rowOf 11 = .ok (.imul, 1) := by decide +kernel
theorem dX1_rowOf_12 : decode cX1_rowOf 12 = .ok (.ireturn, 1) := by decide +kernel
theorem dX1_keepAct_0 : decode cX1_keepAct 0 = .ok (.aload_n 0, 1) := by decide +kernel
theorem dX1_keepAct_1 : decode cX1_keepAct 1 = .ok (.getfield 33, 3) := by decide +kernel
theorem dX1_keepAct_4 : decode cX1_keepAct 4 = .ok (.aload_n 0, 1) := by decide +kernel
theorem dX1_keepAct_5 : decode cX1_keepAct 5 = .ok (.getfield 20, 3) := by decide +kernel
theorem dX1_keepAct_8 : decode cX1_keepAct 8 = .ok (.aload_n 0, 1) := by decide +kernel
theorem dX1_keepAct_9 : decode cX1_keepAct 9 = .ok (.aload_n 0, 1) := by decide +kernel
theorem dX1_keepAct_10 : decode cX1_keepAct 10 = .ok (.getfield 11, 3) := by decide +kernel
theorem dX1_keepAct_13 : decode cX1_keepAct 13 = .ok (.invokevirtual 37, 3) := by decide +kernel
theorem dX1_keepAct_16 : decode cX1_keepAct 16 = .ok (.invokevirtual 41, 3) := by decide +kernel
theorem dX1_keepAct_19 : decode cX1_keepAct 19 = .ok (.aload_n 0, 1) := by decide +kernel
theorem dX1_keepAct_20 : decode cX1_keepAct 20 = .ok (.iconst 0, 1) := by decide +kernel
theorem dX1_keepAct_21 : decode cX1_keepAct 21 = .ok (.putfield 15, 3) := by decide +kernel
theorem dX1_keepAct_24 : decode cX1_keepAct 24 = .ok (.aload_n 0, 1) := by decide +kernel
theorem dX1_keepAct_25 : decode cX1_keepAct 25 = .ok (.getfield 11, 3) := by decide +kernel
theorem dX1_keepAct_28 : decode cX1_keepAct 28 = .ok (.bipush 40, 2) := by decide +kernel
theorem dX1_keepAct_30 : decode cX1_keepAct 30 = .ok (.if_icmp .ge 16, 3) := by decide +kernel
theorem dX1_keepAct_33 : decode cX1_keepAct 33 = .ok (.aload_n 0, 1) := by decide +kernel
theorem dX1_keepAct_34 : decode cX1_keepAct 34 = .ok (.dup, 1) := by decide +kernel
theorem dX1_keepAct_35 : decode cX1_keepAct 35 = .ok (.getfield 11, 3) := by decide +kernel
theorem dX1_keepAct_38 : decode cX1_keepAct 38 = .ok (.iconst 1, 1) := by decide +kernel
theorem dX1_keepAct_39 : decode cX1_keepAct 39 = .ok (.iadd, 1) := by decide +kernel
theorem dX1_keepAct_40 : decode cX1_keepAct 40 = .ok (.putfield 11, 3) := by decide +kernel
theorem dX1_keepAct_43 : decode cX1_keepAct 43 = .ok (.goto 16, 3) := by decide +kernel
theorem dX1_keepAct_46 : decode cX1_keepAct 46 = .ok (.aload_n 0, 1) := by decide +kernel
theorem dX1_keepAct_47 : decode cX1_keepAct 47 = .ok (.aload_n 0, 1) := by decide +kernel
theorem dX1_keepAct_48 : decode cX1_keepAct 48 = .ok (.getfield 24, 3) := by decide +kernel
theorem dX1_keepAct_51 : decode cX1_keepAct 51 = .ok (.iconst 1, 1) := by decide +kernel
theorem dX1_keepAct_52 : decode cX1_keepAct 52 = .ok (.iadd, 1) := by decide +kernel
theorem dX1_keepAct_53 : decode cX1_keepAct 53 = .ok (.bipush 41, 2) := by decide +kernel
theorem dX1_keepAct_55 : decode cX1_keepAct 55 = .ok (.irem, 1) := by decide +kernel
theorem dX1_keepAct_56 : decode cX1_keepAct 56 = .ok (.putfield 24, 3) := by decide +kernel
theorem dX1_keepAct_59 : decode cX1_keepAct 59 = .ok (.return_, 1) := by decide +kernel
theorem dX1_takeBack_0 : decode cX1_takeBack 0 = .ok (.aload_n 0, 1) := by decide +kernel
theorem dX1_takeBack_1 : decode cX1_takeBack 1 = .ok (.getfield 11, 3) := by decide +kernel
theorem dX1_takeBack_4 : decode cX1_takeBack 4 = .ok (.ifCond .ne 5, 3) := by decide +kernel
theorem dX1_takeBack_7 : decode cX1_takeBack 7 = .ok (.iconst 0, 1) := by decide +kernel
theorem dX1_takeBack_8 : decode cX1_takeBack 8 = .ok (.ireturn, 1) := by decide +kernel
theorem dX1_takeBack_9 : decode cX1_takeBack 9 = .ok (.aload_n 0, 1) := by decide +kernel
theorem dX1_takeBack_10 : decode cX1_takeBack 10 = .ok (.getfield 33, 3) := by decide +kernel
theorem dX1_takeBack_13 : decode cX1_takeBack 13 = .ok (.aload_n 0, 1) := by decide +kernel
theorem dX1_takeBack_14 : decode cX1_takeBack 14 = .ok (.getfield 20, 3) := by decide +kernel
theorem dX1_takeBack_17 : decode cX1_takeBack 17 = .ok (.aload_n 0, 1) := by decide +kernel
theorem dX1_takeBack_18 : decode cX1_takeBack 18 = .ok (.aload_n 0, 1) := by decide +kernel
theorem dX1_takeBack_19 : decode cX1_takeBack 19 = .ok (.getfield 11, 3) := by decide +kernel
theorem dX1_takeBack_22 : decode cX1_takeBack 22 = .ok (.invokevirtual 37, 3) := by decide +kernel
theorem dX1_takeBack_25 : decode cX1_takeBack 25 = .ok (.invokevirtual 41, 3) := by decide +kernel
theorem dX1_takeBack_28 : decode cX1_takeBack 28 = .ok (.aload_n 0, 1) := by decide +kernel
theorem dX1_takeBack_29 : decode cX1_takeBack 29 = .ok (.dup, 1) := by decide +kernel
theorem dX1_takeBack_30 : decode cX1_takeBack 30 = .ok (.getfield 11, 3) := by decide +kernel
theorem dX1_takeBack_33 : decode cX1_takeBack 33 = .ok (.iconst 1, 1) := by decide +kernel
theorem dX1_takeBack_34 : decode cX1_takeBack 34 = .ok (.isub, 1) := by decide +kernel
theorem dX1_takeBack_35 : decode cX1_takeBack 35 = .ok (.putfield 11, 3) := by decide +kernel
theorem dX1_takeBack_38 : decode cX1_takeBack 38 = .ok (.aload_n 0, 1) := by decide +kernel
theorem dX1_takeBack_39 : decode cX1_takeBack 39 = .ok (.dup, 1) := by decide +kernel
theorem dX1_takeBack_40 : decode cX1_takeBack 40 = .ok (.getfield 15, 3) := by decide +kernel
theorem dX1_takeBack_43 : decode cX1_takeBack 43 = .ok (.iconst 1, 1) := by decide +kernel
theorem dX1_takeBack_44 : decode cX1_takeBack 44 = .ok (.iadd, 1) := by decide +kernel
theorem dX1_takeBack_45 : decode cX1_takeBack 45 = .ok (.putfield 15, 3) := by decide +kernel
theorem dX1_takeBack_48 : decode cX1_takeBack 48 = .ok (.aload_n 0, 1) := by decide +kernel
theorem dX1_takeBack_49 : decode cX1_takeBack 49 = .ok (.getfield 33, 3) := by decide +kernel
theorem dX1_takeBack_52 : decode cX1_takeBack 52 = .ok (.aload_n 0, 1) := by decide +kernel
theorem dX1_takeBack_53 : decode cX1_takeBack 53 = .ok (.getfield 20, 3) := by decide +kernel
theorem dX1_takeBack_56 : decode cX1_takeBack 56 = .ok (.aload_n 0, 1) := by decide +kernel
theorem dX1_takeBack_57 : decode cX1_takeBack 57 = .ok (.aload_n 0, 1) := by decide +kernel
theorem dX1_takeBack_58 : decode cX1_takeBack 58 = .ok (.getfield 11, 3) := by decide +kernel
theorem dX1_takeBack_61 : decode cX1_takeBack 61 = .ok (.invokevirtual 37, 3) := by decide +kernel
theorem dX1_takeBack_64 : decode cX1_takeBack 64 = .ok (.invokevirtual 45, 3) := by decide +kernel
theorem dX1_takeBack_67 : decode cX1_takeBack 67 = .ok (.iconst 1, 1) := by decide +kernel
theorem dX1_takeBack_68 : decode cX1_takeBack 68 = .ok (.ireturn, 1) := by decide +kernel
theorem dX1_doAgain_0 : decode cX1_doAgain 0 = .ok (.aload_n 0, 1) := by decide +kernel
theorem dX1_doAgain_1 : decode cX1_doAgain 1 = .ok (.getfield 15, 3) := by decide +kernel
theorem dX1_doAgain_4 : decode cX1_doAgain 4 = .ok (.ifCond .ne 5, 3) := by decide +kernel
theorem dX1_doAgain_7 : decode cX1_doAgain 7 = .ok (.iconst 0, 1) := by decide +kernel
theorem dX1_doAgain_8 : decode cX1_doAgain 8 = .ok (.ireturn, 1) := by decide +kernel
theorem dX1_doAgain_9 : decode cX1_doAgain 9 = .ok (.aload_n 0, 1) := by decide +kernel
theorem dX1_doAgain_10 : decode cX1_doAgain 10 = .ok (.dup, 1) := by decide +kernel
theorem dX1_doAgain_11 : decode cX1_doAgain 11 = .ok (.getfield 11, 3) := by decide +kernel
theorem dX1_doAgain_14 : decode cX1_doAgain 14 = .ok (.iconst 1, 1) := by decide +kernel
theorem dX1_doAgain_15 : decode cX1_doAgain 15 = .ok (.iadd, 1) := by decide +kernel
theorem dX1_doAgain_16 : decode cX1_doAgain 16 = .ok (.putfield 11, 3) := by decide +kernel
theorem dX1_doAgain_19 : decode cX1_doAgain 19 = .ok (.aload_n 0, 1) := by decide +kernel
theorem dX1_doAgain_20 : decode cX1_doAgain 20 = .ok (.dup, 1) := by decide +kernel
theorem dX1_doAgain_21 : decode cX1_doAgain 21 = .ok (.getfield 15, 3) := by decide +kernel
theorem dX1_doAgain_24 : decode cX1_doAgain 24 = .ok (.iconst 1, 1) := by decide +kernel
theorem dX1_doAgain_25 : decode cX1_doAgain 25 = .ok (.isub, 1) := by decide +kernel
theorem dX1_doAgain_26 : decode cX1_doAgain 26 = .ok (.putfield 15, 3) := by decide +kernel
theorem dX1_doAgain_29 : decode cX1_doAgain 29 = .ok (.aload_n 0, 1) := by decide +kernel
theorem dX1_doAgain_30 : decode cX1_doAgain 30 = .ok (.getfield 33, 3) := by decide +kernel
theorem dX1_doAgain_33 : decode cX1_doAgain 33 = .ok (.aload_n 0, 1) := by decide +kernel
theorem dX1_doAgain_34 : decode cX1_doAgain 34 = .ok (.getfield 20, 3) := by decide +kernel
theorem dX1_doAgain_37 : decode cX1_doAgain 37 = .ok (.aload_n 0, 1) := by decide +kernel
theorem dX1_doAgain_38 : decode cX1_doAgain 38 = .ok (.aload_n 0, 1) := by decide +kernel
theorem dX1_doAgain_39 : decode cX1_doAgain 39 = .ok (.getfield 11, 3) := by decide +kernel
theorem dX1_doAgain_42 : decode cX1_doAgain 42 = .ok (.invokevirtual 37, 3) := by decide +kernel
theorem dX1_doAgain_45 : decode cX1_doAgain 45 = .ok (.invokevirtual 45, 3) := by decide +kernel
theorem dX1_doAgain_48 : decode cX1_doAgain 48 = .ok (.iconst 1, 1) := by decide +kernel
theorem dX1_doAgain_49 : decode cX1_doAgain 49 = .ok (.ireturn, 1) := by decide +kernel
theorem dX1_keepImage_0 : decode cX1_keepImage 0 = .ok (.aload_n 0, 1) := by decide +kernel
theorem dX1_keepImage_1 : decode cX1_keepImage 1 = .ok (.getfield 33, 3) := by decide +kernel
theorem dX1_keepImage_4 : decode cX1_keepImage 4 = .ok (.aload_n 0, 1) := by decide +kernel
theorem dX1_keepImage_5 : decode cX1_keepImage 5 = .ok (.getfield 27, 3) := by decide +kernel
theorem dX1_keepImage_8 : decode cX1_keepImage 8 = .ok (.iload_n 1, 1) := by decide +kernel
theorem dX1_keepImage_9 : decode cX1_keepImage 9 = .ok (.bipush 24, 2) := by decide +kernel
theorem dX1_keepImage_11 : decode cX1_keepImage 11 = .ok (.imul, 1) := by decide +kernel
theorem dX1_keepImage_12 : decode cX1_keepImage 12 = .ok (.invokevirtual 41, 3) := by decide +kernel
theorem dX1_keepImage_15 : decode cX1_keepImage 15 = .ok (.aload_n 0, 1) := by decide +kernel
theorem dX1_keepImage_16 : decode cX1_keepImage 16 = .ok (.dup, 1) := by decide +kernel
theorem dX1_keepImage_17 : decode cX1_keepImage 17 = .ok (.getfield 30, 3) := by decide +kernel
theorem dX1_keepImage_20 : decode cX1_keepImage 20 = .ok (.iconst 1, 1) := by decide +kernel
theorem dX1_keepImage_21 : decode cX1_keepImage 21 = .ok (.iload_n 1, 1) := by decide +kernel
theorem dX1_keepImage_22 : decode cX1_keepImage 22 = .ok (.ishl, 1) := by decide +kernel
theorem dX1_keepImage_23 : decode cX1_keepImage 23 = .ok (.ior, 1) := by decide +kernel
theorem dX1_keepImage_24 : decode cX1_keepImage 24 = .ok (.putfield 30, 3) := by decide +kernel
theorem dX1_keepImage_27 : decode cX1_keepImage 27 = .ok (.return_, 1) := by decide +kernel
theorem dX1_goBack_0 : decode cX1_goBack 0 = .ok (.aload_n 0, 1) := by decide +kernel
theorem dX1_goBack_1 : decode cX1_goBack 1 = .ok (.getfield 30, 3) := by decide +kernel
theorem dX1_goBack_4 : decode cX1_goBack 4 = .ok (.iload_n 1, 1) := by decide +kernel
theorem dX1_goBack_5 : decode cX1_goBack 5 = .ok (.ishr, 1) := by decide +kernel
theorem dX1_goBack_6 : decode cX1_goBack 6 = .ok (.iconst 1, 1) := by decide +kernel
theorem dX1_goBack_7 : decode cX1_goBack 7 = .ok (.iand, 1) := by decide +kernel
theorem dX1_goBack_8 : decode cX1_goBack 8 = .ok (.ifCond .ne 5, 3) := by decide +kernel
theorem dX1_goBack_11 : decode cX1_goBack 11 = .ok (.iconst 0, 1) := by decide +kernel
theorem dX1_goBack_12 : decode cX1_goBack 12 = .ok (.ireturn, 1) := by decide +kernel
theorem dX1_goBack_13 : decode cX1_goBack 13 = .ok (.aload_n 0, 1) := by decide +kernel
theorem dX1_goBack_14 : decode cX1_goBack 14 = .ok (.getfield 33, 3) := by decide +kernel
theorem dX1_goBack_17 : decode cX1_goBack 17 = .ok (.aload_n 0, 1) := by decide +kernel
theorem dX1_goBack_18 : decode cX1_goBack 18 = .ok (.getfield 27, 3) := by decide +kernel
theorem dX1_goBack_21 : decode cX1_goBack 21 = .ok (.iload_n 1, 1) := by decide +kernel
theorem dX1_goBack_22 : decode cX1_goBack 22 = .ok (.bipush 24, 2) := by decide +kernel
theorem dX1_goBack_24 : decode cX1_goBack 24 = .ok (.imul, 1) := by decide +kernel
theorem dX1_goBack_25 : decode cX1_goBack 25 = .ok (.invokevirtual 45, 3) := by decide +kernel
theorem dX1_goBack_28 : decode cX1_goBack 28 = .ok (.aload_n 0, 1) := by decide +kernel
theorem dX1_goBack_29 : decode cX1_goBack 29 = .ok (.invokevirtual 48, 3) := by decide +kernel
theorem dX1_goBack_32 : decode cX1_goBack 32 = .ok (.iconst 1, 1) := by decide +kernel
theorem dX1_goBack_33 : decode cX1_goBack 33 = .ok (.ireturn, 1) := by decide +kernel
theorem dX2_init_0 : decode cX2_init 0 = .ok (.aload_n 0, 1) := by decide +kernel
theorem dX2_init_1 : decode cX2_init 1 = .ok (.invokespecial 1, 3) := by decide +kernel
theorem dX2_init_4 : decode cX2_init 4 = .ok (.aload_n 0, 1) := by decide +kernel
theorem dX2_init_5 : decode cX2_init 5 = .ok (.iconst 0, 1) := by decide +kernel
theorem dX2_init_6 : decode cX2_init 6 = .ok (.putfield 7, 3) := by decide +kernel
theorem dX2_init_9 : decode cX2_init 9 = .ok (.aload_n 0, 1) := by decide +kernel
theorem dX2_init_10 : decode cX2_init 10 = .ok (.bipush 7, 2) := by decide +kernel
theorem dX2_init_12 : decode cX2_init 12 = .ok (.newarray .int, 2) := by decide +kernel
theorem dX2_init_14 : decode cX2_init 14 = .ok (.putfield 13, 3) := by decide +kernel
theorem dX2_init_17 : decode cX2_init 17 = .ok (.aload_n 0, 1) := by decide +kernel
theorem dX2_init_18 : decode cX2_init 18 = .ok (.bipush 7, 2) := by decide +kernel
theorem dX2_init_20 : decode cX2_init 20 = .ok (.newarray .int, 2) := by decide +kernel
theorem dX2_init_22 : decode cX2_init 22 = .ok (.putfield 17, 3) := by decide +kernel
theorem dX2_init_25 : decode cX2_init 25 = .ok (.aload_n 0, 1) := by decide +kernel
theorem dX2_init_26 : decode cX2_init 26 = .ok (.bipush 7, 2) := by decide +kernel
theorem dX2_init_28 : decode cX2_init 28 = .ok (.newarray .int, 2) := by decide +kernel
theorem dX2_init_30 : decode cX2_init 30 = .ok (.putfield 20, 3) := by decide +kernel
theorem dX2_init_33 : decode cX2_init 33 = .ok (.aload_n 0, 1) := by decide +kernel
theorem dX2_init_34 : decode cX2_init 34 = .ok (.bipush 7, 2) := by decide +kernel
theorem dX2_init_36 : decode cX2_init 36 = .ok (.newarray .int, 2) := by decide +kernel
theorem dX2_init_38 : decode cX2_init 38 = .ok (.putfield 23, 3) := by decide +kernel
theorem dX2_init_41 : decode cX2_init 41 = .ok (.aload_n 0, 1) := by decide +kernel
theorem dX2_init_42 : decode cX2_init 42 = .ok (.bipush 7, 2) := by decide +kernel
theorem dX2_init_44 : decode cX2_init 44 = .ok (.newarray .int, 2) := by decide +kernel
theorem dX2_init_46 : decode cX2_init 46 = .ok (.putfield 26, 3) := by decide +kernel
theorem dX2_init_49 : decode cX2_init 49 = .ok (.aload_n 0, 1) := by decide +kernel
theorem dX2_init_50 : decode cX2_init 50 = .ok (.bipush 7, 2) := by decide +kernel
theorem dX2_init_52 : decode cX2_init 52 = .ok (.newarray .int, 2) := by decide +kernel
theorem dX2_init_54 : decode cX2_init 54 = .ok (.putfield 29, 3) := by decide +kernel
theorem dX2_init_57 : decode cX2_init 57 = .ok (.aload_n 0, 1) := by decide +kernel
theorem dX2_init_58 : decode cX2_init 58 = .ok (.bipush 49, 2) := by decide +kernel
theorem dX2_init_60 : decode cX2_init 60 = .ok (.newarray .int, 2) := by decide +kernel
theorem dX2_init_62 : decode cX2_init 62 = .ok (.putfield 32, 3) := by decide +kernel
theorem dX2_init_65 : decode cX2_init 65 = .ok (.aload_n 0, 1) := by decide +kernel
theorem dX2_init_66 : decode cX2_init 66 = .ok (.iconst 0, 1) := by decide +kernel
theorem dX2_init_67 : decode cX2_init 67 = .ok (.putfield 35, 3) := by decide +kernel
theorem dX2_init_70 : decode cX2_init 70 = .ok (.aload_n 0, 1) := by decide +kernel
theorem dX2_init_71 : decode cX2_init 71 = .ok (.bipush 100, 2) := by decide +kernel
theorem dX2_init_73 : decode cX2_init 73 = .ok (.putfield 38, 3) := by decide +kernel
theorem dX2_init_76 : decode cX2_init 76 = .ok (.aload_n 0, 1) := by decide +kernel
theorem dX2_init_77 : decode cX2_init 77 = .ok (.iconst 0, 1) := by decide +kernel
theorem dX2_init_78 : decode cX2_init 78 = .ok (.putfield 41, 3) := by decide +kernel
theorem dX2_init_81 : decode cX2_init 81 = .ok (.aload_n 0, 1) := by decide +kernel
theorem dX2_init_82 : decode cX2_init 82 = .ok (.iconst 0, 1) := by decide +kernel
theorem dX2_init_83 : decode cX2_init 83 = .ok (.putfield 44, 3) := by decide +kernel
theorem dX2_init_86 : decode cX2_init 86 = .ok (.aload_n 0, 1) := by decide +kernel
theorem dX2_init_87 : decode cX2_init 87 = .ok (.new 47, 3) := by decide +kernel
theorem dX2_init_90 : decode cX2_init 90 = .ok (.dup, 1) := by decide +kernel
theorem dX2_init_91 : decode cX2_init 91 = .ok (.invokespecial 49, 3) := by decide +kernel
theorem dX2_init_94 : decode cX2_init 94 = .ok (.putfield 50, 3) := by decide +kernel
theorem dX2_init_97 : decode cX2_init 97 = .ok (.aload_n 0, 1) := by decide +kernel
theorem dX2_init_98 : decode cX2_init 98 = .ok (.new 47, 3) := by decide +kernel
theorem dX2_init_101 : decode cX2_init 101 = .ok (.dup, 1) := by decide +kernel
theorem dX2_init_102 : decode cX2_init 102 = .ok (.invokespecial 49, 3) := by decide +kernel
theorem dX2_init_105 : decode cX2_init 105 = .ok (.putfield 54, 3) := by decide +kernel
theorem dX2_init_108 : decode cX2_init 108 = .ok (.aload_n 0, 1) := by decide +kernel
theorem dX2_init_109 : decode cX2_init 109 = .ok (.invokevirtual 57, 3) := by decide +kernel
theorem dX2_init_112 : decode cX2_init 112 = .ok (.return_, 1) := by decide +kernel
theorem dX2_clear_0 : decode cX2_clear 0 = .ok (.aload_n 0, 1) := by decide +kernel
theorem dX2_clear_1 : decode cX2_clear 1 = .ok (.iconst 0, 1) := by decide +kernel
theorem dX2_clear_2 : decode cX2_clear 2 = .ok (.putfield 7, 3) := by decide +kernel
theorem dX2_clear_5 : decode cX2_clear 5 = .ok (.aload_n 0, 1) := by decide +kernel
theorem dX2_clear_6 : decode cX2_clear 6 = .ok (.iconst 0, 1) := by decide +kernel
theorem dX2_clear_7 : decode cX2_clear 7 = .ok (.putfield 35, 3) := by decide +kernel
theorem dX2_clear_10 : decode cX2_clear 10 = .ok (.aload_n 0, 1) := by decide +kernel
theorem dX2_clear_11 : decode cX2_clear 11 = .ok (.bipush 100, 2) := by decide +kernel
theorem dX2_clear_13 : decode cX2_clear 13 = .ok (.putfield 38, 3) := by decide +kernel
theorem dX2_clear_16 : decode cX2_clear 16 = .ok (.aload_n 0, 1) := by decide +kernel
theorem dX2_clear_17 : decode cX2_clear 17 = .ok (.iconst 0, 1) := by decide +kernel
theorem dX2_clear_18 : decode cX2_clear 18 = .ok (.putfield 41, 3) := by decide +kernel
theorem dX2_clear_21 : decode cX2_clear 21 = .ok (.aload_n 0, 1) := by decide +kernel
theorem dX2_clear_22 : decode cX2_clear 22 = .ok (.iconst 0, 1) := by decide +kernel
theorem dX2_clear_23 : decode cX2_clear 23 = .ok (.putfield 44, 3) := by decide +kernel
theorem dX2_clear_26 : decode cX2_clear 26 = .ok (.iconst 0, 1) := by decide +kernel
theorem dX2_clear_27 : decode cX2_clear 27 = .ok (.istore_n 1, 1) := by decide +kernel
theorem dX2_clear_28 : decode cX2_clear 28 = .ok (.iload_n 1, 1) := by decide +kernel
theorem dX2_clear_29 : decode cX2_clear 29 = .ok (.bipush 7, 2) := by decide +kernel
theorem dX2_clear_31 : decode cX2_clear 31 = .ok (.if_icmp .ge 23, 3) := by decide +kernel
theorem dX2_clear_34 : decode cX2_clear 34 = .ok (.aload_n 0, 1) := by decide +kernel
theorem dX2_clear_35 : decode cX2_clear 35 = .ok (.getfield 26, 3) := by decide +kernel
theorem dX2_clear_38 : decode cX2_clear 38 = .ok (.iload_n 1, 1) := by decide +kernel
theorem dX2_clear_39 : decode cX2_clear 39 = .ok (.iconst 0, 1) := by decide +kernel
theorem dX2_clear_40 : decode cX2_clear 40 = .ok (.iastore, 1) := by decide +kernel
theorem dX2_clear_41 : decode cX2_clear 41 = .ok (.aload_n 0, 1) := by decide +kernel
theorem dX2_clear_42 : decode cX2_clear 42 = .ok (.getfield 29, 3) := by decide +kernel
theorem dX2_clear_45 : decode cX2_clear 45 = .ok (.iload_n 1, 1) := by decide +kernel
theorem dX2_clear_46 : decode cX2_clear 46 = .ok (.iconst 0, 1) := by decide +kernel
theorem dX2_clear_47 : decode cX2_clear 47 = .ok (.iastore, 1) := by decide +kernel
theorem dX2_clear_48 : decode cX2_clear 48 = .ok (.iinc 1 1, 3) := by decide +kernel
theorem dX2_clear_51 : decode cX2_clear 51 = .ok (.goto (-23), 3) := by decide +kernel
theorem dX2_clear_54 : decode cX2_clear 54 = .ok (.iconst 0, 1) := by decide +kernel
theorem dX2_clear_55 : decode cX2_clear 55 = .ok (.istore_n 1, 1) := by decide +kernel
theorem dX2_clear_56 : decode cX2_clear 56 = .ok (.iload_n 1, 1) := by decide +kernel
theorem dX2_clear_57 : decode cX2_clear 57 = .ok (.bipush 49, 2) := by decide +kernel
theorem dX2_clear_59 : decode cX2_clear 59 = .ok (.if_icmp .ge 16, 3) := by decide +kernel
theorem dX2_clear_62 : decode cX2_clear 62 = .ok (.aload_n 0, 1) := by decide +kernel
theorem dX2_clear_63 : decode cX2_clear 63 = .ok (.getfield 32, 3) := by decide +kernel
theorem dX2_clear_66 : decode cX2_clear 66 = .ok (.iload_n 1, 1) := by decide +kernel
theorem dX2_clear_67 : decode cX2_clear 67 = .ok (.iconst 0, 1) := by decide +kernel
theorem dX2_clear_68 : decode cX2_clear 68 = .ok (.iastore, 1) := by decide +kernel
theorem dX2_clear_69 : decode cX2_clear 69 = .ok (.iinc 1 1, 3) := by decide +kernel
theorem dX2_clear_72 : decode cX2_clear 72 = .ok (.goto (-16), 3) := by decide +kernel
theorem dX2_clear_75 : decode cX2_clear 75 = .ok (.aload_n 0, 1) := by decide +kernel
theorem dX2_clear_76 : decode cX2_clear 76 = .ok (.getfield 50, 3) := by decide +kernel
theorem dX2_clear_79 : decode cX2_clear 79 = .ok (.invokevirtual 60, 3) := by decide +kernel
theorem dX2_clear_82 : decode cX2_clear 82 = .ok (.aload_n 0, 1) := by decide +kernel
theorem dX2_clear_83 : decode cX2_clear 83 = .ok (.getfield 50, 3) := by decide +kernel
theorem dX2_clear_86 : decode cX2_clear 86 = .ok (.bipush (-100), 2) := by decide +kernel
theorem dX2_clear_88 : decode cX2_clear 88 = .ok (.invokevirtual 63, 3) := by decide +kernel
theorem dX2_clear_91 : decode cX2_clear 91 = .ok (.aload_n 0, 1) := by decide +kernel
theorem dX2_clear_92 : decode cX2_clear 92 = .ok (.getfield 54, 3) := by decide +kernel
theorem dX2_clear_95 : decode cX2_clear 95 = .ok (.invokevirtual 60, 3) := by decide +kernel
theorem dX2_clear_98 : decode cX2_clear 98 = .ok (.aload_n 0, 1) := by decide +kernel
theorem dX2_clear_99 : decode cX2_clear 99 = .ok (.getfield 54, 3) := by decide +kernel
theorem dX2_clear_102 : decode cX2_clear 102 = .ok (.bipush 100, 2) := by decide +kernel
theorem dX2_clear_104 : decode cX2_clear 104 = .ok (.invokevirtual 63, 3) := by decide +kernel
theorem dX2_clear_107 : decode cX2_clear 107 = .ok (.return_, 1) := by decide +kernel
theorem dX2_copy_0 : decode cX2_copy 0 = .ok (.aload_n 0, 1) := by decide +kernel
theorem dX2_copy_1 : decode cX2_copy 1 = .ok (.aload_n 1, 1) := by decide +kernel
theorem dX2_copy_2 : decode cX2_copy 2 = .ok (.getfield 7, 3) := by decide +kernel
theorem dX2_copy_5 : decode cX2_copy 5 = .ok (.putfield 7, 3) := by decide +kernel
theorem dX2_copy_8 : decode cX2_copy 8 = .ok (.aload_n 0, 1) := by decide +kernel
theorem dX2_copy_9 : decode cX2_copy 9 = .ok (.aload_n 1, 1) := by decide +kernel
theorem dX2_copy_10 : decode cX2_copy 10 = .ok (.getfield 35, 3) := by decide +kernel
theorem dX2_copy_13 : decode cX2_copy 13 = .ok (.putfield 35, 3) := by decide +kernel
theorem dX2_copy_16 : decode cX2_copy 16 = .ok (.aload_n 0, 1) := by decide +kernel
theorem dX2_copy_17 : decode cX2_copy 17 = .ok (.aload_n 1, 1) := by decide +kernel
theorem dX2_copy_18 : decode cX2_copy 18 = .ok (.getfield 38, 3) := by decide +kernel
theorem dX2_copy_21 : decode cX2_copy 21 = .ok (.putfield 38, 3) := by decide +kernel
theorem dX2_copy_24 : decode cX2_copy 24 = .ok (.aload_n 0, 1) := by decide +kernel
theorem dX2_copy_25 : decode cX2_copy 25 = .ok (.aload_n 1, 1) := by decide +kernel
theorem dX2_copy_26 : decode cX2_copy 26 = .ok (.getfield 41, 3) := by decide +kernel
theorem dX2_copy_29 : decode cX2_copy 29 = .ok (.putfield 41, 3) := by decide +kernel
theorem dX2_copy_32 : decode cX2_copy 32 = .ok (.aload_n 0, 1) := by decide +kernel
theorem dX2_copy_33 : decode cX2_copy 33 = .ok (.aload_n 1, 1) := by decide +kernel
theorem dX2_copy_34 : decode cX2_copy 34 = .ok (.getfield 44, 3) := by decide +kernel
theorem dX2_copy_37 : decode cX2_copy 37 = .ok (.putfield 44, 3) := by decide +kernel
theorem dX2_copy_40 : decode cX2_copy 40 = .ok (.aload_n 1, 1) := by decide +kernel
theorem dX2_copy_41 : decode cX2_copy 41 = .ok (.getfield 13, 3) := by decide +kernel
theorem dX2_copy_44 : decode cX2_copy 44 = .ok (.iconst 0, 1) := by decide +kernel
theorem dX2_copy_45 : decode cX2_copy 45 = .ok (.aload_n 0, 1) := by decide +kernel
theorem dX2_copy_46 : decode cX2_copy 46 = .ok (.getfield 13, 3) := by decide +kernel
theorem dX2_copy_49 : decode cX2_copy 49 = .ok (.iconst 0, 1) := by decide +kernel
theorem dX2_copy_50 : decode cX2_copy 50 = .ok (.bipush 7, 2) := by decide +kernel
theorem dX2_copy_52 : decode cX2_copy 52 = .ok (.invokestatic 67, 3) := by decide +kernel
theorem dX2_copy_55 : decode cX2_copy 55 = .ok (.aload_n 1, 1) := by decide +kernel
theorem dX2_copy_56 : decode cX2_copy 56 = .ok (.getfield 17, 3) := by decide +kernel
theorem dX2_copy_59 : decode cX2_copy 59 = .ok (.iconst 0, 1) := by decide +kernel
theorem dX2_copy_60 : decode cX2_copy 60 = .ok (.aload_n 0, 1) := by decide +kernel
theorem dX2_copy_61 : decode cX2_copy 61 = .ok (.getfield 17, 3) := by decide +kernel
theorem dX2_copy_64 : decode cX2_copy 64 = .ok (.iconst 0, 1) := by decide +kernel
theorem dX2_copy_65 : decode cX2_copy 65 = .ok (.bipush 7, 2) := by decide +kernel
theorem dX2_copy_67 : decode cX2_copy 67 = .ok (.invokestatic 67, 3) := by decide +kernel
theorem dX2_copy_70 : decode cX2_copy 70 = .ok (.aload_n 1, 1) := by decide +kernel
theorem dX2_copy_71 : decode cX2_copy 71 = .ok (.getfield 20, 3) := by decide +kernel
theorem dX2_copy_74 : decode cX2_copy 74 = .ok (.iconst 0, 1) := by decide +kernel
theorem dX2_copy_75 : decode cX2_copy 75 = .ok (.aload_n 0, 1) := by decide +kernel
theorem dX2_copy_76 : decode cX2_copy 76 = .ok (.getfield 20, 3) := by decide +kernel
theorem dX2_copy_79 : decode cX2_copy 79 = .ok (.iconst 0, 1) := by decide +kernel
theorem dX2_copy_80 : decode cX2_copy 80 = .ok (.bipush 7, 2) := by decide +kernel
theorem dX2_copy_82 : decode cX2_copy 82 = .ok (.invokestatic 67, 3) := by decide +kernel
theorem dX2_copy_85 : decode cX2_copy 85 = .ok (.aload_n 1, 1) := by decide +kernel
theorem dX2_copy_86 : decode cX2_copy 86 = .ok (.getfield 23, 3) := by decide +kernel
theorem dX2_copy_89 : decode cX2_copy 89 = .ok (.iconst 0, 1) := by decide +kernel
theorem dX2_copy_90 : decode cX2_copy 90 = .ok (.aload_n 0, 1) := by decide +kernel
theorem dX2_copy_91 : decode cX2_copy 91 = .ok (.getfield 23, 3) := by decide +kernel
theorem dX2_copy_94 : decode cX2_copy 94 = .ok (.iconst 0, 1) := by decide +kernel
theorem dX2_copy_95 : decode cX2_copy 95 = .ok (.bipush 7, 2) := by decide +kernel
theorem dX2_copy_97 : decode cX2_copy 97 = .ok (.invokestatic 67, 3) := by decide +kernel
theorem dX2_copy_100 : decode cX2_copy 100 = .ok (.aload_n 1, 1) := by decide +kernel
theorem dX2_copy_101 : decode cX2_copy 101 = .ok (.getfield 26, 3) := by decide +kernel
theorem dX2_copy_104 : decode cX2_copy 104 = .ok (.iconst 0, 1) := by decide +kernel
theorem dX2_copy_105 : decode cX2_copy 105 = .ok (.aload_n 0, 1) := by decide +kernel
theorem dX2_copy_106 : decode cX2_copy 106 = .ok (.getfield 26, 3) := by decide +kernel
theorem dX2_copy_109 : decode cX2_copy 109 = .ok (.iconst 0, 1) := by decide +kernel
theorem dX2_copy_110 : decode cX2_copy 110 = .ok (.bipush 7, 2) := by decide +kernel
theorem dX2_copy_112 : decode cX2_copy 112 = .ok (.invokestatic 67, 3) := by decide +kernel
theorem dX2_copy_115 : decode cX2_copy 115 = .ok (.aload_n 1, 1) := by decide +kernel
theorem dX2_copy_116 : decode cX2_copy 116 = .ok (.getfield 29, 3) := by decide +kernel
theorem dX2_copy_119 : decode cX2_copy 119 = .ok (.iconst 0, 1) := by decide +kernel
theorem dX2_copy_120 : decode cX2_copy 120 = .ok (.aload_n 0, 1) := by decide +kernel
theorem dX2_copy_121 : decode cX2_copy 121 = .ok (.getfield 29, 3) := by decide +kernel
theorem dX2_copy_124 : decode cX2_copy 124 = .ok (.iconst 0, 1) := by decide +kernel
theorem dX2_copy_125 : decode cX2_copy 125 = .ok (.bipush 7, 2) := by decide +kernel
theorem dX2_copy_127 : decode cX2_copy 127 = .ok (.invokestatic 67, 3) := by decide +kernel
theorem dX2_copy_130 : decode cX2_copy 130 = .ok (.aload_n 1, 1) := by decide +kernel
theorem dX2_copy_131 : decode cX2_copy 131 = .ok (.getfield 32, 3) := by decide +kernel
theorem dX2_copy_134 : decode cX2_copy 134 = .ok (.iconst 0, 1) := by decide +kernel
theorem dX2_copy_135 : decode cX2_copy 135 = .ok (.aload_n 0, 1) := by decide +kernel
theorem dX2_copy_136 : decode cX2_copy 136 = .ok (.getfield 32, 3) := by decide +kernel
theorem dX2_copy_139 : decode cX2_copy 139 = .ok (.iconst 0, 1) := by decide +kernel
theorem dX2_copy_140 : decode cX2_copy 140 = .ok (.bipush 49, 2) := by decide +kernel
theorem dX2_copy_142 : decode cX2_copy 142 = .ok (.invokestatic 67, 3) := by decide +kernel
theorem dX2_copy_145 : decode cX2_copy 145 = .ok (.aload_n 0, 1) := by decide +kernel
theorem dX2_copy_146 : decode cX2_copy 146 = .ok (.getfield 50, 3) := by decide +kernel
theorem dX2_copy_149 : decode cX2_copy 149 = .ok (.aload_n 1, 1) := by decide +kernel
theorem dX2_copy_150 : decode cX2_copy 150 = .ok (.getfield 50, 3) := by decide +kernel
theorem dX2_copy_153 : decode cX2_copy 153 = .ok (.invokevirtual 73, 3) := by decide +kernel
theorem dX2_copy_156 : decode cX2_copy 156 = .ok (.aload_n 0, 1) := by decide +kernel
theorem dX2_copy_157 : decode cX2_copy 157 = .ok (.getfield 54, 3) := by decide +kernel
theorem dX2_copy_160 : decode cX2_copy 160 = .ok (.aload_n 1, 1) := by decide +kernel
theorem dX2_copy_161 : decode cX2_copy 161 = .ok (.getfield 54, 3) := by decide +kernel
theorem dX2_copy_164 : decode cX2_copy 164 = .ok (.invokevirtual 73, 3) := by decide +kernel
theorem dX2_copy_167 : decode cX2_copy 167 = .ok (.return_, 1) := by decide +kernel
theorem dX2_crowdOf_0 : decode cX2_crowdOf 0 = .ok (.iconst 1, 1) := by decide +kernel
theorem dX2_crowdOf_1 : decode cX2_crowdOf 1 = .ok (.iload_n 1, 1) := by decide +kernel
theorem dX2_crowdOf_2 : decode cX2_crowdOf 2 = .ok (.ishl, 1) := by decide +kernel
theorem dX2_crowdOf_3 : decode cX2_crowdOf 3 = .ok (.istore_n 2, 1) := by decide +kernel
theorem dX2_crowdOf_4 : decode cX2_crowdOf 4 = .ok (.iconst 0, 1) := by decide +kernel
theorem dX2_crowdOf_5 : decode cX2_crowdOf 5 = .ok (.istore_n 3, 1) := by decide +kernel
theorem dX2_crowdOf_6 : decode cX2_crowdOf 6 = .ok (.iload_n 3, 1) := by decide +kernel
theorem dX2_crowdOf_7 : decode cX2_crowdOf 7 = .ok (.aload_n 0, 1) := by decide +kernel
theorem dX2_crowdOf_8 : decode cX2_crowdOf 8 = .ok (.getfield 7, 3) := by decide +kernel
theorem dX2_crowdOf_11 : decode cX2_crowdOf 11 = .ok (.if_icmp .ge 50, 3) := by decide +kernel
theorem dX2_crowdOf_14 : decode cX2_crowdOf 14 = .ok (.iconst 0, 1) := by decide +kernel
theorem dX2_crowdOf_15 : decode cX2_crowdOf 15 = .ok (.istore 4, 2) := by decide +kernel
theorem dX2_crowdOf_17 : decode cX2_crowdOf 17 = .ok (.iload 4, 2) := by decide +kernel
theorem dX2_crowdOf_19 : decode cX2_crowdOf 19 = .ok (.aload_n 0, 1) := by decide +kernel
theorem dX2_crowdOf_20 : decode cX2_crowdOf 20 = .ok (.getfield 7, 3) := by decide +kernel
theorem dX2_crowdOf_23 : decode cX2_crowdOf 23 = .ok (.if_icmp .ge 32, 3) := by decide +kernel
theorem dX2_crowdOf_26 : decode cX2_crowdOf 26 = .ok (.iload_n 2, 1) := by decide +kernel
theorem dX2_crowdOf_27 : decode cX2_crowdOf 27 = .ok (.iload_n 2, 1) := by decide +kernel
theorem dX2_crowdOf_28 : decode cX2_crowdOf 28 = .ok (.iload 4, 2) := by decide +kernel
theorem dX2_crowdOf_30 : decode cX2_crowdOf 30 = .ok (.ishr, 1) := by decide +kernel
theorem dX2_crowdOf_31 : decode cX2_crowdOf 31 = .ok (.iconst 1, 1) := by decide +kernel
theorem dX2_crowdOf_32 : decode cX2_crowdOf 32 = .ok (.iand, 1) := by decide +kernel
theorem dX2_crowdOf_33 : decode cX2_crowdOf 33 = .ok (.ifCond .eq 13, 3) := by decide +kernel
theorem dX2_crowdOf_36 : decode cX2_crowdOf 36 = .ok (.aload_n 0, 1) := by decide +kernel
theorem dX2_crowdOf_37 : decode cX2_crowdOf 37 = .ok (.getfield 29, 3) := by decide +kernel
theorem dX2_crowdOf_40 : decode cX2_crowdOf 40 = .ok (.iload 4, 2) := by decide +kernel
theorem dX2_crowdOf_42 : decode cX2_crowdOf 42 = .ok (.iaload, 1) := by decide +kernel
theorem dX2_crowdOf_43 : decode cX2_crowdOf 43 = .ok (.goto 4, 3) := by decide +kernel
theorem dX2_crowdOf_46 : decode cX2_crowdOf 46 = .ok (.iconst 0, 1) := by decide +kernel
theorem dX2_crowdOf_47 : decode cX2_crowdOf 47 = .ok (.ior, 1) := by decide +kernel
theorem dX2_crowdOf_48 : decode cX2_crowdOf 48 = .ok (.istore_n 2, 1) := by decide +kernel
theorem dX2_crowdOf_49 : decode cX2_crowdOf 49 = .ok (.iinc 4 1, 3) := by decide +kernel
theorem dX2_crowdOf_52 : decode cX2_crowdOf 52 = .ok (.goto (-35), 3) := by decide +kernel
theorem dX2_crowdOf_55 : decode cX2_crowdOf 55 = .ok (.iinc 3 1, 3) := by decide +kernel
theorem dX2_crowdOf_58 : decode cX2_crowdOf 58 = .ok (.goto (-52), 3) := by decide +kernel
theorem dX2_crowdOf_61 : decode cX2_crowdOf 61 = .ok (.iload_n 2, 1) := by decide +kernel
theorem dX2_crowdOf_62 : decode cX2_crowdOf 62 = .ok (.ireturn, 1) := by decide +kernel
theorem dX3_init_0 : decode cX3_init 0 = .ok (.aload_n 0, 1) := by decide +kernel
theorem dX3_init_1 : decode cX3_init 1 = .ok (.invokespecial 1, 3) := by decide +kernel
theorem dX3_init_4 : decode cX3_init 4 = .ok (.aload_n 0, 1) := by decide +kernel
theorem dX3_init_5 : decode cX3_init 5 = .ok (.bipush 7, 2) := by decide +kernel
theorem dX3_init_7 : decode cX3_init 7 = .ok (.newarray .int, 2) := by decide +kernel
theorem dX3_init_9 : decode cX3_init 9 = .ok (.putfield 9, 3) := by decide +kernel
theorem dX3_init_12 : decode cX3_init 12 = .ok (.aload_n 0, 1) := by decide +kernel
theorem dX3_init_13 : decode cX3_init 13 = .ok (.bipush 7, 2) := by decide +kernel
theorem dX3_init_15 : decode cX3_init 15 = .ok (.newarray .int, 2) := by decide +kernel
theorem dX3_init_17 : decode cX3_init 17 = .ok (.putfield 15, 3) := by decide +kernel
theorem dX3_init_20 : decode cX3_init 20 = .ok (.aload_n 0, 1) := by decide +kernel
theorem dX3_init_21 : decode cX3_init 21 = .ok (.iconst 0, 1) := by decide +kernel
theorem dX3_init_22 : decode cX3_init 22 = .ok (.putfield 18, 3) := by decide +kernel
theorem dX3_init_25 : decode cX3_init 25 = .ok (.aload_n 0, 1) := by decide +kernel
theorem dX3_init_26 : decode cX3_init 26 = .ok (.new 22, 3) := by decide +kernel
theorem dX3_init_29 : decode cX3_init 29 = .ok (.dup, 1) := by decide +kernel
theorem dX3_init_30 : decode cX3_init 30 = .ok (.aload_n 1, 1) := by decide +kernel
theorem dX3_init_31 : decode cX3_init 31 = .ok (.invokespecial 24, 3) := by decide +kernel
theorem dX3_init_34 : decode cX3_init 34 = .ok (.putfield 27, 3) := by decide +kernel
theorem dX3_init_37 : decode cX3_init 37 = .ok (.return_, 1) := by decide +kernel
theorem dX3_goOn_0 : decode cX3_goOn 0 = .ok (.aload_n 0, 1) := by decide +kernel
theorem dX3_goOn_1 : decode cX3_goOn 1 = .ok (.getfield 27, 3) := by decide +kernel
theorem dX3_goOn_4 : decode cX3_goOn 4 = .ok (.aload_n 1, 1) := by decide +kernel
theorem dX3_goOn_5 : decode cX3_goOn 5 = .ok (.invokevirtual 31, 3) := by decide +kernel
theorem dX3_goOn_8 : decode cX3_goOn 8 = .ok (.aload_n 0, 1) := by decide +kernel
theorem dX3_goOn_9 : decode cX3_goOn 9 = .ok (.invokevirtual 35, 3) := by decide +kernel
theorem dX3_goOn_12 : decode cX3_goOn 12 = .ok (.ireturn, 1) := by decide +kernel
theorem dX3_follow_0 : decode cX3_follow 0 = .ok (.aload_n 0, 1) := by decide +kernel
theorem dX3_follow_1 : decode cX3_follow 1 = .ok (.iconst 0, 1) := by decide +kernel
theorem dX3_follow_2 : decode cX3_follow 2 = .ok (.putfield 18, 3) := by decide +kernel
theorem dX3_follow_5 : decode cX3_follow 5 = .ok (.iconst 0, 1) := by decide +kernel
theorem dX3_follow_6 : decode cX3_follow 6 = .ok (.istore_n 1, 1) := by decide +kernel
theorem dX3_follow_7 : decode cX3_follow 7 = .ok (.iload_n 1, 1) := by decide +kernel
theorem dX3_follow_8 : decode cX3_follow 8 = .ok (.bipush 7, 2) := by decide +kernel
theorem dX3_follow_10 : decode cX3_follow 10 = .ok (.if_icmp .ge 65, 3) := by decide +kernel
theorem dX3_follow_13 : decode cX3_follow 13 = .ok (.aload_n 0, 1) := by decide +kernel
theorem dX3_follow_14 : decode cX3_follow 14 = .ok (.getfield 27, 3) := by decide +kernel
theorem dX3_follow_17 : decode cX3_follow 17 = .ok (.invokevirtual 39, 3) := by decide +kernel
theorem dX3_follow_20 : decode cX3_follow 20 = .ok (.istore_n 2, 1) := by decide +kernel
theorem dX3_follow_21 : decode cX3_follow 21 = .ok (.iload_n 2, 1) := by decide +kernel
theorem dX3_follow_22 : decode cX3_follow 22 = .ok (.ifCond .ge 11, 3) := by decide +kernel
theorem dX3_follow_25 : decode cX3_follow 25 = .ok (.aload_n 0, 1) := by decide +kernel
theorem dX3_follow_26 : decode cX3_follow 26 = .ok (.getfield 27, 3) := by decide +kernel
theorem dX3_follow_29 : decode cX3_follow 29 = .ok (.getfield 42, 3) := by decide +kernel
theorem dX3_follow_32 : decode cX3_follow 32 = .ok (.ireturn, 1) := by decide +kernel
theorem dX3_follow_33 : decode cX3_follow 33 = .ok (.aload_n 0, 1) := by decide +kernel
theorem dX3_follow_34 : decode cX3_follow 34 = .ok (.getfield 9, 3) := by decide +kernel
theorem dX3_follow_37 : decode cX3_follow 37 = .ok (.iload_n 1, 1) := by decide +kernel
theorem dX3_follow_38 : decode cX3_follow 38 = .ok (.iload_n 2, 1) := by decide +kernel
theorem dX3_follow_39 : decode cX3_follow 39 = .ok (.iastore, 1) := by decide +kernel
theorem dX3_follow_40 : decode cX3_follow 40 = .ok (.aload_n 0, 1) := by decide +kernel
theorem dX3_follow_41 : decode cX3_follow 41 = .ok (.getfield 15, 3) := by decide +kernel
theorem dX3_follow_44 : decode cX3_follow 44 = .ok (.iload_n 1, 1) := by decide +kernel
theorem dX3_follow_45 : decode cX3_follow 45 = .ok (.aload_n 0, 1) := by decide +kernel
theorem dX3_follow_46 : decode cX3_follow 46 = .ok (.getfield 27, 3) := by decide +kernel
theorem dX3_follow_49 : decode cX3_follow 49 = .ok (.getfield 42, 3) := by decide +kernel
theorem dX3_follow_52 : decode cX3_follow 52 = .ok (.iastore, 1) := by decide +kernel
theorem dX3_follow_53 : decode cX3_follow 53 = .ok (.aload_n 0, 1) := by decide +kernel
theorem dX3_follow_54 : decode cX3_follow 54 = .ok (.iload_n 1, 1) := by decide +kernel
theorem dX3_follow_55 : decode cX3_follow 55 = .ok (.iconst 1, 1) := by decide +kernel
theorem dX3_follow_56 : decode cX3_follow 56 = .ok (.iadd, 1) := by decide +kernel
theorem dX3_follow_57 : decode cX3_follow 57 = .ok (.putfield 18, 3) := by decide +kernel
theorem dX3_follow_60 : decode cX3_follow 60 = .ok (.aload_n 0, 1) := by decide +kernel
theorem dX3_follow_61 : decode cX3_follow 61 = .ok (.getfield 27, 3) := by decide +kernel
theorem dX3_follow_64 : decode cX3_follow 64 = .ok (.iload_n 2, 1) := by decide +kernel
theorem dX3_follow_65 : decode cX3_follow 65 = .ok (.iconst 1, 1) := by decide +kernel
theorem dX3_follow_66 : decode cX3_follow 66 = .ok (.invokevirtual 45, 3) := by decide +kernel
theorem dX3_follow_69 : decode cX3_follow 69 = .ok (.iinc 1 1, 3) := by decide +kernel
theorem dX3_follow_72 : decode cX3_follow 72 = .ok (.goto (-65), 3) := by decide +kernel
theorem dX3_follow_75 : decode cX3_follow 75 = .ok (.aload_n 0, 1) := by decide +kernel
theorem dX3_follow_76 : decode cX3_follow 76 = .ok (.getfield 27, 3) := by decide +kernel
theorem dX3_follow_79 : decode cX3_follow 79 = .ok (.getfield 42, 3) := by decide +kernel
theorem dX3_follow_82 : decode cX3_follow 82 = .ok (.ireturn, 1) := by decide +kernel
theorem dX4_init_0 : decode cX4_init 0 = .ok (.aload_n 0, 1) := by decide +kernel
theorem dX4_init_1 : decode cX4_init 1 = .ok (.invokespecial 1, 3) := by decide +kernel
theorem dX4_init_4 : decode cX4_init 4 = .ok (.aload_n 0, 1) := by decide +kernel
theorem dX4_init_5 : decode cX4_init 5 = .ok (.sipush 300, 3) := by decide +kernel
theorem dX4_init_8 : decode cX4_init 8 = .ok (.newarray .int, 2) := by decide +kernel
theorem dX4_init_10 : decode cX4_init 10 = .ok (.putfield 9, 3) := by decide +kernel
theorem dX4_init_13 : decode cX4_init 13 = .ok (.aload_n 0, 1) := by decide +kernel
theorem dX4_init_14 : decode cX4_init 14 = .ok (.iconst 0, 1) := by decide +kernel
theorem dX4_init_15 : decode cX4_init 15 = .ok (.putfield 13, 3) := by decide +kernel
theorem dX4_init_18 : decode cX4_init 18 = .ok (.aload_n 0, 1) := by decide +kernel
theorem dX4_init_19 : decode cX4_init 19 = .ok (.bipush 32, 2) := by decide +kernel
theorem dX4_init_21 : decode cX4_init 21 = .ok (.newarray .int, 2) := by decide +kernel
theorem dX4_init_23 : decode cX4_init 23 = .ok (.putfield 17, 3) := by decide +kernel
theorem dX4_init_26 : decode cX4_init 26 = .ok (.return_, 1) := by decide +kernel
theorem dX4_isFact_0 : decode cX4_isFact 0 = .ok (.iload_n 0, 1) := by decide +kernel
theorem dX4_isFact_1 : decode cX4_isFact 1 = .ok (.bipush 100, 2) := by decide +kernel
theorem dX4_isFact_3 : decode cX4_isFact 3 = .ok (.if_icmp .lt 13, 3) := by decide +kernel
theorem dX4_isFact_6 : decode cX4_isFact 6 = .ok (.iload_n 0, 1) := by decide +kernel
theorem dX4_isFact_7 : decode cX4_isFact 7 = .ok (.bipush 105, 2) := by decide +kernel
theorem dX4_isFact_9 : decode cX4_isFact 9 = .ok (.if_icmp .gt 7, 3) := by decide +kernel
theorem dX4_isFact_12 : decode cX4_isFact 12 = .ok (.iconst 1, 1) := by decide +kernel
theorem dX4_isFact_13 : decode cX4_isFact 13 = .ok (.goto 4, 3) := by decide +kernel
theorem dX4_isFact_16 : decode cX4_isFact 16 = .ok (.iconst 0, 1) := by decide +kernel
theorem dX4_isFact_17 : decode cX4_isFact 17 = .ok (.ireturn, 1) := by decide +kernel
theorem dX4_clear_0 : decode cX4_clear 0 = .ok (.aload_n 0, 1) := by decide +kernel
theorem dX4_clear_1 : decode cX4_clear 1 = .ok (.iconst 0, 1) := by decide +kernel
theorem dX4_clear_2 : decode cX4_clear 2 = .ok (.putfield 13, 3) := by decide +kernel
theorem dX4_clear_5 : decode cX4_clear 5 = .ok (.return_, 1) := by decide +kernel
theorem dX4_add_0 : decode cX4_add 0 = .ok (.aload_n 0, 1) := by decide +kernel
theorem dX4_add_1 : decode cX4_add 1 = .ok (.getfield 13, 3) := by decide +kernel
theorem dX4_add_4 : decode cX4_add 4 = .ok (.sipush 300, 3) := by decide +kernel
theorem dX4_add_7 : decode cX4_add 7 = .ok (.if_icmp .ge 23, 3) := by decide +kernel
theorem dX4_add_10 : decode cX4_add 10 = .ok (.aload_n 0, 1) := by decide +kernel
theorem dX4_add_11 : decode cX4_add 11 = .ok (.getfield 9, 3) := by decide +kernel
theorem dX4_add_14 : decode cX4_add 14 = .ok (.aload_n 0, 1) := by decide +kernel
theorem dX4_add_15 : decode cX4_add 15 = .ok (.getfield 13, 3) := by decide +kernel
theorem dX4_add_18 : decode cX4_add 18 = .ok (.iload_n 1, 1) := by decide +kernel
theorem dX4_add_19 : decode cX4_add 19 = .ok (.iastore, 1) := by decide +kernel
theorem dX4_add_20 : decode cX4_add 20 = .ok (.aload_n 0, 1) := by decide +kernel
theorem dX4_add_21 : decode cX4_add 21 = .ok (.dup, 1) := by decide +kernel
theorem dX4_add_22 : decode cX4_add 22 = .ok (.getfield 13, 3) := by decide +kernel
theorem dX4_add_25 : decode cX4_add 25 = .ok (.iconst 1, 1) := by decide +kernel
theorem dX4_add_26 : decode cX4_add 26 = .ok (.iadd, 1) := by decide +kernel
theorem dX4_add_27 : decode cX4_add 27 = .ok (.putfield 13, 3) := by decide +kernel
theorem dX4_add_30 : decode cX4_add 30 = .ok (.return_, 1) := by decide +kernel
theorem dX4_copy_0 : decode cX4_copy 0 = .ok (.aload_n 0, 1) := by decide +kernel
theorem dX4_copy_1 : decode cX4_copy 1 = .ok (.aload_n 1, 1) := by decide +kernel
theorem dX4_copy_2 : decode cX4_copy 2 = .ok (.getfield 13, 3) := by decide +kernel
theorem dX4_copy_5 : decode cX4_copy 5 = .ok (.putfield 13, 3) := by decide +kernel
theorem dX4_copy_8 : decode cX4_copy 8 = .ok (.aload_n 1, 1) := by decide +kernel
theorem dX4_copy_9 : decode cX4_copy 9 = .ok (.getfield 9, 3) := by decide +kernel
theorem dX4_copy_12 : decode cX4_copy 12 = .ok (.iconst 0, 1) := by decide +kernel
theorem dX4_copy_13 : decode cX4_copy 13 = .ok (.aload_n 0, 1) := by decide +kernel
theorem dX4_copy_14 : decode cX4_copy 14 = .ok (.getfield 9, 3) := by decide +kernel
theorem dX4_copy_17 : decode cX4_copy 17 = .ok (.iconst 0, 1) := by decide +kernel
theorem dX4_copy_18 : decode cX4_copy 18 = .ok (.aload_n 0, 1) := by decide +kernel
theorem dX4_copy_19 : decode cX4_copy 19 = .ok (.getfield 13, 3) := by decide +kernel
theorem dX4_copy_22 : decode cX4_copy 22 = .ok (.invokestatic 22, 3) := by decide +kernel
theorem dX4_copy_25 : decode cX4_copy 25 = .ok (.return_, 1) := by decide +kernel
theorem dX4_value_0 : decode cX4_value 0 = .ok (.iconst 0, 1) := by decide +kernel
theorem dX4_value_1 : decode cX4_value 1 = .ok (.istore_n 2, 1) := by decide +kernel
theorem dX4_value_2 : decode cX4_value 2 = .ok (.iconst 0, 1) := by decide +kernel
theorem dX4_value_3 : decode cX4_value 3 = .ok (.istore_n 3, 1) := by decide +kernel
theorem dX4_value_4 : decode cX4_value 4 = .ok (.iload_n 3, 1) := by decide +kernel
theorem dX4_value_5 : decode cX4_value 5 = .ok (.aload_n 0, 1) := by decide +kernel
theorem dX4_value_6 : decode cX4_value 6 = .ok (.getfield 13, 3) := by decide +kernel
theorem dX4_value_9 : decode cX4_value 9 = .ok (.if_icmp .ge 141, 3) := by decide +kernel
theorem dX4_value_12 : decode cX4_value 12 = .ok (.aload_n 0, 1) := by decide +kernel
theorem dX4_value_13 : decode cX4_value 13 = .ok (.getfield 9, 3) := by decide +kernel
theorem dX4_value_16 : decode cX4_value 16 = .ok (.iload_n 3, 1) := by decide +kernel
theorem dX4_value_17 : decode cX4_value 17 = .ok (.iaload, 1) := by decide +kernel
theorem dX4_value_18 : decode cX4_value 18 = .ok (.istore 4, 2) := by decide +kernel
theorem dX4_value_20 : decode cX4_value 20 = .ok (.iload 4, 2) := by decide +kernel
theorem dX4_value_22 : decode cX4_value 22 = .ok (.ifCond .ge 12, 3) := by decide +kernel
theorem dX4_value_25 : decode cX4_value 25 = .ok (.iload 4, 2) := by decide +kernel
theorem dX4_value_27 : decode cX4_value 27 = .ok (.ineg, 1) := by decide +kernel
theorem dX4_value_28 : decode cX4_value 28 = .ok (.invokestatic 28, 3) := by decide +kernel
theorem dX4_value_31 : decode cX4_value 31 = .ok (.ifCond .eq 39, 3) := by decide +kernel
theorem dX4_value_34 : decode cX4_value 34 = .ok (.iload_n 2, 1) := by decide +kernel
theorem dX4_value_35 : decode cX4_value 35 = .ok (.bipush 32, 2) := by decide +kernel
theorem dX4_value_37 : decode cX4_value 37 = .ok (.if_icmp .ge 107, 3) := by decide +kernel
theorem dX4_value_40 : decode cX4_value 40 = .ok (.aload_n 0, 1) := by decide +kernel
theorem dX4_value_41 : decode cX4_value 41 = .ok (.getfield 17, 3) := by decide +kernel
theorem dX4_value_44 : decode cX4_value 44 = .ok (.iload_n 2, 1) := by decide +kernel
theorem dX4_value_45 : decode cX4_value 45 = .ok (.iload 4, 2) := by decide +kernel
theorem dX4_value_47 : decode cX4_value 47 = .ok (.ifCond .lt 8, 3) := by decide +kernel
theorem dX4_value_50 : decode cX4_value 50 = .ok (.iload 4, 2) := by decide +kernel
theorem dX4_value_52 : decode cX4_value 52 = .ok (.goto 11, 3) := by decide +kernel
theorem dX4_value_55 : decode cX4_value 55 = .ok (.aload_n 1, 1) := by decide +kernel
theorem dX4_value_56 : decode cX4_value 56 = .ok (.iload 4, 2) := by decide +kernel
theorem dX4_value_58 : decode cX4_value 58 = .ok (.ineg, 1) := by decide +kernel
theorem dX4_value_59 : decode cX4_value 59 = .ok (.bipush 100, 2) := by decide +kernel
theorem dX4_value_61 : decode cX4_value 61 = .ok (.isub, 1) := by decide +kernel
theorem dX4_value_62 : decode cX4_value 62 = .ok (.iaload, 1) := by decide +kernel
theorem dX4_value_63 : decode cX4_value 63 = .ok (.iastore, 1) := by decide +kernel
theorem dX4_value_64 : decode cX4_value 64 = .ok (.iinc 2 1, 3) := by decide +kernel
theorem dX4_value_67 : decode cX4_value 67 = .ok (.goto 77, 3) := by decide +kernel
theorem dX4_value_70 : decode cX4_value 70 = .ok (.iload 4, 2) := by decide +kernel
theorem dX4_value_72 : decode cX4_value 72 = .ok (.bipush (-119), 2) := by decide +kernel
theorem dX4_value_74 : decode cX4_value 74 = .ok (.if_icmp .ne 34, 3) := by decide +kernel
theorem dX4_value_77 : decode cX4_value 77 = .ok (.iload_n 2, 1) := by decide +kernel
theorem dX4_value_78 : decode cX4_value 78 = .ok (.ifCond .le 66, 3) := by decide +kernel
theorem dX4_value_81 : decode cX4_value 81 = .ok (.aload_n 0, 1) := by decide +kernel
theorem dX4_value_82 : decode cX4_value 82 = .ok (.getfield 17, 3) := by decide +kernel
theorem dX4_value_85 : decode cX4_value 85 = .ok (.iload_n 2, 1) := by decide +kernel
theorem dX4_value_86 : decode cX4_value 86 = .ok (.iconst 1, 1) := by decide +kernel
theorem dX4_value_87 : decode cX4_value 87 = .ok (.isub, 1) := by decide +kernel
theorem dX4_value_88 : decode cX4_value 88 = .ok (.aload_n 0, 1) := by decide +kernel
theorem dX4_value_89 : decode cX4_value 89 = .ok (.getfield 17, 3) := by decide +kernel
theorem dX4_value_92 : decode cX4_value 92 = .ok (.iload_n 2, 1) := by decide +kernel
theorem dX4_value_93 : decode cX4_value 93 = .ok (.iconst 1, 1) := by decide +kernel
theorem dX4_value_94 : decode cX4_value 94 = .ok (.isub, 1) := by decide +kernel
theorem dX4_value_95 : decode cX4_value 95 = .ok (.iaload, 1) := by decide +kernel
theorem dX4_value_96 : decode cX4_value 96 = .ok (.ifCond .ne 7, 3) := by decide +kernel
theorem dX4_value_99 : decode cX4_value 99 = .ok (.iconst 1, 1) := by decide +kernel
theorem dX4_value_100 : decode cX4_value 100 = .ok (.goto 4, 3) := by decide +kernel
theorem dX4_value_103 : decode cX4_value 103 = .ok (.iconst 0, 1) := by decide +kernel
theorem dX4_value_104 : decode cX4_value 104 = .ok (.iastore, 1) := by decide +kernel
theorem dX4_value_105 : decode cX4_value 105 = .ok (.goto 39, 3) := by decide +kernel
theorem dX4_value_108 : decode cX4_value 108 = .ok (.iload_n 2, 1) := by decide +kernel
theorem dX4_value_109 : decode cX4_value 109 = .ok (.iconst 1, 1) := by decide +kernel
theorem dX4_value_110 : decode cX4_value 110 = .ok (.if_icmp .le 34, 3) := by decide +kernel
theorem dX4_value_113 : decode cX4_value 113 = .ok (.iinc 2 (-1), 3) := by decide +kernel
theorem dX4_value_116 : decode cX4_value 116 = .ok (.aload_n 0, 1) := by decide +kernel
theorem dX4_value_117 : decode cX4_value 117 = .ok (.getfield 17, 3) := by decide +kernel
theorem dX4_value_120 : decode cX4_value 120 = .ok (.iload_n 2, 1) := by decide +kernel
theorem dX4_value_121 : decode cX4_value 121 = .ok (.iconst 1, 1) := by decide +kernel
theorem dX4_value_122 : decode cX4_value 122 = .ok (.isub, 1) := by decide +kernel
theorem dX4_value_123 : decode cX4_value 123 = .ok (.iload 4, 2) := by decide +kernel
theorem dX4_value_125 : decode cX4_value 125 = .ok (.ineg, 1) := by decide +kernel
theorem dX4_value_126 : decode cX4_value 126 = .ok (.aload_n 0, 1) := by decide +kernel
theorem dX4_value_127 : decode cX4_value 127 = .ok (.getfield 17, 3) := by decide +kernel
theorem dX4_value_130 : decode cX4_value 130 = .ok (.iload_n 2, 1) := by decide +kernel
theorem dX4_value_131 : decode cX4_value 131 = .ok (.iconst 1, 1) := by decide +kernel
theorem dX4_value_132 : decode cX4_value 132 = .ok (.isub, 1) := by decide +kernel
theorem dX4_value_133 : decode cX4_value 133 = .ok (.iaload, 1) := by decide +kernel
theorem dX4_value_134 : decode cX4_value 134 = .ok (.aload_n 0, 1) := by decide +kernel
theorem dX4_value_135 : decode cX4_value 135 = .ok (.getfield 17, 3) := by decide +kernel
theorem dX4_value_138 : decode cX4_value 138 = .ok (.iload_n 2, 1) := by decide +kernel
theorem dX4_value_139 : decode cX4_value 139 = .ok (.iaload, 1) := by decide +kernel
theorem dX4_value_140 : decode cX4_value 140 = .ok (.invokestatic 32, 3) := by decide +kernel
theorem dX4_value_143 : decode cX4_value 143 = .ok (.iastore, 1) := by decide +kernel
theorem dX4_value_144 : decode cX4_value 144 = .ok (.iinc 3 1, 3) := by decide +kernel
theorem dX4_value_147 : decode cX4_value 147 = .ok (.goto (-143), 3) := by decide +kernel
theorem dX4_value_150 : decode cX4_value 150 = .ok (.iload_n 2, 1) := by decide +kernel
theorem dX4_value_151 : decode cX4_value 151 = .ok (.ifCond .le 12, 3) := by decide +kernel
theorem dX4_value_154 : decode cX4_value 154 = .ok (.aload_n 0, 1) := by decide +kernel
theorem dX4_value_155 : decode cX4_value 155 = .ok (.getfield 17, 3) := by decide +kernel
theorem dX4_value_158 : decode cX4_value 158 = .ok (.iconst 0, 1) := by decide +kernel
theorem dX4_value_159 : decode cX4_value 159 = .ok (.iaload, 1) := by decide +kernel
theorem dX4_value_160 : decode cX4_value 160 = .ok (.goto 4, 3) := by decide +kernel
theorem dX4_value_163 : decode cX4_value 163 = .ok (.iconst 0, 1) := by decide +kernel
theorem dX4_value_164 : decode cX4_value 164 = .ok (.ireturn, 1) := by decide +kernel
theorem dX4_join_0 : decode cX4_join 0 = .ok (.iload_n 0, 1) := by decide +kernel
theorem dX4_join_1 : decode cX4_join 1 = .ok (.lookupswitch 188 #[(37, 115), (42, 99), (43, 91), (45, 95), (47, 103), (60, 127), (61, 149), (62, 138), (117, 174), (118, 160)], 91) := by decide +kernel
theorem dX4_join_92 : decode cX4_join 92 = .ok (.iload_n 1, 1) := by decide +kernel
theorem dX4_join_93 : decode cX4_join 93 = .ok (.iload_n 2, 1) := by decide +kernel
theorem dX4_join_94 : decode cX4_join 94 = .ok (.iadd, 1) := by decide +kernel
theorem dX4_join_95 : decode cX4_join 95 = .ok (.ireturn, 1) := by decide +kernel
theorem dX4_join_96 : decode cX4_join 96 = .ok (.iload_n 1, 1) := by decide +kernel
theorem dX4_join_97 : decode cX4_join 97 = .ok (.iload_n 2, 1) := by decide +kernel
theorem dX4_join_98 : decode cX4_join 98 = .ok (.isub, 1) := by decide +kernel
theorem dX4_join_99 : decode cX4_join 99 = .ok (.ireturn, 1) := by decide +kernel
theorem dX4_join_100 : decode cX4_join 100 = .ok (.iload_n 1, 1) := by decide +kernel
theorem dX4_join_101 : decode cX4_join 101 = .ok (.iload_n 2, 1) := by decide +kernel
theorem dX4_join_102 : decode cX4_join 102 = .ok (.imul, 1) := by decide +kernel
theorem dX4_join_103 : decode cX4_join 103 = .ok (.ireturn, 1) := by decide +kernel
theorem dX4_join_104 : decode cX4_join 104 = .ok (.iload_n 2, 1) := by decide +kernel
theorem dX4_join_105 : decode cX4_join 105 = .ok (.ifCond .ne 7, 3) := by decide +kernel
theorem dX4_join_108 : decode cX4_join 108 = .ok (.iconst 0, 1) := by decide +kernel
theorem dX4_join_109 : decode cX4_join 109 = .ok (.goto 6, 3) := by decide +kernel
theorem dX4_join_112 : decode cX4_join 112 = .ok (.iload_n 1, 1) := by decide +kernel
theorem dX4_join_113 : decode cX4_join 113 = .ok (.iload_n 2, 1) := by decide +kernel
theorem dX4_join_114 : decode cX4_join 114 = .ok (.idiv, 1) := by decide +kernel
theorem dX4_join_115 : decode cX4_join 115 = .ok (.ireturn, 1) := by decide +kernel
theorem dX4_join_116 : decode cX4_join 116 = .ok (.iload_n 2, 1) := by decide +kernel
theorem dX4_join_117 : decode cX4_join 117 = .ok (.ifCond .ne 7, 3) := by decide +kernel
theorem dX4_join_120 : decode cX4_join 120 = .ok (.iconst 0, 1) := by decide +kernel
theorem dX4_join_121 : decode cX4_join 121 = .ok (.goto 6, 3) := by decide +kernel
theorem dX4_join_124 : decode cX4_join 124 = .ok (.iload_n 1, 1) := by decide +kernel
theorem dX4_join_125 : decode cX4_join 125 = .ok (.iload_n 2, 1) := by decide +kernel
theorem dX4_join_126 : decode cX4_join 126 = .ok (.irem, 1) := by decide +kernel
theorem dX4_join_127 : decode cX4_join 127 = .ok (.ireturn, 1) := by decide +kernel
theorem dX4_join_128 : decode cX4_join 128 = .ok (.iload_n 1, 1) := by decide +kernel
theorem dX4_join_129 : decode cX4_join 129 = .ok (.iload_n 2, 1) := by decide +kernel
theorem dX4_join_130 : decode cX4_join 130 = .ok (.if_icmp .ge 7, 3) := by decide +kernel
theorem dX4_join_133 : decode cX4_join 133 = .ok (.iconst 1, 1) := by decide +kernel
theorem dX4_join_134 : decode cX4_join 134 = .ok (.goto 4, 3) := by decide +kernel
theorem dX4_join_137 : decode cX4_join 137 = .ok (.iconst 0, 1) := by decide +kernel
theorem dX4_join_138 : decode cX4_join 138 = .ok (.ireturn, 1) := by decide +kernel
theorem dX4_join_139 : decode cX4_join 139 = .ok (.iload_n 1, 1) := by decide +kernel
theorem dX4_join_140 : decode cX4_join 140 = .ok (.iload_n 2, 1) := by decide +kernel
theorem dX4_join_141 : decode cX4_join 141 = .ok (.if_icmp .le 7, 3) := by decide +kernel
theorem dX4_join_144 : decode cX4_join 144 = .ok (.iconst 1, 1) := by decide +kernel
theorem dX4_join_145 : decode cX4_join 145 = .ok (.goto 4, 3) := by decide +kernel
theorem dX4_join_148 : decode cX4_join 148 = .ok (.iconst 0, 1) := by decide +kernel
theorem dX4_join_149 : decode cX4_join 149 = .ok (.ireturn, 1) := by decide +kernel
theorem dX4_join_150 : decode cX4_join 150 = .ok (.iload_n 1, 1) := by decide +kernel
theorem dX4_join_151 : decode cX4_join 151 = .ok (.iload_n 2, 1) := by decide +kernel
theorem dX4_join_152 : decode cX4_join 152 = .ok (.if_icmp .ne 7, 3) := by decide +kernel
theorem dX4_join_155 : decode cX4_join 155 = .ok (.iconst 1, 1) := by decide +kernel
theorem dX4_join_156 : decode cX4_join 156 = .ok (.goto 4, 3) := by decide +kernel
theorem dX4_join_159 : decode cX4_join 159 = .ok (.iconst 0, 1) := by decide +kernel
theorem dX4_join_160 : decode cX4_join 160 = .ok (.ireturn, 1) := by decide +kernel
theorem dX4_join_161 : decode cX4_join 161 = .ok (.iload_n 1, 1) := by decide +kernel
theorem dX4_join_162 : decode cX4_join 162 = .ok (.ifCond .eq 11, 3) := by decide +kernel
theorem dX4_join_165 : decode cX4_join 165 = .ok (.iload_n 2, 1) := by decide +kernel
theorem dX4_join_166 : decode cX4_join 166 = .ok (.ifCond .eq 7, 3) := by decide +kernel
theorem dX4_join_169 : decode cX4_join 169 = .ok (.iconst 1, 1) := by decide +kernel
theorem dX4_join_170 : decode cX4_join 170 = .ok (.goto 4, 3) := by decide +kernel
theorem dX4_join_173 : decode cX4_join 173 = .ok (.iconst 0, 1) := by decide +kernel
theorem dX4_join_174 : decode cX4_join 174 = .ok (.ireturn, 1) := by decide +kernel
theorem dX4_join_175 : decode cX4_join 175 = .ok (.iload_n 1, 1) := by decide +kernel
theorem dX4_join_176 : decode cX4_join 176 = .ok (.ifCond .ne 7, 3) := by decide +kernel
theorem dX4_join_179 : decode cX4_join 179 = .ok (.iload_n 2, 1) := by decide +kernel
theorem dX4_join_180 : decode cX4_join 180 = .ok (.ifCond .eq 7, 3) := by decide +kernel
theorem dX4_join_183 : decode cX4_join 183 = .ok (.iconst 1, 1) := by decide +kernel
theorem dX4_join_184 : decode cX4_join 184 = .ok (.goto 4, 3) := by decide +kernel
theorem dX4_join_187 : decode cX4_join 187 = .ok (.iconst 0, 1) := by decide +kernel
theorem dX4_join_188 : decode cX4_join 188 = .ok (.ireturn, 1) := by decide +kernel
theorem dX4_join_189 : decode cX4_join 189 = .ok (.iconst 0, 1) := by decide +kernel
theorem dX4_join_190 : decode cX4_join 190 = .ok (.ireturn, 1) := by decide +kernel
theorem dX5_init_0 : decode cX5_init 0 = .ok (.aload_n 0, 1) := by decide +kernel
theorem dX5_init_1 : decode cX5_init 1 = .ok (.invokespecial 3, 3) := by decide +kernel
theorem dX5_init_4 : decode cX5_init 4 = .ok (.aload_n 0, 1) := by decide +kernel
theorem dX5_init_5 : decode cX5_init 5 = .ok (.new 9, 3) := by decide +kernel
theorem dX5_init_8 : decode cX5_init 8 = .ok (.dup, 1) := by decide +kernel
theorem dX5_init_9 : decode cX5_init 9 = .ok (.invokespecial 11, 3) := by decide +kernel
theorem dX5_init_12 : decode cX5_init 12 = .ok (.putfield 12, 3) := by decide +kernel
theorem dX5_init_15 : decode cX5_init 15 = .ok (.aload_n 0, 1) := by decide +kernel
theorem dX5_init_16 : decode cX5_init 16 = .ok (.iconst 0, 1) := by decide +kernel
theorem dX5_init_17 : decode cX5_init 17 = .ok (.putfield 18, 3) := by decide +kernel
theorem dX5_init_20 : decode cX5_init 20 = .ok (.aload_n 0, 1) := by decide +kernel
theorem dX5_init_21 : decode cX5_init 21 = .ok (.iconst (-1), 1) := by decide +kernel
theorem dX5_init_22 : decode cX5_init 22 = .ok (.putfield 22, 3) := by decide +kernel
theorem dX5_init_25 : decode cX5_init 25 = .ok (.aload_n 0, 1) := by decide +kernel
theorem dX5_init_26 : decode cX5_init 26 = .ok (.bipush 7, 2) := by decide +kernel
theorem dX5_init_28 : decode cX5_init 28 = .ok (.newarray .long, 2) := by decide +kernel
theorem dX5_init_30 : decode cX5_init 30 = .ok (.putfield 25, 3) := by decide +kernel
theorem dX5_init_33 : decode cX5_init 33 = .ok (.aload_n 0, 1) := by decide +kernel
theorem dX5_init_34 : decode cX5_init 34 = .ok (.iconst 0, 1) := by decide +kernel
theorem dX5_init_35 : decode cX5_init 35 = .ok (.putfield 29, 3) := by decide +kernel
theorem dX5_init_38 : decode cX5_init 38 = .ok (.aload_n 0, 1) := by decide +kernel
theorem dX5_init_39 : decode cX5_init 39 = .ok (.iconst 0, 1) := by decide +kernel
theorem dX5_init_40 : decode cX5_init 40 = .ok (.putfield 32, 3) := by decide +kernel
theorem dX5_init_43 : decode cX5_init 43 = .ok (.aload_n 0, 1) := by decide +kernel
theorem dX5_init_44 : decode cX5_init 44 = .ok (.iconst 0, 1) := by decide +kernel
theorem dX5_init_45 : decode cX5_init 45 = .ok (.putfield 35, 3) := by decide +kernel
theorem dX5_init_48 : decode cX5_init 48 = .ok (.aload_n 0, 1) := by decide +kernel
theorem dX5_init_49 : decode cX5_init 49 = .ok (.iconst 0, 1) := by decide +kernel
theorem dX5_init_50 : decode cX5_init 50 = .ok (.putfield 38, 3) := by decide +kernel
theorem dX5_init_53 : decode cX5_init 53 = .ok (.aload_n 0, 1) := by decide +kernel
theorem dX5_init_54 : decode cX5_init 54 = .ok (.iconst 0, 1) := by decide +kernel
theorem dX5_init_55 : decode cX5_init 55 = .ok (.putfield 41, 3) := by decide +kernel
theorem dX5_init_58 : decode cX5_init 58 = .ok (.aload_n 0, 1) := by decide +kernel
theorem dX5_init_59 : decode cX5_init 59 = .ok (.aload_n 0, 1) := by decide +kernel
theorem dX5_init_60 : decode cX5_init 60 = .ok (.getfield 12, 3) := by decide +kernel
theorem dX5_init_63 : decode cX5_init 63 = .ok (.getfield 44, 3) := by decide +kernel
theorem dX5_init_66 : decode cX5_init 66 = .ok (.putfield 48, 3) := by decide +kernel
theorem dX5_init_69 : decode cX5_init 69 = .ok (.aload_n 0, 1) := by decide +kernel
theorem dX5_init_70 : decode cX5_init 70 = .ok (.iconst 0, 1) := by decide +kernel
theorem dX5_init_71 : decode cX5_init 71 = .ok (.putfield 51, 3) := by decide +kernel
theorem dX5_init_74 : decode cX5_init 74 = .ok (.aload_n 0, 1) := by decide +kernel
theorem dX5_init_75 : decode cX5_init 75 = .ok (.aload_n 1, 1) := by decide +kernel
theorem dX5_init_76 : decode cX5_init 76 = .ok (.putfield 54, 3) := by decide +kernel
theorem dX5_init_79 : decode cX5_init 79 = .ok (.return_, 1) := by decide +kernel
theorem dX5_read_0 : decode cX5_read 0 = .ok (.aload_n 0, 1) := by decide +kernel
theorem dX5_read_1 : decode cX5_read 1 = .ok (.getfield 12, 3) := by decide +kernel
theorem dX5_read_4 : decode cX5_read 4 = .ok (.invokevirtual 58, 3) := by decide +kernel
theorem dX5_read_7 : decode cX5_read 7 = .ok (.aload_n 0, 1) := by decide +kernel
theorem dX5_read_8 : decode cX5_read 8 = .ok (.iconst 0, 1) := by decide +kernel
theorem dX5_read_9 : decode cX5_read 9 = .ok (.putfield 18, 3) := by decide +kernel
theorem dX5_read_12 : decode cX5_read 12 = .ok (.aload_n 0, 1) := by decide +kernel
theorem dX5_read_13 : decode cX5_read 13 = .ok (.iconst (-1), 1) := by decide +kernel
theorem dX5_read_14 : decode cX5_read 14 = .ok (.putfield 22, 3) := by decide +kernel
theorem dX5_read_17 : decode cX5_read 17 = .ok (.aload_n 0, 1) := by decide +kernel
theorem dX5_read_18 : decode cX5_read 18 = .ok (.iconst 0, 1) := by decide +kernel
theorem dX5_read_19 : decode cX5_read 19 = .ok (.putfield 29, 3) := by decide +kernel
theorem dX5_read_22 : decode cX5_read 22 = .ok (.aload_n 0, 1) := by decide +kernel
theorem dX5_read_23 : decode cX5_read 23 = .ok (.iconst 0, 1) := by decide +kernel
theorem dX5_read_24 : decode cX5_read 24 = .ok (.putfield 32, 3) := by decide +kernel
theorem dX5_read_27 : decode cX5_read 27 = .ok (.aload_n 0, 1) := by decide +kernel
theorem dX5_read_28 : decode cX5_read 28 = .ok (.getfield 54, 3) := by decide +kernel
theorem dX5_read_31 : decode cX5_read 31 = .ok (.invokevirtual 61, 3) := by decide +kernel
theorem dX5_read_34 : decode cX5_read 34 = .ok (.iconst 1, 1) := by decide +kernel
theorem dX5_read_35 : decode cX5_read 35 = .ok (.istore_n 1, 1) := by decide +kernel
theorem dX5_read_36 : decode cX5_read 36 = .ok (.iconst 0, 1) := by decide +kernel
theorem dX5_read_37 : decode cX5_read 37 = .ok (.istore_n 2, 1) := by decide +kernel
theorem dX5_read_38 : decode cX5_read 38 = .ok (.iload_n 2, 1) := by decide +kernel
theorem dX5_read_39 : decode cX5_read 39 = .ok (.sipush 1600, 3) := by decide +kernel
theorem dX5_read_42 : decode cX5_read 42 = .ok (.if_icmp .gt 189, 3) := by decide +kernel
theorem dX5_read_45 : decode cX5_read 45 = .ok (.iload_n 1, 1) := by decide +kernel
theorem dX5_read_46 : decode cX5_read 46 = .ok (.ifCond .eq 185, 3) := by decide +kernel
theorem dX5_read_49 : decode cX5_read 49 = .ok (.aload_n 0, 1) := by decide +kernel
theorem dX5_read_50 : decode cX5_read 50 = .ok (.getfield 54, 3) := by decide +kernel
theorem dX5_read_53 : decode cX5_read 53 = .ok (.getfield 66, 3) := by decide +kernel
theorem dX5_read_56 : decode cX5_read 56 = .ok (.ifCond .eq 175, 3) := by decide +kernel
theorem dX5_read_59 : decode cX5_read 59 = .ok (.aload_n 0, 1) := by decide +kernel
theorem dX5_read_60 : decode cX5_read 60 = .ok (.getfield 54, 3) := by decide +kernel
theorem dX5_read_63 : decode cX5_read 63 = .ok (.getfield 66, 3) := by decide +kernel
theorem dX5_read_66 : decode cX5_read 66 = .ok (.tableswitch 154 106 116 #[58, 154, 154, 154, 66, 83, 100, 108, 123, 138, 146], 58) := by decide +kernel
theorem dX5_read_124 : decode cX5_read 124 = .ok (.aload_n 0, 1) := by decide +kernel
theorem dX5_read_125 : decode cX5_read 125 = .ok (.invokevirtual 69, 3) := by decide +kernel
theorem dX5_read_128 : decode cX5_read 128 = .ok (.istore_n 1, 1) := by decide +kernel
theorem dX5_read_129 : decode cX5_read 129 = .ok (.goto 96, 3) := by decide +kernel
theorem dX5_read_132 : decode cX5_read 132 = .ok (.aload_n 0, 1) := by decide +kernel
theorem dX5_read_133 : decode cX5_read 133 = .ok (.aload_n 0, 1) := by decide +kernel
theorem dX5_read_134 : decode cX5_read 134 = .ok (.getfield 12, 3) := by decide +kernel
theorem dX5_read_137 : decode cX5_read 137 = .ok (.getfield 73, 3) := by decide +kernel
theorem dX5_read_140 : decode cX5_read 140 = .ok (.bipush 12, 2) := by decide +kernel
theorem dX5_read_142 : decode cX5_read 142 = .ok (.invokevirtual 77, 3) := by decide +kernel
theorem dX5_read_145 : decode cX5_read 145 = .ok (.istore_n 1, 1) := by decide +kernel
theorem dX5_read_146 : decode cX5_read 146 = .ok (.goto 79, 3) := by decide +kernel
theorem dX5_read_149 : decode cX5_read 149 = .ok (.aload_n 0, 1) := by decide +kernel
theorem dX5_read_150 : decode cX5_read 150 = .ok (.aload_n 0, 1) := by decide +kernel
theorem dX5_read_151 : decode cX5_read 151 = .ok (.getfield 12, 3) := by decide +kernel
theorem dX5_read_154 : decode cX5_read 154 = .ok (.getfield 81, 3) := by decide +kernel
theorem dX5_read_157 : decode cX5_read 157 = .ok (.bipush 6, 2) := by decide +kernel
theorem dX5_read_159 : decode cX5_read 159 = .ok (.invokevirtual 77, 3) := by decide +kernel
theorem dX5_read_162 : decode cX5_read 162 = .ok (.istore_n 1, 1) := by decide +kernel
theorem dX5_read_163 : decode cX5_read 163 = .ok (.goto 62, 3) := by decide +kernel
theorem dX5_read_166 : decode cX5_read 166 = .ok (.aload_n 0, 1) := by decide +kernel
theorem dX5_read_167 : decode cX5_read 167 = .ok (.invokevirtual 84, 3) := by decide +kernel
theorem dX5_read_170 : decode cX5_read 170 = .ok (.istore_n 1, 1) := by decide +kernel
theorem dX5_read_171 : decode cX5_read 171 = .ok (.goto 54, 3) := by decide +kernel
theorem dX5_read_174 : decode cX5_read 174 = .ok (.aload_n 0, 1) := by decide +kernel
theorem dX5_read_175 : decode cX5_read 175 = .ok (.aload_n 0, 1) := by decide +kernel
theorem dX5_read_176 : decode cX5_read 176 = .ok (.getfield 12, 3) := by decide +kernel
theorem dX5_read_179 : decode cX5_read 179 = .ok (.getfield 44, 3) := by decide +kernel
theorem dX5_read_182 : decode cX5_read 182 = .ok (.invokevirtual 87, 3) := by decide +kernel
theorem dX5_read_185 : decode cX5_read 185 = .ok (.istore_n 1, 1) := by decide +kernel
theorem dX5_read_186 : decode cX5_read 186 = .ok (.goto 39, 3) := by decide +kernel
theorem dX5_read_189 : decode cX5_read 189 = .ok (.aload_n 0, 1) := by decide +kernel
theorem dX5_read_190 : decode cX5_read 190 = .ok (.aload_n 0, 1) := by decide +kernel
theorem dX5_read_191 : decode cX5_read 191 = .ok (.getfield 12, 3) := by decide +kernel
theorem dX5_read_194 : decode cX5_read 194 = .ok (.getfield 91, 3) := by decide +kernel
theorem dX5_read_197 : decode cX5_read 197 = .ok (.invokevirtual 87, 3) := by decide +kernel
theorem dX5_read_200 : decode cX5_read 200 = .ok (.istore_n 1, 1) := by decide +kernel
theorem dX5_read_201 : decode cX5_read 201 = .ok (.goto 24, 3) := by decide +kernel
theorem dX5_read_204 : decode cX5_read 204 = .ok (.aload_n 0, 1) := by decide +kernel
theorem dX5_read_205 : decode cX5_read 205 = .ok (.invokevirtual 94, 3) := by decide +kernel
theorem dX5_read_208 : decode cX5_read 208 = .ok (.istore_n 1, 1) := by decide +kernel
theorem dX5_read_209 : decode cX5_read 209 = .ok (.goto 16, 3) := by decide +kernel
theorem dX5_read_212 : decode cX5_read 212 = .ok (.aload_n 0, 1) := by decide +kernel
theorem dX5_read_213 : decode cX5_read 213 = .ok (.invokevirtual 97, 3) := by decide +kernel
theorem dX5_read_216 : decode cX5_read 216 = .ok (.istore_n 1, 1) := by decide +kernel
theorem dX5_read_217 : decode cX5_read 217 = .ok (.goto 8, 3) := by decide +kernel
theorem dX5_read_220 : decode cX5_read 220 = .ok (.aload_n 0, 1) := by decide +kernel
theorem dX5_read_221 : decode cX5_read 221 = .ok (.invokevirtual 100, 3) := by decide +kernel
theorem dX5_read_224 : decode cX5_read 224 = .ok (.istore_n 1, 1) := by decide +kernel
theorem dX5_read_225 : decode cX5_read 225 = .ok (.iinc 2 1, 3) := by decide +kernel
theorem dX5_read_228 : decode cX5_read 228 = .ok (.goto (-190), 3) := by decide +kernel
theorem dX5_read_231 : decode cX5_read 231 = .ok (.iload_n 1, 1) := by decide +kernel
theorem dX5_read_232 : decode cX5_read 232 = .ok (.ireturn, 1) := by decide +kernel
theorem dX5_readObjector_0 : decode cX5_readObjector 0 = .ok (.aload_n 0, 1) := by decide +kernel
theorem dX5_readObjector_1 : decode cX5_readObjector 1 = .ok (.getfield 12, 3) := by decide +kernel
theorem dX5_readObjector_4 : decode cX5_readObjector 4 = .ok (.getfield 103, 3) := by decide +kernel
theorem dX5_readObjector_7 : decode cX5_readObjector 7 = .ok (.istore_n 1, 1) := by decide +kernel
theorem dX5_readObjector_8 : decode cX5_readObjector 8 = .ok (.iload_n 1, 1) := by decide +kernel
theorem dX5_readObjector_9 : decode cX5_readObjector 9 = .ok (.bipush 7, 2) := by decide +kernel
theorem dX5_readObjector_11 : decode cX5_readObjector 11 = .ok (.if_icmp .lt 8, 3) := by decide +kernel
theorem dX5_readObjector_14 : decode cX5_readObjector 14 = .ok (.aload_n 0, 1) := by decide +kernel
theorem dX5_readObjector_15 : decode cX5_readObjector 15 = .ok (.invokevirtual 100, 3) := by decide +kernel
theorem dX5_readObjector_18 : decode cX5_readObjector 18 = .ok (.ireturn, 1) := by decide +kernel
theorem dX5_readObjector_19 : decode cX5_readObjector 19 = .ok (.aload_n 0, 1) := by decide +kernel
theorem dX5_readObjector_20 : decode cX5_readObjector 20 = .ok (.getfield 54, 3) := by decide +kernel
theorem dX5_readObjector_23 : decode cX5_readObjector 23 = .ok (.invokevirtual 106, 3) := by decide +kernel
theorem dX5_readObjector_26 : decode cX5_readObjector 26 = .ok (.aload_n 0, 1) := by decide +kernel
theorem dX5_readObjector_27 : decode cX5_readObjector 27 = .ok (.iload_n 1, 1) := by decide +kernel
theorem dX5_readObjector_28 : decode cX5_readObjector 28 = .ok (.invokevirtual 109, 3) := by decide +kernel
theorem dX5_readObjector_31 : decode cX5_readObjector 31 = .ok (.ifCond .eq 22, 3) := by decide +kernel
theorem dX5_readObjector_34 : decode cX5_readObjector 34 = .ok (.aload_n 0, 1) := by decide +kernel
theorem dX5_readObjector_35 : decode cX5_readObjector 35 = .ok (.bipush 100, 2) := by decide +kernel
theorem dX5_readObjector_37 : decode cX5_readObjector 37 = .ok (.invokevirtual 113, 3) := by decide +kernel
theorem dX5_readObjector_40 : decode cX5_readObjector 40 = .ok (.ifCond .eq 13, 3) := by decide +kernel
theorem dX5_readObjector_43 : decode cX5_readObjector 43 = .ok (.aload_n 0, 1) := by decide +kernel
theorem dX5_readObjector_44 : decode cX5_readObjector 44 = .ok (.iconst 0, 1) := by decide +kernel
theorem dX5_readObjector_45 : decode cX5_readObjector 45 = .ok (.bipush 99, 2) := by decide +kernel
theorem dX5_readObjector_47 : decode cX5_readObjector 47 = .ok (.invokevirtual 116, 3) := by decide +kernel
theorem dX5_readObjector_50 : decode cX5_readObjector 50 = .ok (.ifCond .ne 5, 3) := by decide +kernel
theorem dX5_readObjector_53 : decode cX5_readObjector 53 = .ok (.iconst 0, 1) := by decide +kernel
theorem dX5_readObjector_54 : decode cX5_readObjector 54 = .ok (.ireturn, 1) := by decide +kernel
theorem dX5_readObjector_55 : decode cX5_readObjector 55 = .ok (.aload_n 0, 1) := by decide +kernel
theorem dX5_readObjector_56 : decode cX5_readObjector 56 = .ok (.getfield 12, 3) := by decide +kernel
theorem dX5_readObjector_59 : decode cX5_readObjector 59 = .ok (.getfield 120, 3) := by decide +kernel
theorem dX5_readObjector_62 : decode cX5_readObjector 62 = .ok (.iload_n 1, 1) := by decide +kernel
theorem dX5_readObjector_63 : decode cX5_readObjector 63 = .ok (.aload_n 0, 1) := by decide +kernel
theorem dX5_readObjector_64 : decode cX5_readObjector 64 = .ok (.getfield 35, 3) := by decide +kernel
theorem dX5_readObjector_67 : decode cX5_readObjector 67 = .ok (.iastore, 1) := by decide +kernel
theorem dX5_readObjector_68 : decode cX5_readObjector 68 = .ok (.aload_n 0, 1) := by decide +kernel
theorem dX5_readObjector_69 : decode cX5_readObjector 69 = .ok (.bipush 101, 2) := by decide +kernel
theorem dX5_readObjector_71 : decode cX5_readObjector 71 = .ok (.invokevirtual 113, 3) := by decide +kernel
theorem dX5_readObjector_74 : decode cX5_readObjector 74 = .ok (.ifCond .eq 13, 3) := by decide +kernel
theorem dX5_readObjector_77 : decode cX5_readObjector 77 = .ok (.aload_n 0, 1) := by decide +kernel
theorem dX5_readObjector_78 : decode cX5_readObjector 78 = .ok (.iconst 1, 1) := by decide +kernel
theorem dX5_readObjector_79 : decode cX5_readObjector 79 = .ok (.bipush 60, 2) := by decide +kernel
theorem dX5_readObjector_81 : decode cX5_readObjector 81 = .ok (.invokevirtual 116, 3) := by decide +kernel
theorem dX5_readObjector_84 : decode cX5_readObjector 84 = .ok (.ifCond .ne 5, 3) := by decide +kernel
theorem dX5_readObjector_87 : decode cX5_readObjector 87 = .ok (.iconst 0, 1) := by decide +kernel
theorem dX5_readObjector_88 : decode cX5_readObjector 88 = .ok (.ireturn, 1) := by decide +kernel
theorem dX5_readObjector_89 : decode cX5_readObjector 89 = .ok (.aload_n 0, 1) := by decide +kernel
theorem dX5_readObjector_90 : decode cX5_readObjector 90 = .ok (.getfield 12, 3) := by decide +kernel
theorem dX5_readObjector_93 : decode cX5_readObjector 93 = .ok (.getfield 123, 3) := by decide +kernel
theorem dX5_readObjector_96 : decode cX5_readObjector 96 = .ok (.iload_n 1, 1) := by decide +kernel
theorem dX5_readObjector_97 : decode cX5_readObjector 97 = .ok (.aload_n 0, 1) := by decide +kernel
theorem dX5_readObjector_98 : decode cX5_readObjector 98 = .ok (.getfield 35, 3) := by decide +kernel
theorem dX5_readObjector_101 : decode cX5_readObjector 101 = .ok (.iastore, 1) := by decide +kernel
theorem dX5_readObjector_102 : decode cX5_readObjector 102 = .ok (.aload_n 0, 1) := by decide +kernel
theorem dX5_readObjector_103 : decode cX5_readObjector 103 = .ok (.sipush 999, 3) := by decide +kernel
theorem dX5_readObjector_106 : decode cX5_readObjector 106 = .ok (.putfield 35, 3) := by decide +kernel
theorem dX5_readObjector_109 : decode cX5_readObjector 109 = .ok (.aload_n 0, 1) := by decide +kernel
theorem dX5_readObjector_110 : decode cX5_readObjector 110 = .ok (.getfield 54, 3) := by decide +kernel
theorem dX5_readObjector_113 : decode cX5_readObjector 113 = .ok (.getfield 66, 3) := by decide +kernel
theorem dX5_readObjector_116 : decode cX5_readObjector 116 = .ok (.bipush 107, 2) := by decide +kernel
theorem dX5_readObjector_118 : decode cX5_readObjector 118 = .ok (.if_icmp .ne 25, 3) := by decide +kernel
theorem dX5_readObjector_121 : decode cX5_readObjector 121 = .ok (.aload_n 0, 1) := by decide +kernel
theorem dX5_readObjector_122 : decode cX5_readObjector 122 = .ok (.bipush 107, 2) := by decide +kernel
theorem dX5_readObjector_124 : decode cX5_readObjector 124 = .ok (.invokevirtual 113, 3) := by decide +kernel
theorem dX5_readObjector_127 : decode cX5_readObjector 127 = .ok (.ifCond .eq 14, 3) := by decide +kernel
theorem dX5_readObjector_130 : decode cX5_readObjector 130 = .ok (.aload_n 0, 1) := by decide +kernel
theorem dX5_readObjector_131 : decode cX5_readObjector 131 = .ok (.iconst 0, 1) := by decide +kernel
theorem dX5_readObjector_132 : decode cX5_readObjector 132 = .ok (.sipush 999, 3) := by decide +kernel
theorem dX5_readObjector_135 : decode cX5_readObjector 135 = .ok (.invokevirtual 116, 3) := by decide +kernel
theorem dX5_readObjector_138 : decode cX5_readObjector 138 = .ok (.ifCond .ne 5, 3) := by decide +kernel
theorem dX5_readObjector_141 : decode cX5_readObjector 141 = .ok (.iconst 0, 1) := by decide +kernel
theorem dX5_readObjector_142 : decode cX5_readObjector 142 = .ok (.ireturn, 1) := by decide +kernel
theorem dX5_readObjector_143 : decode cX5_readObjector 143 = .ok (.aload_n 0, 1) := by decide +kernel
theorem dX5_readObjector_144 : decode cX5_readObjector 144 = .ok (.getfield 12, 3) := by decide +kernel
theorem dX5_readObjector_147 : decode cX5_readObjector 147 = .ok (.getfield 126, 3) := by decide +kernel
theorem dX5_readObjector_150 : decode cX5_readObjector 150 = .ok (.iload_n 1, 1) := by decide +kernel
theorem dX5_readObjector_151 : decode cX5_readObjector 151 = .ok (.aload_n 0, 1) := by decide +kernel
theorem dX5_readObjector_152 : decode cX5_readObjector 152 = .ok (.getfield 35, 3) := by decide +kernel
theorem dX5_readObjector_155 : decode cX5_readObjector 155 = .ok (.iastore, 1) := by decide +kernel
theorem dX5_readObjector_156 : decode cX5_readObjector 156 = .ok (.aload_n 0, 1) := by decide +kernel
theorem dX5_readObjector_157 : decode cX5_readObjector 157 = .ok (.iconst 0, 1) := by decide +kernel
theorem dX5_readObjector_158 : decode cX5_readObjector 158 = .ok (.putfield 35, 3) := by decide +kernel
theorem dX5_readObjector_161 : decode cX5_readObjector 161 = .ok (.aload_n 0, 1) := by decide +kernel
theorem dX5_readObjector_162 : decode cX5_readObjector 162 = .ok (.getfield 54, 3) := by decide +kernel
theorem dX5_readObjector_165 : decode cX5_readObjector 165 = .ok (.getfield 66, 3) := by decide +kernel
theorem dX5_readObjector_168 : decode cX5_readObjector 168 = .ok (.bipush 108, 2) := by decide +kernel
theorem dX5_readObjector_170 : decode cX5_readObjector 170 = .ok (.if_icmp .ne 24, 3) := by decide +kernel
theorem dX5_readObjector_173 : decode cX5_readObjector 173 = .ok (.aload_n 0, 1) := by decide +kernel
theorem dX5_readObjector_174 : decode cX5_readObjector 174 = .ok (.bipush 108, 2) := by decide +kernel
theorem dX5_readObjector_176 : decode cX5_readObjector 176 = .ok (.invokevirtual 113, 3) := by decide +kernel
theorem dX5_readObjector_179 : decode cX5_readObjector 179 = .ok (.ifCond .eq 13, 3) := by decide +kernel
theorem dX5_readObjector_182 : decode cX5_readObjector 182 = .ok (.aload_n 0, 1) := by decide +kernel
theorem dX5_readObjector_183 : decode cX5_readObjector 183 = .ok (.iconst 0, 1) := by decide +kernel
theorem dX5_readObjector_184 : decode cX5_readObjector 184 = .ok (.bipush 99, 2) := by decide +kernel
theorem dX5_readObjector_186 : decode cX5_readObjector 186 = .ok (.invokevirtual 116, 3) := by decide +kernel
theorem dX5_readObjector_189 : decode cX5_readObjector 189 = .ok (.ifCond .ne 5, 3) := by decide +kernel
theorem dX5_readObjector_192 : decode cX5_readObjector 192 = .ok (.iconst 0, 1) := by decide +kernel
theorem dX5_readObjector_193 : decode cX5_readObjector 193 = .ok (.ireturn, 1) := by decide +kernel
theorem dX5_readObjector_194 : decode cX5_readObjector 194 = .ok (.aload_n 0, 1) := by decide +kernel
theorem dX5_readObjector_195 : decode cX5_readObjector 195 = .ok (.getfield 12, 3) := by decide +kernel
theorem dX5_readObjector_198 : decode cX5_readObjector 198 = .ok (.getfield 129, 3) := by decide +kernel
theorem dX5_readObjector_201 : decode cX5_readObjector 201 = .ok (.iload_n 1, 1) := by decide +kernel
theorem dX5_readObjector_202 : decode cX5_readObjector 202 = .ok (.aload_n 0, 1) := by decide +kernel
theorem dX5_readObjector_203 : decode cX5_readObjector 203 = .ok (.getfield 35, 3) := by decide +kernel
theorem dX5_readObjector_206 : decode cX5_readObjector 206 = .ok (.iastore, 1) := by decide +kernel
theorem dX5_readObjector_207 : decode cX5_readObjector 207 = .ok (.aload_n 0, 1) := by decide +kernel
theorem dX5_readObjector_208 : decode cX5_readObjector 208 = .ok (.getfield 54, 3) := by decide +kernel
theorem dX5_readObjector_211 : decode cX5_readObjector 211 = .ok (.getfield 66, 3) := by decide +kernel
theorem dX5_readObjector_214 : decode cX5_readObjector 214 = .ok (.bipush 109, 2) := by decide +kernel
theorem dX5_readObjector_216 : decode cX5_readObjector 216 = .ok (.if_icmp .ne 25, 3) := by decide +kernel
theorem dX5_readObjector_219 : decode cX5_readObjector 219 = .ok (.aload_n 0, 1) := by decide +kernel
theorem dX5_readObjector_220 : decode cX5_readObjector 220 = .ok (.getfield 12, 3) := by decide +kernel
theorem dX5_readObjector_223 : decode cX5_readObjector 223 = .ok (.dup, 1) := by decide +kernel
theorem dX5_readObjector_224 : decode cX5_readObjector 224 = .ok (.getfield 132, 3) := by decide +kernel
theorem dX5_readObjector_227 : decode cX5_readObjector 227 = .ok (.iconst 1, 1) := by decide +kernel
theorem dX5_readObjector_228 : decode cX5_readObjector 228 = .ok (.iload_n 1, 1) := by decide +kernel
theorem dX5_readObjector_229 : decode cX5_readObjector 229 = .ok (.ishl, 1) := by decide +kernel
theorem dX5_readObjector_230 : decode cX5_readObjector 230 = .ok (.ior, 1) := by decide +kernel
theorem dX5_readObjector_231 : decode cX5_readObjector 231 = .ok (.putfield 132, 3) := by decide +kernel
theorem dX5_readObjector_234 : decode cX5_readObjector 234 = .ok (.aload_n 0, 1) := by decide +kernel
theorem dX5_readObjector_235 : decode cX5_readObjector 235 = .ok (.getfield 54, 3) := by decide +kernel
theorem dX5_readObjector_238 : decode cX5_readObjector 238 = .ok (.invokevirtual 106, 3) := by decide +kernel
theorem dX5_readObjector_241 : decode cX5_readObjector 241 = .ok (.aload_n 0, 1) := by decide +kernel
theorem dX5_readObjector_242 : decode cX5_readObjector 242 = .ok (.getfield 12, 3) := by decide +kernel
theorem dX5_readObjector_245 : decode cX5_readObjector 245 = .ok (.iload_n 1, 1) := by decide +kernel
theorem dX5_readObjector_246 : decode cX5_readObjector 246 = .ok (.iconst 1, 1) := by decide +kernel
theorem dX5_readObjector_247 : decode cX5_readObjector 247 = .ok (.iadd, 1) := by decide +kernel
theorem dX5_readObjector_248 : decode cX5_readObjector 248 = .ok (.putfield 103, 3) := by decide +kernel
theorem dX5_readObjector_251 : decode cX5_readObjector 251 = .ok (.aload_n 0, 1) := by decide +kernel
theorem dX5_readObjector_252 : decode cX5_readObjector 252 = .ok (.bipush 59, 2) := by decide +kernel
theorem dX5_readObjector_254 : decode cX5_readObjector 254 = .ok (.invokevirtual 113, 3) := by decide +kernel
theorem dX5_readObjector_257 : decode cX5_readObjector 257 = .ok (.ireturn, 1) := by decide +kernel
theorem dX5_readWhom_0 : decode cX5_readWhom 0 = .ok (.iconst 0, 1) := by decide +kernel
theorem dX5_readWhom_1 : decode cX5_readWhom 1 = .ok (.istore_n 3, 1) := by decide +kernel
theorem dX5_readWhom_2 : decode cX5_readWhom 2 = .ok (.iconst 0, 1) := by decide +kernel
theorem dX5_readWhom_3 : decode cX5_readWhom 3 = .ok (.istore 4, 2) := by decide +kernel
theorem dX5_readWhom_5 : decode cX5_readWhom 5 = .ok (.iload 4, 2) := by decide +kernel
theorem dX5_readWhom_7 : decode cX5_readWhom 7 = .ok (.aload_n 0, 1) := by decide +kernel
theorem dX5_readWhom_8 : decode cX5_readWhom 8 = .ok (.getfield 12, 3) := by decide +kernel
theorem dX5_readWhom_11 : decode cX5_readWhom 11 = .ok (.getfield 103, 3) := by decide +kernel
theorem dX5_readWhom_14 : decode cX5_readWhom 14 = .ok (.if_icmp .ge 19, 3) := by decide +kernel
theorem dX5_readWhom_17 : decode cX5_readWhom 17 = .ok (.iload_n 3, 1) := by decide +kernel
theorem dX5_readWhom_18 : decode cX5_readWhom 18 = .ok (.aload_n 1, 1) := by decide +kernel
theorem dX5_readWhom_19 : decode cX5_readWhom 19 = .ok (.iload 4, 2) := by decide +kernel
theorem dX5_readWhom_21 : decode cX5_readWhom 21 = .ok (.iaload, 1) := by decide +kernel
theorem dX5_readWhom_22 : decode cX5_readWhom 22 = .ok (.invokestatic 135, 3) := by decide +kernel
theorem dX5_readWhom_25 : decode cX5_readWhom 25 = .ok (.iadd, 1) := by decide +kernel
theorem dX5_readWhom_26 : decode cX5_readWhom 26 = .ok (.istore_n 3, 1) := by decide +kernel
theorem dX5_readWhom_27 : decode cX5_readWhom 27 = .ok (.iinc 4 1, 3) := by decide +kernel
theorem dX5_readWhom_30 : decode cX5_readWhom 30 = .ok (.goto (-25), 3) := by decide +kernel
theorem dX5_readWhom_33 : decode cX5_readWhom 33 = .ok (.iload_n 3, 1) := by decide +kernel
theorem dX5_readWhom_34 : decode cX5_readWhom 34 = .ok (.iload_n 2, 1) := by decide +kernel
theorem dX5_readWhom_35 : decode cX5_readWhom 35 = .ok (.if_icmp .lt 8, 3) := by decide +kernel
theorem dX5_readWhom_38 : decode cX5_readWhom 38 = .ok (.aload_n 0, 1) := by decide +kernel
theorem dX5_readWhom_39 : decode cX5_readWhom 39 = .ok (.invokevirtual 100, 3) := by decide +kernel
theorem dX5_readWhom_42 : decode cX5_readWhom 42 = .ok (.ireturn, 1) := by decide +kernel
theorem dX5_readWhom_43 : decode cX5_readWhom 43 = .ok (.aload_n 0, 1) := by decide +kernel
theorem dX5_readWhom_44 : decode cX5_readWhom 44 = .ok (.invokevirtual 141, 3) := by decide +kernel
theorem dX5_readWhom_47 : decode cX5_readWhom 47 = .ok (.ifCond .ne 5, 3) := by decide +kernel
theorem dX5_readWhom_50 : decode cX5_readWhom 50 = .ok (.iconst 0, 1) := by decide +kernel
theorem dX5_readWhom_51 : decode cX5_readWhom 51 = .ok (.ireturn, 1) := by decide +kernel
theorem dX5_readWhom_52 : decode cX5_readWhom 52 = .ok (.aload_n 1, 1) := by decide +kernel
theorem dX5_readWhom_53 : decode cX5_readWhom 53 = .ok (.aload_n 0, 1) := by decide +kernel
theorem dX5_readWhom_54 : decode cX5_readWhom 54 = .ok (.getfield 38, 3) := by decide +kernel
theorem dX5_readWhom_57 : decode cX5_readWhom 57 = .ok (.iaload, 1) := by decide +kernel
theorem dX5_readWhom_58 : decode cX5_readWhom 58 = .ok (.aload_n 0, 1) := by decide +kernel
theorem dX5_readWhom_59 : decode cX5_readWhom 59 = .ok (.getfield 41, 3) := by decide +kernel
theorem dX5_readWhom_62 : decode cX5_readWhom 62 = .ok (.ishr, 1) := by decide +kernel
theorem dX5_readWhom_63 : decode cX5_readWhom 63 = .ok (.iconst 1, 1) := by decide +kernel
theorem dX5_readWhom_64 : decode cX5_readWhom 64 = .ok (.iand, 1) := by decide +kernel
theorem dX5_readWhom_65 : decode cX5_readWhom 65 = .ok (.ifCond .eq 9, 3) := by decide +kernel
theorem dX5_readWhom_68 : decode cX5_readWhom 68 = .ok (.aload_n 0, 1) := by decide +kernel
theorem dX5_readWhom_69 : decode cX5_readWhom 69 = .ok (.iconst 3, 1) := by decide +kernel
theorem dX5_readWhom_70 : decode cX5_readWhom 70 = .ok (.invokevirtual 144, 3) := by decide +kernel
theorem dX5_readWhom_73 : decode cX5_readWhom 73 = .ok (.ireturn, 1) := by decide +kernel
theorem dX5_readWhom_74 : decode cX5_readWhom 74 = .ok (.aload_n 1, 1) := by decide +kernel
theorem dX5_readWhom_75 : decode cX5_readWhom 75 = .ok (.aload_n 0, 1) := by decide +kernel
theorem dX5_readWhom_76 : decode cX5_readWhom 76 = .ok (.getfield 38, 3) := by decide +kernel
theorem dX5_readWhom_79 : decode cX5_readWhom 79 = .ok (.dup2, 1) := by decide +kernel
theorem dX5_readWhom_80 : decode cX5_readWhom 80 = .ok (.iaload, 1) := by decide +kernel
theorem dX5_readWhom_81 : decode cX5_readWhom 81 = .ok (.iconst 1, 1) := by decide +kernel
theorem dX5_readWhom_82 : decode cX5_readWhom 82 = .ok (.aload_n 0, 1) := by decide +kernel
theorem dX5_readWhom_83 : decode cX5_readWhom 83 = .ok (.getfield 41, 3) := by decide +kernel
theorem dX5_readWhom_86 : decode cX5_readWhom 86 = .ok (.ishl, 1) := by decide +kernel
theorem dX5_readWhom_87 : decode cX5_readWhom 87 = .ok (.ior, 1) := by decide +kernel
theorem dX5_readWhom_88 : decode cX5_readWhom 88 = .ok (.iastore, 1) := by decide +kernel
theorem dX5_readWhom_89 : decode cX5_readWhom 89 = .ok (.aload_n 0, 1) := by decide +kernel
theorem dX5_readWhom_90 : decode cX5_readWhom 90 = .ok (.getfield 54, 3) := by decide +kernel
theorem dX5_readWhom_93 : decode cX5_readWhom 93 = .ok (.invokevirtual 106, 3) := by decide +kernel
theorem dX5_readWhom_96 : decode cX5_readWhom 96 = .ok (.aload_n 0, 1) := by decide +kernel
theorem dX5_readWhom_97 : decode cX5_readWhom 97 = .ok (.bipush 59, 2) := by decide +kernel
theorem dX5_readWhom_99 : decode cX5_readWhom 99 = .ok (.invokevirtual 113, 3) := by decide +kernel
theorem dX5_readWhom_102 : decode cX5_readWhom 102 = .ok (.ireturn, 1) := by decide +kernel
theorem dX5_readJoined_0 : decode cX5_readJoined 0 = .ok (.aload_n 0, 1) := by decide +kernel
theorem dX5_readJoined_1 : decode cX5_readJoined 1 = .ok (.getfield 32, 3) := by decide +kernel
theorem dX5_readJoined_4 : decode cX5_readJoined 4 = .ok (.bipush 6, 2) := by decide +kernel
theorem dX5_readJoined_6 : decode cX5_readJoined 6 = .ok (.if_icmp .lt 8, 3) := by decide +kernel
theorem dX5_readJoined_9 : decode cX5_readJoined 9 = .ok (.aload_n 0, 1) := by decide +kernel
theorem dX5_readJoined_10 : decode cX5_readJoined 10 = .ok (.invokevirtual 100, 3) := by decide +kernel
theorem dX5_readJoined_13 : decode cX5_readJoined 13 = .ok (.ireturn, 1) := by decide +kernel
theorem dX5_readJoined_14 : decode cX5_readJoined 14 = .ok (.aload_n 0, 1) := by decide +kernel
theorem dX5_readJoined_15 : decode cX5_readJoined 15 = .ok (.invokevirtual 141, 3) := by decide +kernel
theorem dX5_readJoined_18 : decode cX5_readJoined 18 = .ok (.ifCond .ne 5, 3) := by decide +kernel
theorem dX5_readJoined_21 : decode cX5_readJoined 21 = .ok (.iconst 0, 1) := by decide +kernel
theorem dX5_readJoined_22 : decode cX5_readJoined 22 = .ok (.ireturn, 1) := by decide +kernel
theorem dX5_readJoined_23 : decode cX5_readJoined 23 = .ok (.aload_n 0, 1) := by decide +kernel
theorem dX5_readJoined_24 : decode cX5_readJoined 24 = .ok (.getfield 12, 3) := by decide +kernel
theorem dX5_readJoined_27 : decode cX5_readJoined 27 = .ok (.getfield 147, 3) := by decide +kernel
theorem dX5_readJoined_30 : decode cX5_readJoined 30 = .ok (.aload_n 0, 1) := by decide +kernel
theorem dX5_readJoined_31 : decode cX5_readJoined 31 = .ok (.getfield 38, 3) := by decide +kernel
theorem dX5_readJoined_34 : decode cX5_readJoined 34 = .ok (.bipush 7, 2) := by decide +kernel
theorem dX5_readJoined_36 : decode cX5_readJoined 36 = .ok (.imul, 1) := by decide +kernel
theorem dX5_readJoined_37 : decode cX5_readJoined 37 = .ok (.aload_n 0, 1) := by decide +kernel
theorem dX5_readJoined_38 : decode cX5_readJoined 38 = .ok (.getfield 41, 3) := by decide +kernel
theorem dX5_readJoined_41 : decode cX5_readJoined 41 = .ok (.iadd, 1) := by decide +kernel
theorem dX5_readJoined_42 : decode cX5_readJoined 42 = .ok (.iaload, 1) := by decide +kernel
theorem dX5_readJoined_43 : decode cX5_readJoined 43 = .ok (.ifCond .eq 9, 3) := by decide +kernel
theorem dX5_readJoined_46 : decode cX5_readJoined 46 = .ok (.aload_n 0, 1) := by decide +kernel
theorem dX5_readJoined_47 : decode cX5_readJoined 47 = .ok (.iconst 3, 1) := by decide +kernel
theorem dX5_readJoined_48 : decode cX5_readJoined 48 = .ok (.invokevirtual 144, 3) := by decide +kernel
theorem dX5_readJoined_51 : decode cX5_readJoined 51 = .ok (.ireturn, 1) := by decide +kernel
theorem dX5_readJoined_52 : decode cX5_readJoined 52 = .ok (.aload_n 0, 1) := by decide +kernel
theorem dX5_readJoined_53 : decode cX5_readJoined 53 = .ok (.getfield 54, 3) := by decide +kernel
theorem dX5_readJoined_56 : decode cX5_readJoined 56 = .ok (.invokevirtual 106, 3) := by decide +kernel
theorem dX5_readJoined_59 : decode cX5_readJoined 59 = .ok (.aload_n 0, 1) := by decide +kernel
theorem dX5_readJoined_60 : decode cX5_readJoined 60 = .ok (.iconst 1, 1) := by decide +kernel
theorem dX5_readJoined_61 : decode cX5_readJoined 61 = .ok (.bipush 99, 2) := by decide +kernel
theorem dX5_readJoined_63 : decode cX5_readJoined 63 = .ok (.invokevirtual 116, 3) := by decide +kernel
theorem dX5_readJoined_66 : decode cX5_readJoined 66 = .ok (.ifCond .ne 5, 3) := by decide +kernel
theorem dX5_readJoined_69 : decode cX5_readJoined 69 = .ok (.iconst 0, 1) := by decide +kernel
theorem dX5_readJoined_70 : decode cX5_readJoined 70 = .ok (.ireturn, 1) := by decide +kernel
theorem dX5_readJoined_71 : decode cX5_readJoined 71 = .ok (.aload_n 0, 1) := by decide +kernel
theorem dX5_readJoined_72 : decode cX5_readJoined 72 = .ok (.getfield 12, 3) := by decide +kernel
theorem dX5_readJoined_75 : decode cX5_readJoined 75 = .ok (.getfield 147, 3) := by decide +kernel
theorem dX5_readJoined_78 : decode cX5_readJoined 78 = .ok (.aload_n 0, 1) := by decide +kernel
theorem dX5_readJoined_79 : decode cX5_readJoined 79 = .ok (.getfield 38, 3) := by decide +kernel
theorem dX5_readJoined_82 : decode cX5_readJoined 82 = .ok (.bipush 7, 2) := by decide +kernel
theorem dX5_readJoined_84 : decode cX5_readJoined 84 = .ok (.imul, 1) := by decide +kernel
theorem dX5_readJoined_85 : decode cX5_readJoined 85 = .ok (.aload_n 0, 1) := by decide +kernel
theorem dX5_readJoined_86 : decode cX5_readJoined 86 = .ok (.getfield 41, 3) := by decide +kernel
theorem dX5_readJoined_89 : decode cX5_readJoined 89 = .ok (.iadd, 1) := by decide +kernel
theorem dX5_readJoined_90 : decode cX5_readJoined 90 = .ok (.aload_n 0, 1) := by decide +kernel
theorem dX5_readJoined_91 : decode cX5_readJoined 91 = .ok (.getfield 35, 3) := by decide +kernel
theorem dX5_readJoined_94 : decode cX5_readJoined 94 = .ok (.iastore, 1) := by decide +kernel
theorem dX5_readJoined_95 : decode cX5_readJoined 95 = .ok (.aload_n 0, 1) := by decide +kernel
theorem dX5_readJoined_96 : decode cX5_readJoined 96 = .ok (.getfield 12, 3) := by decide +kernel
theorem dX5_readJoined_99 : decode cX5_readJoined 99 = .ok (.getfield 147, 3) := by decide +kernel
theorem dX5_readJoined_102 : decode cX5_readJoined 102 = .ok (.aload_n 0, 1) := by decide +kernel
theorem dX5_readJoined_103 : decode cX5_readJoined 103 = .ok (.getfield 41, 3) := by decide +kernel
theorem dX5_readJoined_106 : decode cX5_readJoined 106 = .ok (.bipush 7, 2) := by decide +kernel
theorem dX5_readJoined_108 : decode cX5_readJoined 108 = .ok (.imul, 1) := by decide +kernel
theorem dX5_readJoined_109 : decode cX5_readJoined 109 = .ok (.aload_n 0, 1) := by decide +kernel
theorem dX5_readJoined_110 : decode cX5_readJoined 110 = .ok (.getfield 38, 3) := by decide +kernel
theorem dX5_readJoined_113 : decode cX5_readJoined 113 = .ok (.iadd, 1) := by decide +kernel
theorem dX5_readJoined_114 : decode cX5_readJoined 114 = .ok (.aload_n 0, 1) := by decide +kernel
theorem dX5_readJoined_115 : decode cX5_readJoined 115 = .ok (.getfield 35, 3) := by decide +kernel
theorem dX5_readJoined_118 : decode cX5_readJoined 118 = .ok (.iastore, 1) := by decide +kernel
theorem dX5_readJoined_119 : decode cX5_readJoined 119 = .ok (.aload_n 0, 1) := by decide +kernel
theorem dX5_readJoined_120 : decode cX5_readJoined 120 = .ok (.dup, 1) := by decide +kernel
theorem dX5_readJoined_121 : decode cX5_readJoined 121 = .ok (.getfield 32, 3) := by decide +kernel
theorem dX5_readJoined_124 : decode cX5_readJoined 124 = .ok (.iconst 1, 1) := by decide +kernel
theorem dX5_readJoined_125 : decode cX5_readJoined 125 = .ok (.iadd, 1) := by decide +kernel
theorem dX5_readJoined_126 : decode cX5_readJoined 126 = .ok (.putfield 32, 3) := by decide +kernel
theorem dX5_readJoined_129 : decode cX5_readJoined 129 = .ok (.aload_n 0, 1) := by decide +kernel
theorem dX5_readJoined_130 : decode cX5_readJoined 130 = .ok (.bipush 59, 2) := by decide +kernel
theorem dX5_readJoined_132 : decode cX5_readJoined 132 = .ok (.invokevirtual 113, 3) := by decide +kernel
theorem dX5_readJoined_135 : decode cX5_readJoined 135 = .ok (.ireturn, 1) := by decide +kernel
theorem dX5_readFormula_0 : decode cX5_readFormula 0 = .ok (.aload_n 0, 1) := by decide +kernel
theorem dX5_readFormula_1 : decode cX5_readFormula 1 = .ok (.invokevirtual 150, 3) := by decide +kernel
theorem dX5_readFormula_4 : decode cX5_readFormula 4 = .ok (.ifCond .ne 5, 3) := by decide +kernel
theorem dX5_readFormula_7 : decode cX5_readFormula 7 = .ok (.iconst 0, 1) := by decide +kernel
theorem dX5_readFormula_8 : decode cX5_readFormula 8 = .ok (.ireturn, 1) := by decide +kernel
theorem dX5_readFormula_9 : decode cX5_readFormula 9 = .ok (.aload_n 0, 1) := by decide +kernel
theorem dX5_readFormula_10 : decode cX5_readFormula 10 = .ok (.aload_n 1, 1) := by decide +kernel
theorem dX5_readFormula_11 : decode cX5_readFormula 11 = .ok (.putfield 48, 3) := by decide +kernel
theorem dX5_readFormula_14 : decode cX5_readFormula 14 = .ok (.aload_n 0, 1) := by decide +kernel
theorem dX5_readFormula_15 : decode cX5_readFormula 15 = .ok (.getfield 48, 3) := by decide +kernel
theorem dX5_readFormula_18 : decode cX5_readFormula 18 = .ok (.invokevirtual 153, 3) := by decide +kernel
theorem dX5_readFormula_21 : decode cX5_readFormula 21 = .ok (.aload_n 0, 1) := by decide +kernel
theorem dX5_readFormula_22 : decode cX5_readFormula 22 = .ok (.iconst 0, 1) := by decide +kernel
theorem dX5_readFormula_23 : decode cX5_readFormula 23 = .ok (.putfield 51, 3) := by decide +kernel
theorem dX5_readFormula_26 : decode cX5_readFormula 26 = .ok (.aload_n 0, 1) := by decide +kernel
theorem dX5_readFormula_27 : decode cX5_readFormula 27 = .ok (.iconst 0, 1) := by decide +kernel
theorem dX5_readFormula_28 : decode cX5_readFormula 28 = .ok (.iconst 0, 1) := by decide +kernel
theorem dX5_readFormula_29 : decode cX5_readFormula 29 = .ok (.invokevirtual 156, 3) := by decide +kernel
theorem dX5_readFormula_32 : decode cX5_readFormula 32 = .ok (.ifCond .eq 16, 3) := by decide +kernel
theorem dX5_readFormula_35 : decode cX5_readFormula 35 = .ok (.aload_n 0, 1) := by decide +kernel
theorem dX5_readFormula_36 : decode cX5_readFormula 36 = .ok (.bipush 59, 2) := by decide +kernel
theorem dX5_readFormula_38 : decode cX5_readFormula 38 = .ok (.invokevirtual 113, 3) := by decide +kernel
theorem dX5_readFormula_41 : decode cX5_readFormula 41 = .ok (.ifCond .eq 7, 3) := by decide +kernel
theorem dX5_readFormula_44 : decode cX5_readFormula 44 = .ok (.iconst 1, 1) := by decide +kernel
theorem dX5_readFormula_45 : decode cX5_readFormula 45 = .ok (.goto 4, 3) := by decide +kernel
theorem dX5_readFormula_48 : decode cX5_readFormula 48 = .ok (.iconst 0, 1) := by decide +kernel
theorem dX5_readFormula_49 : decode cX5_readFormula 49 = .ok (.ireturn, 1) := by decide +kernel
theorem dX5_readBar_0 : decode cX5_readBar 0 = .ok (.aload_n 0, 1) := by decide +kernel
theorem dX5_readBar_1 : decode cX5_readBar 1 = .ok (.invokevirtual 150, 3) := by decide +kernel
theorem dX5_readBar_4 : decode cX5_readBar 4 = .ok (.ifCond .eq 14, 3) := by decide +kernel
theorem dX5_readBar_7 : decode cX5_readBar 7 = .ok (.aload_n 0, 1) := by decide +kernel
theorem dX5_readBar_8 : decode cX5_readBar 8 = .ok (.iconst 1, 1) := by decide +kernel
theorem dX5_readBar_9 : decode cX5_readBar 9 = .ok (.sipush 999, 3) := by decide +kernel
theorem dX5_readBar_12 : decode cX5_readBar 12 = .ok (.invokevirtual 116, 3) := by decide +kernel
theorem dX5_readBar_15 : decode cX5_readBar 15 = .ok (.ifCond .ne 5, 3) := by decide +kernel
theorem dX5_readBar_18 : decode cX5_readBar 18 = .ok (.iconst 0, 1) := by decide +kernel
theorem dX5_readBar_19 : decode cX5_readBar 19 = .ok (.ireturn, 1) := by decide +kernel
theorem dX5_readBar_20 : decode cX5_readBar 20 = .ok (.aload_n 0, 1) := by decide +kernel
theorem dX5_readBar_21 : decode cX5_readBar 21 = .ok (.getfield 12, 3) := by decide +kernel
theorem dX5_readBar_24 : decode cX5_readBar 24 = .ok (.aload_n 0, 1) := by decide +kernel
theorem dX5_readBar_25 : decode cX5_readBar 25 = .ok (.getfield 35, 3) := by decide +kernel
theorem dX5_readBar_28 : decode cX5_readBar 28 = .ok (.putfield 159, 3) := by decide +kernel
theorem dX5_readBar_31 : decode cX5_readBar 31 = .ok (.aload_n 0, 1) := by decide +kernel
theorem dX5_readBar_32 : decode cX5_readBar 32 = .ok (.bipush 59, 2) := by decide +kernel
theorem dX5_readBar_34 : decode cX5_readBar 34 = .ok (.invokevirtual 113, 3) := by decide +kernel
theorem dX5_readBar_37 : decode cX5_readBar 37 = .ok (.ireturn, 1) := by decide +kernel
theorem dX5_readDraw_0 : decode cX5_readDraw 0 = .ok (.aload_n 0, 1) := by decide +kernel
theorem dX5_readDraw_1 : decode cX5_readDraw 1 = .ok (.invokevirtual 150, 3) := by decide +kernel
theorem dX5_readDraw_4 : decode cX5_readDraw 4 = .ok (.ifCond .eq 14, 3) := by decide +kernel
theorem dX5_readDraw_7 : decode cX5_readDraw 7 = .ok (.aload_n 0, 1) := by decide +kernel
theorem dX5_readDraw_8 : decode cX5_readDraw 8 = .ok (.iconst 0, 1) := by decide +kernel
theorem dX5_readDraw_9 : decode cX5_readDraw 9 = .ok (.sipush 999, 3) := by decide +kernel
theorem dX5_readDraw_12 : decode cX5_readDraw 12 = .ok (.invokevirtual 116, 3) := by decide +kernel
theorem dX5_readDraw_15 : decode cX5_readDraw 15 = .ok (.ifCond .ne 5, 3) := by decide +kernel
theorem dX5_readDraw_18 : decode cX5_readDraw 18 = .ok (.iconst 0, 1) := by decide +kernel
theorem dX5_readDraw_19 : decode cX5_readDraw 19 = .ok (.ireturn, 1) := by decide +kernel
theorem dX5_readDraw_20 : decode cX5_readDraw 20 = .ok (.aload_n 0, 1) := by decide +kernel
theorem dX5_readDraw_21 : decode cX5_readDraw 21 = .ok (.getfield 12, 3) := by decide +kernel
theorem dX5_readDraw_24 : decode cX5_readDraw 24 = .ok (.aload_n 0, 1) := by decide +kernel
theorem dX5_readDraw_25 : decode cX5_readDraw 25 = .ok (.getfield 35, 3) := by decide +kernel
theorem dX5_readDraw_28 : decode cX5_readDraw 28 = .ok (.putfield 162, 3) := by decide +kernel
theorem dX5_readDraw_31 : decode cX5_readDraw 31 = .ok (.aload_n 0, 1) := by decide +kernel
theorem dX5_readDraw_32 : decode cX5_readDraw 32 = .ok (.bipush 59, 2) := by decide +kernel
theorem dX5_readDraw_34 : decode cX5_readDraw 34 = .ok (.invokevirtual 113, 3) := by decide +kernel
theorem dX5_readDraw_37 : decode cX5_readDraw 37 = .ok (.ireturn, 1) := by decide +kernel
theorem dX5_beginOnce_0 : decode cX5_beginOnce 0 = .ok (.iconst 1, 1) := by decide +kernel
theorem dX5_beginOnce_1 : decode cX5_beginOnce 1 = .ok (.aload_n 0, 1) := by decide +kernel
theorem dX5_beginOnce_2 : decode cX5_beginOnce 2 = .ok (.getfield 54, 3) := by decide +kernel
theorem dX5_beginOnce_5 : decode cX5_beginOnce 5 = .ok (.getfield 66, 3) := by decide +kernel
theorem dX5_beginOnce_8 : decode cX5_beginOnce 8 = .ok (.bipush 113, 2) := by decide +kernel
theorem dX5_beginOnce_10 : decode cX5_beginOnce 10 = .ok (.isub, 1) := by decide +kernel
theorem dX5_beginOnce_11 : decode cX5_beginOnce 11 = .ok (.ishl, 1) := by decide +kernel
theorem dX5_beginOnce_12 : decode cX5_beginOnce 12 = .ok (.istore_n 1, 1) := by decide +kernel
theorem dX5_beginOnce_13 : decode cX5_beginOnce 13 = .ok (.aload_n 0, 1) := by decide +kernel
theorem dX5_beginOnce_14 : decode cX5_beginOnce 14 = .ok (.getfield 29, 3) := by decide +kernel
theorem dX5_beginOnce_17 : decode cX5_beginOnce 17 = .ok (.iload_n 1, 1) := by decide +kernel
theorem dX5_beginOnce_18 : decode cX5_beginOnce 18 = .ok (.iand, 1) := by decide +kernel
theorem dX5_beginOnce_19 : decode cX5_beginOnce 19 = .ok (.ifCond .eq 8, 3) := by decide +kernel
theorem dX5_beginOnce_22 : decode cX5_beginOnce 22 = .ok (.aload_n 0, 1) := by decide +kernel
theorem dX5_beginOnce_23 : decode cX5_beginOnce 23 = .ok (.invokevirtual 100, 3) := by decide +kernel
theorem dX5_beginOnce_26 : decode cX5_beginOnce 26 = .ok (.ireturn, 1) := by decide +kernel
theorem dX5_beginOnce_27 : decode cX5_beginOnce 27 = .ok (.aload_n 0, 1) := by decide +kernel
theorem dX5_beginOnce_28 : decode cX5_beginOnce 28 = .ok (.dup, 1) := by decide +kernel
theorem dX5_beginOnce_29 : decode cX5_beginOnce 29 = .ok (.getfield 29, 3) := by decide +kernel
theorem dX5_beginOnce_32 : decode cX5_beginOnce 32 = .ok (.iload_n 1, 1) := by decide +kernel
theorem dX5_beginOnce_33 : decode cX5_beginOnce 33 = .ok (.ior, 1) := by decide +kernel
theorem dX5_beginOnce_34 : decode cX5_beginOnce 34 = .ok (.putfield 29, 3) := by decide +kernel
theorem dX5_beginOnce_37 : decode cX5_beginOnce 37 = .ok (.aload_n 0, 1) := by decide +kernel
theorem dX5_beginOnce_38 : decode cX5_beginOnce 38 = .ok (.getfield 54, 3) := by decide +kernel
theorem dX5_beginOnce_41 : decode cX5_beginOnce 41 = .ok (.invokevirtual 106, 3) := by decide +kernel
theorem dX5_beginOnce_44 : decode cX5_beginOnce 44 = .ok (.iconst 1, 1) := by decide +kernel
theorem dX5_beginOnce_45 : decode cX5_beginOnce 45 = .ok (.ireturn, 1) := by decide +kernel
theorem dX5_readPart_0 : decode cX5_readPart 0 = .ok (.iload_n 1, 1) := by decide +kernel
theorem dX5_readPart_1 : decode cX5_readPart 1 = .ok (.iconst 5, 1) := by decide +kernel
theorem dX5_readPart_2 : decode cX5_readPart 2 = .ok (.if_icmp .lt 9, 3) := by decide +kernel
theorem dX5_readPart_5 : decode cX5_readPart 5 = .ok (.aload_n 0, 1) := by decide +kernel
theorem dX5_readPart_6 : decode cX5_readPart 6 = .ok (.iload_n 2, 1) := by decide +kernel
theorem dX5_readPart_7 : decode cX5_readPart 7 = .ok (.invokevirtual 165, 3) := by decide +kernel
theorem dX5_readPart_10 : decode cX5_readPart 10 = .ok (.ireturn, 1) := by decide +kernel
theorem dX5_readPart_11 : decode cX5_readPart 11 = .ok (.iload_n 1, 1) := by decide +kernel
theorem dX5_readPart_12 : decode cX5_readPart 12 = .ok (.iconst 2, 1) := by decide +kernel
theorem dX5_readPart_13 : decode cX5_readPart 13 = .ok (.if_icmp .ne 21, 3) := by decide +kernel
theorem dX5_readPart_16 : decode cX5_readPart 16 = .ok (.aload_n 0, 1) := by decide +kernel
theorem dX5_readPart_17 : decode cX5_readPart 17 = .ok (.getfield 54, 3) := by decide +kernel
theorem dX5_readPart_20 : decode cX5_readPart 20 = .ok (.getfield 66, 3) := by decide +kernel
theorem dX5_readPart_23 : decode cX5_readPart 23 = .ok (.bipush 119, 2) := by decide +kernel
theorem dX5_readPart_25 : decode cX5_readPart 25 = .ok (.if_icmp .ne 9, 3) := by decide +kernel
theorem dX5_readPart_28 : decode cX5_readPart 28 = .ok (.aload_n 0, 1) := by decide +kernel
theorem dX5_readPart_29 : decode cX5_readPart 29 = .ok (.iload_n 2, 1) := by decide +kernel
theorem dX5_readPart_30 : decode cX5_readPart 30 = .ok (.invokevirtual 168, 3) := by decide +kernel
theorem dX5_readPart_33 : decode cX5_readPart 33 = .ok (.ireturn, 1) := by decide +kernel
theorem dX5_readPart_34 : decode cX5_readPart 34 = .ok (.aload_n 0, 1) := by decide +kernel
theorem dX5_readPart_35 : decode cX5_readPart 35 = .ok (.iload_n 1, 1) := by decide +kernel
theorem dX5_readPart_36 : decode cX5_readPart 36 = .ok (.iconst 1, 1) := by decide +kernel
theorem dX5_readPart_37 : decode cX5_readPart 37 = .ok (.iadd, 1) := by decide +kernel
theorem dX5_readPart_38 : decode cX5_readPart 38 = .ok (.iload_n 2, 1) := by decide +kernel
theorem dX5_readPart_39 : decode cX5_readPart 39 = .ok (.invokevirtual 156, 3) := by decide +kernel
theorem dX5_readPart_42 : decode cX5_readPart 42 = .ok (.ifCond .ne 5, 3) := by decide +kernel
theorem dX5_readPart_45 : decode cX5_readPart 45 = .ok (.iconst 0, 1) := by decide +kernel
theorem dX5_readPart_46 : decode cX5_readPart 46 = .ok (.ireturn, 1) := by decide +kernel
theorem dX5_readPart_47 : decode cX5_readPart 47 = .ok (.iconst 0, 1) := by decide +kernel
theorem dX5_readPart_48 : decode cX5_readPart 48 = .ok (.istore_n 3, 1) := by decide +kernel
theorem dX5_readPart_49 : decode cX5_readPart 49 = .ok (.iload_n 3, 1) := by decide +kernel
theorem dX5_readPart_50 : decode cX5_readPart 50 = .ok (.sipush 1600, 3) := by decide +kernel
theorem dX5_readPart_53 : decode cX5_readPart 53 = .ok (.if_icmp .ge 69, 3) := by decide +kernel
theorem dX5_readPart_56 : decode cX5_readPart 56 = .ok (.aload_n 0, 1) := by decide +kernel
theorem dX5_readPart_57 : decode cX5_readPart 57 = .ok (.getfield 54, 3) := by decide +kernel
theorem dX5_readPart_60 : decode cX5_readPart 60 = .ok (.getfield 66, 3) := by decide +kernel
theorem dX5_readPart_63 : decode cX5_readPart 63 = .ok (.invokestatic 171, 3) := by decide +kernel
theorem dX5_readPart_66 : decode cX5_readPart 66 = .ok (.iload_n 1, 1) := by decide +kernel
theorem dX5_readPart_67 : decode cX5_readPart 67 = .ok (.if_icmp .ne 55, 3) := by decide +kernel
theorem dX5_readPart_70 : decode cX5_readPart 70 = .ok (.aload_n 0, 1) := by decide +kernel
theorem dX5_readPart_71 : decode cX5_readPart 71 = .ok (.getfield 54, 3) := by decide +kernel
theorem dX5_readPart_74 : decode cX5_readPart 74 = .ok (.getfield 66, 3) := by decide +kernel
theorem dX5_readPart_77 : decode cX5_readPart 77 = .ok (.istore 4, 2) := by decide +kernel
theorem dX5_readPart_79 : decode cX5_readPart 79 = .ok (.aload_n 0, 1) := by decide +kernel
theorem dX5_readPart_80 : decode cX5_readPart 80 = .ok (.getfield 54, 3) := by decide +kernel
theorem dX5_readPart_83 : decode cX5_readPart 83 = .ok (.invokevirtual 106, 3) := by decide +kernel
theorem dX5_readPart_86 : decode cX5_readPart 86 = .ok (.aload_n 0, 1) := by decide +kernel
theorem dX5_readPart_87 : decode cX5_readPart 87 = .ok (.iload_n 1, 1) := by decide +kernel
theorem dX5_readPart_88 : decode cX5_readPart 88 = .ok (.iconst 1, 1) := by decide +kernel
theorem dX5_readPart_89 : decode cX5_readPart 89 = .ok (.iadd, 1) := by decide +kernel
theorem dX5_readPart_90 : decode cX5_readPart 90 = .ok (.iload_n 2, 1) := by decide +kernel
theorem dX5_readPart_91 : decode cX5_readPart 91 = .ok (.invokevirtual 156, 3) := by decide +kernel
theorem dX5_readPart_94 : decode cX5_readPart 94 = .ok (.ifCond .ne 5, 3) := by decide +kernel
theorem dX5_readPart_97 : decode cX5_readPart 97 = .ok (.iconst 0, 1) := by decide +kernel
theorem dX5_readPart_98 : decode cX5_readPart 98 = .ok (.ireturn, 1) := by decide +kernel
theorem dX5_readPart_99 : decode cX5_readPart 99 = .ok (.aload_n 0, 1) := by decide +kernel
theorem dX5_readPart_100 : decode cX5_readPart 100 = .ok (.getfield 48, 3) := by decide +kernel
theorem dX5_readPart_103 : decode cX5_readPart 103 = .ok (.iload 4, 2) := by decide +kernel
theorem dX5_readPart_105 : decode cX5_readPart 105 = .ok (.ineg, 1) := by decide +kernel
theorem dX5_readPart_106 : decode cX5_readPart 106 = .ok (.invokevirtual 174, 3) := by decide +kernel
theorem dX5_readPart_109 : decode cX5_readPart 109 = .ok (.iload_n 1, 1) := by decide +kernel
theorem dX5_readPart_110 : decode cX5_readPart 110 = .ok (.iconst 2, 1) := by decide +kernel
theorem dX5_readPart_111 : decode cX5_readPart 111 = .ok (.if_icmp .ne 5, 3) := by decide +kernel
theorem dX5_readPart_114 : decode cX5_readPart 114 = .ok (.iconst 1, 1) := by decide +kernel
theorem dX5_readPart_115 : decode cX5_readPart 115 = .ok (.ireturn, 1) := by decide +kernel
theorem dX5_readPart_116 : decode cX5_readPart 116 = .ok (.iinc 3 1, 3) := by decide +kernel
theorem dX5_readPart_119 : decode cX5_readPart 119 = .ok (.goto (-70), 3) := by decide +kernel
theorem dX5_readPart_122 : decode cX5_readPart 122 = .ok (.iconst 1, 1) := by decide +kernel
theorem dX5_readPart_123 : decode cX5_readPart 123 = .ok (.ireturn, 1) := by decide +kernel
theorem dX5_readNot_0 : decode cX5_readNot 0 = .ok (.iload_n 1, 1) := by decide +kernel
theorem dX5_readNot_1 : decode cX5_readNot 1 = .ok (.bipush 6, 2) := by decide +kernel
theorem dX5_readNot_3 : decode cX5_readNot 3 = .ok (.if_icmp .le 8, 3) := by decide +kernel
theorem dX5_readNot_6 : decode cX5_readNot 6 = .ok (.aload_n 0, 1) := by decide +kernel
theorem dX5_readNot_7 : decode cX5_readNot 7 = .ok (.invokevirtual 100, 3) := by decide +kernel
theorem dX5_readNot_10 : decode cX5_readNot 10 = .ok (.ireturn, 1) := by decide +kernel
theorem dX5_readNot_11 : decode cX5_readNot 11 = .ok (.aload_n 0, 1) := by decide +kernel
theorem dX5_readNot_12 : decode cX5_readNot 12 = .ok (.getfield 54, 3) := by decide +kernel
theorem dX5_readNot_15 : decode cX5_readNot 15 = .ok (.invokevirtual 106, 3) := by decide +kernel
theorem dX5_readNot_18 : decode cX5_readNot 18 = .ok (.aload_n 0, 1) := by decide +kernel
theorem dX5_readNot_19 : decode cX5_readNot 19 = .ok (.iconst 2, 1) := by decide +kernel
theorem dX5_readNot_20 : decode cX5_readNot 20 = .ok (.iload_n 1, 1) := by decide +kernel
theorem dX5_readNot_21 : decode cX5_readNot 21 = .ok (.iconst 1, 1) := by decide +kernel
theorem dX5_readNot_22 : decode cX5_readNot 22 = .ok (.iadd, 1) := by decide +kernel
theorem dX5_readNot_23 : decode cX5_readNot 23 = .ok (.invokevirtual 156, 3) := by decide +kernel
theorem dX5_readNot_26 : decode cX5_readNot 26 = .ok (.ifCond .ne 5, 3) := by decide +kernel
theorem dX5_readNot_29 : decode cX5_readNot 29 = .ok (.iconst 0, 1) := by decide +kernel
theorem dX5_readNot_30 : decode cX5_readNot 30 = .ok (.ireturn, 1) := by decide +kernel
theorem dX5_readNot_31 : decode cX5_readNot 31 = .ok (.aload_n 0, 1) := by decide +kernel
theorem dX5_readNot_32 : decode cX5_readNot 32 = .ok (.getfield 48, 3) := by decide +kernel
theorem dX5_readNot_35 : decode cX5_readNot 35 = .ok (.bipush (-119), 2) := by decide +kernel
theorem dX5_readNot_37 : decode cX5_readNot 37 = .ok (.invokevirtual 174, 3) := by decide +kernel
theorem dX5_readNot_40 : decode cX5_readNot 40 = .ok (.iconst 1, 1) := by decide +kernel
theorem dX5_readNot_41 : decode cX5_readNot 41 = .ok (.ireturn, 1) := by decide +kernel
theorem dX5_readUnit_0 : decode cX5_readUnit 0 = .ok (.aload_n 0, 1) := by decide +kernel
theorem dX5_readUnit_1 : decode cX5_readUnit 1 = .ok (.getfield 54, 3) := by decide +kernel
theorem dX5_readUnit_4 : decode cX5_readUnit 4 = .ok (.getfield 66, 3) := by decide +kernel
theorem dX5_readUnit_7 : decode cX5_readUnit 7 = .ok (.istore_n 2, 1) := by decide +kernel
theorem dX5_readUnit_8 : decode cX5_readUnit 8 = .ok (.iload_n 2, 1) := by decide +kernel
theorem dX5_readUnit_9 : decode cX5_readUnit 9 = .ok (.bipush 40, 2) := by decide +kernel
theorem dX5_readUnit_11 : decode cX5_readUnit 11 = .ok (.if_icmp .ne 7, 3) := by decide +kernel
theorem dX5_readUnit_14 : decode cX5_readUnit 14 = .ok (.iconst 1, 1) := by decide +kernel
theorem dX5_readUnit_15 : decode cX5_readUnit 15 = .ok (.goto 4, 3) := by decide +kernel
theorem dX5_readUnit_18 : decode cX5_readUnit 18 = .ok (.iconst 0, 1) := by decide +kernel
theorem dX5_readUnit_19 : decode cX5_readUnit 19 = .ok (.istore_n 3, 1) := by decide +kernel
theorem dX5_readUnit_20 : decode cX5_readUnit 20 = .ok (.iload_n 2, 1) := by decide +kernel
theorem dX5_readUnit_21 : decode cX5_readUnit 21 = .ok (.iconst 3, 1) := by decide +kernel
theorem dX5_readUnit_22 : decode cX5_readUnit 22 = .ok (.if_icmp .eq 10, 3) := by decide +kernel
theorem dX5_readUnit_25 : decode cX5_readUnit 25 = .ok (.iload_n 2, 1) := by decide +kernel
theorem dX5_readUnit_26 : decode cX5_readUnit 26 = .ok (.invokestatic 178, 3) := by decide +kernel
theorem dX5_readUnit_29 : decode cX5_readUnit 29 = .ok (.ifCond .eq 7, 3) := by decide +kernel
theorem dX5_readUnit_32 : decode cX5_readUnit 32 = .ok (.iconst 1, 1) := by decide +kernel
theorem dX5_readUnit_33 : decode cX5_readUnit 33 = .ok (.goto 4, 3) := by decide +kernel
theorem dX5_readUnit_36 : decode cX5_readUnit 36 = .ok (.iconst 0, 1) := by decide +kernel
theorem dX5_readUnit_37 : decode cX5_readUnit 37 = .ok (.istore 4, 2) := by decide +kernel
theorem dX5_readUnit_39 : decode cX5_readUnit 39 = .ok (.iload_n 3, 1) := by decide +kernel
theorem dX5_readUnit_40 : decode cX5_readUnit 40 = .ok (.ifCond .ne 8, 3) := by decide +kernel
theorem dX5_readUnit_43 : decode cX5_readUnit 43 = .ok (.iload 4, 2) := by decide +kernel
theorem dX5_readUnit_45 : decode cX5_readUnit 45 = .ok (.ifCond .eq 24, 3) := by decide +kernel
theorem dX5_readUnit_48 : decode cX5_readUnit 48 = .ok (.aload_n 0, 1) := by decide +kernel
theorem dX5_readUnit_49 : decode cX5_readUnit 49 = .ok (.getfield 51, 3) := by decide +kernel
theorem dX5_readUnit_52 : decode cX5_readUnit 52 = .ok (.bipush 30, 2) := by decide +kernel
theorem dX5_readUnit_54 : decode cX5_readUnit 54 = .ok (.if_icmp .ge 15, 3) := by decide +kernel
theorem dX5_readUnit_57 : decode cX5_readUnit 57 = .ok (.aload_n 0, 1) := by decide +kernel
theorem dX5_readUnit_58 : decode cX5_readUnit 58 = .ok (.getfield 12, 3) := by decide +kernel
theorem dX5_readUnit_61 : decode cX5_readUnit 61 = .ok (.getfield 181, 3) := by decide +kernel
theorem dX5_readUnit_64 : decode cX5_readUnit 64 = .ok (.bipush 60, 2) := by decide +kernel
theorem dX5_readUnit_66 : decode cX5_readUnit 66 = .ok (.if_icmp .lt 8, 3) := by decide +kernel
theorem dX5_readUnit_69 : decode cX5_readUnit 69 = .ok (.aload_n 0, 1) := by decide +kernel
theorem dX5_readUnit_70 : decode cX5_readUnit 70 = .ok (.invokevirtual 100, 3) := by decide +kernel
theorem dX5_readUnit_73 : decode cX5_readUnit 73 = .ok (.ireturn, 1) := by decide +kernel
theorem dX5_readUnit_74 : decode cX5_readUnit 74 = .ok (.aload_n 0, 1) := by decide +kernel
theorem dX5_readUnit_75 : decode cX5_readUnit 75 = .ok (.dup, 1) := by decide +kernel
theorem dX5_readUnit_76 : decode cX5_readUnit 76 = .ok (.getfield 51, 3) := by decide +kernel
theorem dX5_readUnit_79 : decode cX5_readUnit 79 = .ok (.iconst 1, 1) := by decide +kernel
theorem dX5_readUnit_80 : decode cX5_readUnit 80 = .ok (.iadd, 1) := by decide +kernel
theorem dX5_readUnit_81 : decode cX5_readUnit 81 = .ok (.putfield 51, 3) := by decide +kernel
theorem dX5_readUnit_84 : decode cX5_readUnit 84 = .ok (.aload_n 0, 1) := by decide +kernel
theorem dX5_readUnit_85 : decode cX5_readUnit 85 = .ok (.getfield 12, 3) := by decide +kernel
theorem dX5_readUnit_88 : decode cX5_readUnit 88 = .ok (.dup, 1) := by decide +kernel
theorem dX5_readUnit_89 : decode cX5_readUnit 89 = .ok (.getfield 181, 3) := by decide +kernel
theorem dX5_readUnit_92 : decode cX5_readUnit 92 = .ok (.iconst 1, 1) := by decide +kernel
theorem dX5_readUnit_93 : decode cX5_readUnit 93 = .ok (.iadd, 1) := by decide +kernel
theorem dX5_readUnit_94 : decode cX5_readUnit 94 = .ok (.putfield 181, 3) := by decide +kernel
theorem dX5_readUnit_97 : decode cX5_readUnit 97 = .ok (.iload 4, 2) := by decide +kernel
theorem dX5_readUnit_99 : decode cX5_readUnit 99 = .ok (.ifCond .eq 36, 3) := by decide +kernel
theorem dX5_readUnit_102 : decode cX5_readUnit 102 = .ok (.aload_n 0, 1) := by decide +kernel
theorem dX5_readUnit_103 : decode cX5_readUnit 103 = .ok (.getfield 48, 3) := by decide +kernel
theorem dX5_readUnit_106 : decode cX5_readUnit 106 = .ok (.iload_n 2, 1) := by decide +kernel
theorem dX5_readUnit_107 : decode cX5_readUnit 107 = .ok (.iconst 3, 1) := by decide +kernel
theorem dX5_readUnit_108 : decode cX5_readUnit 108 = .ok (.if_icmp .ne 13, 3) := by decide +kernel
theorem dX5_readUnit_111 : decode cX5_readUnit 111 = .ok (.aload_n 0, 1) := by decide +kernel
theorem dX5_readUnit_112 : decode cX5_readUnit 112 = .ok (.getfield 54, 3) := by decide +kernel
theorem dX5_readUnit_115 : decode cX5_readUnit 115 = .ok (.getfield 184, 3) := by decide +kernel
theorem dX5_readUnit_118 : decode cX5_readUnit 118 = .ok (.goto 5, 3) := by decide +kernel
theorem dX5_readUnit_121 : decode cX5_readUnit 121 = .ok (.iload_n 2, 1) := by decide +kernel
theorem dX5_readUnit_122 : decode cX5_readUnit 122 = .ok (.ineg, 1) := by decide +kernel
theorem dX5_readUnit_123 : decode cX5_readUnit 123 = .ok (.invokevirtual 174, 3) := by decide +kernel
theorem dX5_readUnit_126 : decode cX5_readUnit 126 = .ok (.aload_n 0, 1) := by decide +kernel
theorem dX5_readUnit_127 : decode cX5_readUnit 127 = .ok (.getfield 54, 3) := by decide +kernel
theorem dX5_readUnit_130 : decode cX5_readUnit 130 = .ok (.invokevirtual 106, 3) := by decide +kernel
theorem dX5_readUnit_133 : decode cX5_readUnit 133 = .ok (.iconst 1, 1) := by decide +kernel
theorem dX5_readUnit_134 : decode cX5_readUnit 134 = .ok (.ireturn, 1) := by decide +kernel
theorem dX5_readUnit_135 : decode cX5_readUnit 135 = .ok (.iload_n 1, 1) := by decide +kernel
theorem dX5_readUnit_136 : decode cX5_readUnit 136 = .ok (.bipush 6, 2) := by decide +kernel
theorem dX5_readUnit_138 : decode cX5_readUnit 138 = .ok (.if_icmp .le 8, 3) := by decide +kernel
theorem dX5_readUnit_141 : decode cX5_readUnit 141 = .ok (.aload_n 0, 1) := by decide +kernel
theorem dX5_readUnit_142 : decode cX5_readUnit 142 = .ok (.invokevirtual 100, 3) := by decide +kernel
theorem dX5_readUnit_145 : decode cX5_readUnit 145 = .ok (.ireturn, 1) := by decide +kernel
theorem dX5_readUnit_146 : decode cX5_readUnit 146 = .ok (.aload_n 0, 1) := by decide +kernel
theorem dX5_readUnit_147 : decode cX5_readUnit 147 = .ok (.getfield 54, 3) := by decide +kernel
theorem dX5_readUnit_150 : decode cX5_readUnit 150 = .ok (.invokevirtual 106, 3) := by decide +kernel
theorem dX5_readUnit_153 : decode cX5_readUnit 153 = .ok (.aload_n 0, 1) := by decide +kernel
theorem dX5_readUnit_154 : decode cX5_readUnit 154 = .ok (.iconst 0, 1) := by decide +kernel
theorem dX5_readUnit_155 : decode cX5_readUnit 155 = .ok (.iload_n 1, 1) := by decide +kernel
theorem dX5_readUnit_156 : decode cX5_readUnit 156 = .ok (.iconst 1, 1) := by decide +kernel
theorem dX5_readUnit_157 : decode cX5_readUnit 157 = .ok (.iadd, 1) := by decide +kernel
theorem dX5_readUnit_158 : decode cX5_readUnit 158 = .ok (.invokevirtual 156, 3) := by decide +kernel
theorem dX5_readUnit_161 : decode cX5_readUnit 161 = .ok (.ifCond .ne 5, 3) := by decide +kernel
theorem dX5_readUnit_164 : decode cX5_readUnit 164 = .ok (.iconst 0, 1) := by decide +kernel
theorem dX5_readUnit_165 : decode cX5_readUnit 165 = .ok (.ireturn, 1) := by decide +kernel
theorem dX5_readUnit_166 : decode cX5_readUnit 166 = .ok (.aload_n 0, 1) := by decide +kernel
theorem dX5_readUnit_167 : decode cX5_readUnit 167 = .ok (.getfield 54, 3) := by decide +kernel
theorem dX5_readUnit_170 : decode cX5_readUnit 170 = .ok (.getfield 66, 3) := by decide +kernel
theorem dX5_readUnit_173 : decode cX5_readUnit 173 = .ok (.bipush 41, 2) := by decide +kernel
theorem dX5_readUnit_175 : decode cX5_readUnit 175 = .ok (.if_icmp .eq 8, 3) := by decide +kernel
theorem dX5_readUnit_178 : decode cX5_readUnit 178 = .ok (.aload_n 0, 1) := by decide +kernel
theorem dX5_readUnit_179 : decode cX5_readUnit 179 = .ok (.invokevirtual 100, 3) := by decide +kernel
theorem dX5_readUnit_182 : decode cX5_readUnit 182 = .ok (.ireturn, 1) := by decide +kernel
theorem dX5_readUnit_183 : decode cX5_readUnit 183 = .ok (.aload_n 0, 1) := by decide +kernel
theorem dX5_readUnit_184 : decode cX5_readUnit 184 = .ok (.getfield 54, 3) := by decide +kernel
theorem dX5_readUnit_187 : decode cX5_readUnit 187 = .ok (.invokevirtual 106, 3) := by decide +kernel
theorem dX5_readUnit_190 : decode cX5_readUnit 190 = .ok (.iconst 1, 1) := by decide +kernel
theorem dX5_readUnit_191 : decode cX5_readUnit 191 = .ok (.ireturn, 1) := by decide +kernel
theorem dX5_levelOf_0 : decode cX5_levelOf 0 = .ok (.iload_n 0, 1) := by decide +kernel
theorem dX5_levelOf_1 : decode cX5_levelOf 1 = .ok (.lookupswitch 101 #[(37, 99), (42, 99), (43, 97), (45, 97), (47, 99), (60, 95), (61, 95), (62, 95), (117, 91), (118, 93)], 91) := by decide +kernel
theorem dX5_levelOf_92 : decode cX5_levelOf 92 = .ok (.iconst 0, 1) := by decide +kernel
theorem dX5_levelOf_93 : decode cX5_levelOf 93 = .ok (.ireturn, 1) := by decide +kernel
theorem dX5_levelOf_94 : decode cX5_levelOf 94 = .ok (.iconst 1, 1) := by decide +kernel
theorem dX5_levelOf_95 : decode cX5_levelOf 95 = .ok (.ireturn, 1) := by decide +kernel
theorem dX5_levelOf_96 : decode cX5_levelOf 96 = .ok (.iconst 2, 1) := by decide +kernel
theorem dX5_levelOf_97 : decode cX5_levelOf 97 = .ok (.ireturn, 1) := by decide +kernel
theorem dX5_levelOf_98 : decode cX5_levelOf 98 = .ok (.iconst 3, 1) := by decide +kernel
theorem dX5_levelOf_99 : decode cX5_levelOf 99 = .ok (.ireturn, 1) := by decide +kernel
theorem dX5_levelOf_100 : decode cX5_levelOf 100 = .ok (.iconst 4, 1) := by decide +kernel
theorem dX5_levelOf_101 : decode cX5_levelOf 101 = .ok (.ireturn, 1) := by decide +kernel
theorem dX5_levelOf_102 : decode cX5_levelOf 102 = .ok (.iconst (-1), 1) := by decide +kernel
theorem dX5_levelOf_103 : decode cX5_levelOf 103 = .ok (.ireturn, 1) := by decide +kernel
theorem dX5_readNewName_0 : decode cX5_readNewName 0 = .ok (.aload_n 0, 1) := by decide +kernel
theorem dX5_readNewName_1 : decode cX5_readNewName 1 = .ok (.getfield 54, 3) := by decide +kernel
theorem dX5_readNewName_4 : decode cX5_readNewName 4 = .ok (.getfield 66, 3) := by decide +kernel
theorem dX5_readNewName_7 : decode cX5_readNewName 7 = .ok (.iconst 2, 1) := by decide +kernel
theorem dX5_readNewName_8 : decode cX5_readNewName 8 = .ok (.if_icmp .eq 8, 3) := by decide +kernel
theorem dX5_readNewName_11 : decode cX5_readNewName 11 = .ok (.aload_n 0, 1) := by decide +kernel
theorem dX5_readNewName_12 : decode cX5_readNewName 12 = .ok (.invokevirtual 100, 3) := by decide +kernel
theorem dX5_readNewName_15 : decode cX5_readNewName 15 = .ok (.ireturn, 1) := by decide +kernel
theorem dX5_readNewName_16 : decode cX5_readNewName 16 = .ok (.aload_n 0, 1) := by decide +kernel
theorem dX5_readNewName_17 : decode cX5_readNewName 17 = .ok (.invokevirtual 187, 3) := by decide +kernel
theorem dX5_readNewName_20 : decode cX5_readNewName 20 = .ok (.ifCond .lt 9, 3) := by decide +kernel
theorem dX5_readNewName_23 : decode cX5_readNewName 23 = .ok (.aload_n 0, 1) := by decide +kernel
theorem dX5_readNewName_24 : decode cX5_readNewName 24 = .ok (.iconst 3, 1) := by decide +kernel
theorem dX5_readNewName_25 : decode cX5_readNewName 25 = .ok (.invokevirtual 144, 3) := by decide +kernel
theorem dX5_readNewName_28 : decode cX5_readNewName 28 = .ok (.ireturn, 1) := by decide +kernel
theorem dX5_readNewName_29 : decode cX5_readNewName 29 = .ok (.aload_n 0, 1) := by decide +kernel
theorem dX5_readNewName_30 : decode cX5_readNewName 30 = .ok (.getfield 25, 3) := by decide +kernel
theorem dX5_readNewName_33 : decode cX5_readNewName 33 = .ok (.iload_n 1, 1) := by decide +kernel
theorem dX5_readNewName_34 : decode cX5_readNewName 34 = .ok (.aload_n 0, 1) := by decide +kernel
theorem dX5_readNewName_35 : decode cX5_readNewName 35 = .ok (.getfield 54, 3) := by decide +kernel
theorem dX5_readNewName_38 : decode cX5_readNewName 38 = .ok (.getfield 191, 3) := by decide +kernel
theorem dX5_readNewName_41 : decode cX5_readNewName 41 = .ok (.lastore, 1) := by decide +kernel
theorem dX5_readNewName_42 : decode cX5_readNewName 42 = .ok (.aload_n 0, 1) := by decide +kernel
theorem dX5_readNewName_43 : decode cX5_readNewName 43 = .ok (.getfield 54, 3) := by decide +kernel
theorem dX5_readNewName_46 : decode cX5_readNewName 46 = .ok (.invokevirtual 106, 3) := by decide +kernel
theorem dX5_readNewName_49 : decode cX5_readNewName 49 = .ok (.iconst 1, 1) := by decide +kernel
theorem dX5_readNewName_50 : decode cX5_readNewName 50 = .ok (.ireturn, 1) := by decide +kernel
theorem dX5_readTwoNames_0 : decode cX5_readTwoNames 0 = .ok (.aload_n 0, 1) := by decide +kernel
theorem dX5_readTwoNames_1 : decode cX5_readTwoNames 1 = .ok (.getfield 54, 3) := by decide +kernel
theorem dX5_readTwoNames_4 : decode cX5_readTwoNames 4 = .ok (.invokevirtual 106, 3) := by decide +kernel
theorem dX5_readTwoNames_7 : decode cX5_readTwoNames 7 = .ok (.aload_n 0, 1) := by decide +kernel
theorem dX5_readTwoNames_8 : decode cX5_readTwoNames 8 = .ok (.aload_n 0, 1) := by decide +kernel
theorem dX5_readTwoNames_9 : decode cX5_readTwoNames 9 = .ok (.invokevirtual 187, 3) := by decide +kernel
theorem dX5_readTwoNames_12 : decode cX5_readTwoNames 12 = .ok (.putfield 38, 3) := by decide +kernel
theorem dX5_readTwoNames_15 : decode cX5_readTwoNames 15 = .ok (.aload_n 0, 1) := by decide +kernel
theorem dX5_readTwoNames_16 : decode cX5_readTwoNames 16 = .ok (.getfield 38, 3) := by decide +kernel
theorem dX5_readTwoNames_19 : decode cX5_readTwoNames 19 = .ok (.ifCond .ge 27, 3) := by decide +kernel
theorem dX5_readTwoNames_22 : decode cX5_readTwoNames 22 = .ok (.aload_n 0, 1) := by decide +kernel
theorem dX5_readTwoNames_23 : decode cX5_readTwoNames 23 = .ok (.getfield 54, 3) := by decide +kernel
theorem dX5_readTwoNames_26 : decode cX5_readTwoNames 26 = .ok (.getfield 66, 3) := by decide +kernel
theorem dX5_readTwoNames_29 : decode cX5_readTwoNames 29 = .ok (.iconst 2, 1) := by decide +kernel
theorem dX5_readTwoNames_30 : decode cX5_readTwoNames 30 = .ok (.if_icmp .ne 11, 3) := by decide +kernel
theorem dX5_readTwoNames_33 : decode cX5_readTwoNames 33 = .ok (.aload_n 0, 1) := by decide +kernel
theorem dX5_readTwoNames_34 : decode cX5_readTwoNames 34 = .ok (.iconst 5, 1) := by decide +kernel
theorem dX5_readTwoNames_35 : decode cX5_readTwoNames 35 = .ok (.invokevirtual 144, 3) := by decide +kernel
theorem dX5_readTwoNames_38 : decode cX5_readTwoNames 38 = .ok (.goto 7, 3) := by decide +kernel
theorem dX5_readTwoNames_41 : decode cX5_readTwoNames 41 = .ok (.aload_n 0, 1) := by decide +kernel
theorem dX5_readTwoNames_42 : decode cX5_readTwoNames 42 = .ok (.invokevirtual 100, 3) := by decide +kernel
theorem dX5_readTwoNames_45 : decode cX5_readTwoNames 45 = .ok (.ireturn, 1) := by decide +kernel
theorem dX5_readTwoNames_46 : decode cX5_readTwoNames 46 = .ok (.aload_n 0, 1) := by decide +kernel
theorem dX5_readTwoNames_47 : decode cX5_readTwoNames 47 = .ok (.getfield 54, 3) := by decide +kernel
theorem dX5_readTwoNames_50 : decode cX5_readTwoNames 50 = .ok (.invokevirtual 106, 3) := by decide +kernel
theorem dX5_readTwoNames_53 : decode cX5_readTwoNames 53 = .ok (.aload_n 0, 1) := by decide +kernel
theorem dX5_readTwoNames_54 : decode cX5_readTwoNames 54 = .ok (.aload_n 0, 1) := by decide +kernel
theorem dX5_readTwoNames_55 : decode cX5_readTwoNames 55 = .ok (.invokevirtual 187, 3) := by decide +kernel
theorem dX5_readTwoNames_58 : decode cX5_readTwoNames 58 = .ok (.putfield 41, 3) := by decide +kernel
theorem dX5_readTwoNames_61 : decode cX5_readTwoNames 61 = .ok (.aload_n 0, 1) := by decide +kernel
theorem dX5_readTwoNames_62 : decode cX5_readTwoNames 62 = .ok (.getfield 41, 3) := by decide +kernel
theorem dX5_readTwoNames_65 : decode cX5_readTwoNames 65 = .ok (.ifCond .ge 27, 3) := by decide +kernel
theorem dX5_readTwoNames_68 : decode cX5_readTwoNames 68 = .ok (.aload_n 0, 1) := by decide +kernel
theorem dX5_readTwoNames_69 : decode cX5_readTwoNames 69 = .ok (.getfield 54, 3) := by decide +kernel
theorem dX5_readTwoNames_72 : decode cX5_readTwoNames 72 = .ok (.getfield 66, 3) := by decide +kernel
theorem dX5_readTwoNames_75 : decode cX5_readTwoNames 75 = .ok (.iconst 2, 1) := by decide +kernel
theorem dX5_readTwoNames_76 : decode cX5_readTwoNames 76 = .ok (.if_icmp .ne 11, 3) := by decide +kernel
theorem dX5_readTwoNames_79 : decode cX5_readTwoNames 79 = .ok (.aload_n 0, 1) := by decide +kernel
theorem dX5_readTwoNames_80 : decode cX5_readTwoNames 80 = .ok (.iconst 5, 1) := by decide +kernel
theorem dX5_readTwoNames_81 : decode cX5_readTwoNames 81 = .ok (.invokevirtual 144, 3) := by decide +kernel
theorem dX5_readTwoNames_84 : decode cX5_readTwoNames 84 = .ok (.goto 7, 3) := by decide +kernel
theorem dX5_readTwoNames_87 : decode cX5_readTwoNames 87 = .ok (.aload_n 0, 1) := by decide +kernel
theorem dX5_readTwoNames_88 : decode cX5_readTwoNames 88 = .ok (.invokevirtual 100, 3) := by decide +kernel
theorem dX5_readTwoNames_91 : decode cX5_readTwoNames 91 = .ok (.ireturn, 1) := by decide +kernel
theorem dX5_readTwoNames_92 : decode cX5_readTwoNames 92 = .ok (.aload_n 0, 1) := by decide +kernel
theorem dX5_readTwoNames_93 : decode cX5_readTwoNames 93 = .ok (.getfield 38, 3) := by decide +kernel
theorem dX5_readTwoNames_96 : decode cX5_readTwoNames 96 = .ok (.aload_n 0, 1) := by decide +kernel
theorem dX5_readTwoNames_97 : decode cX5_readTwoNames 97 = .ok (.getfield 41, 3) := by decide +kernel
theorem dX5_readTwoNames_100 : decode cX5_readTwoNames 100 = .ok (.if_icmp .ne 11, 3) := by decide +kernel
theorem dX5_readTwoNames_103 : decode cX5_readTwoNames 103 = .ok (.aload_n 0, 1) := by decide +kernel
theorem dX5_readTwoNames_104 : decode cX5_readTwoNames 104 = .ok (.iconst 3, 1) := by decide +kernel
theorem dX5_readTwoNames_105 : decode cX5_readTwoNames 105 = .ok (.invokevirtual 144, 3) := by decide +kernel
theorem dX5_readTwoNames_108 : decode cX5_readTwoNames 108 = .ok (.ifCond .eq 7, 3) := by decide +kernel
theorem dX5_readTwoNames_111 : decode cX5_readTwoNames 111 = .ok (.iconst 1, 1) := by decide +kernel
theorem dX5_readTwoNames_112 : decode cX5_readTwoNames 112 = .ok (.goto 4, 3) := by decide +kernel
theorem dX5_readTwoNames_115 : decode cX5_readTwoNames 115 = .ok (.iconst 0, 1) := by decide +kernel
theorem dX5_readTwoNames_116 : decode cX5_readTwoNames 116 = .ok (.ireturn, 1) := by decide +kernel
theorem dX5_find_0 : decode cX5_find 0 = .ok (.iconst 0, 1) := by decide +kernel
theorem dX5_find_1 : decode cX5_find 1 = .ok (.istore_n 1, 1) := by decide +kernel
theorem dX5_find_2 : decode cX5_find 2 = .ok (.iload_n 1, 1) := by decide +kernel
theorem dX5_find_3 : decode cX5_find 3 = .ok (.aload_n 0, 1) := by decide +kernel
theorem dX5_find_4 : decode cX5_find 4 = .ok (.getfield 12, 3) := by decide +kernel
theorem dX5_find_7 : decode cX5_find 7 = .ok (.getfield 103, 3) := by decide +kernel
theorem dX5_find_10 : decode cX5_find 10 = .ok (.if_icmp .ge 39, 3) := by decide +kernel
theorem dX5_find_13 : decode cX5_find 13 = .ok (.aload_n 0, 1) := by decide +kernel
theorem dX5_find_14 : decode cX5_find 14 = .ok (.getfield 54, 3) := by decide +kernel
theorem dX5_find_17 : decode cX5_find 17 = .ok (.getfield 66, 3) := by decide +kernel
theorem dX5_find_20 : decode cX5_find 20 = .ok (.iconst 2, 1) := by decide +kernel
theorem dX5_find_21 : decode cX5_find 21 = .ok (.if_icmp .ne 22, 3) := by decide +kernel
theorem dX5_find_24 : decode cX5_find 24 = .ok (.aload_n 0, 1) := by decide +kernel
theorem dX5_find_25 : decode cX5_find 25 = .ok (.getfield 25, 3) := by decide +kernel
theorem dX5_find_28 : decode cX5_find 28 = .ok (.iload_n 1, 1) := by decide +kernel
theorem dX5_find_29 : decode cX5_find 29 = .ok (.laload, 1) := by decide +kernel
theorem dX5_find_30 : decode cX5_find 30 = .ok (.aload_n 0, 1) := by decide +kernel
theorem dX5_find_31 : decode cX5_find 31 = .ok (.getfield 54, 3) := by decide +kernel
theorem dX5_find_34 : decode cX5_find 34 = .ok (.getfield 191, 3) := by decide +kernel
theorem dX5_find_37 : decode cX5_find 37 = .ok (.lcmp, 1) := by decide +kernel
theorem dX5_find_38 : decode cX5_find 38 = .ok (.ifCond .ne 5, 3) := by decide +kernel
theorem dX5_find_41 : decode cX5_find 41 = .ok (.iload_n 1, 1) := by decide +kernel
theorem dX5_find_42 : decode cX5_find 42 = .ok (.ireturn, 1) := by decide +kernel
theorem dX5_find_43 : decode cX5_find 43 = .ok (.iinc 1 1, 3) := by decide +kernel
theorem dX5_find_46 : decode cX5_find 46 = .ok (.goto (-44), 3) := by decide +kernel
theorem dX5_find_49 : decode cX5_find 49 = .ok (.iconst (-1), 1) := by decide +kernel
theorem dX5_find_50 : decode cX5_find 50 = .ok (.ireturn, 1) := by decide +kernel
theorem dX5_readAmount_0 : decode cX5_readAmount 0 = .ok (.aload_n 0, 1) := by decide +kernel
theorem dX5_readAmount_1 : decode cX5_readAmount 1 = .ok (.getfield 54, 3) := by decide +kernel
theorem dX5_readAmount_4 : decode cX5_readAmount 4 = .ok (.getfield 66, 3) := by decide +kernel
theorem dX5_readAmount_7 : decode cX5_readAmount 7 = .ok (.iconst 3, 1) := by decide +kernel
theorem dX5_readAmount_8 : decode cX5_readAmount 8 = .ok (.if_icmp .eq 8, 3) := by decide +kernel
theorem dX5_readAmount_11 : decode cX5_readAmount 11 = .ok (.aload_n 0, 1) := by decide +kernel
theorem dX5_readAmount_12 : decode cX5_readAmount 12 = .ok (.invokevirtual 100, 3) := by decide +kernel
theorem dX5_readAmount_15 : decode cX5_readAmount 15 = .ok (.ireturn, 1) := by decide +kernel
theorem dX5_readAmount_16 : decode cX5_readAmount 16 = .ok (.aload_n 0, 1) := by decide +kernel
theorem dX5_readAmount_17 : decode cX5_readAmount 17 = .ok (.getfield 54, 3) := by decide +kernel
theorem dX5_readAmount_20 : decode cX5_readAmount 20 = .ok (.getfield 184, 3) := by decide +kernel
theorem dX5_readAmount_23 : decode cX5_readAmount 23 = .ok (.iload_n 1, 1) := by decide +kernel
theorem dX5_readAmount_24 : decode cX5_readAmount 24 = .ok (.if_icmp .lt 14, 3) := by decide +kernel
theorem dX5_readAmount_27 : decode cX5_readAmount 27 = .ok (.aload_n 0, 1) := by decide +kernel
theorem dX5_readAmount_28 : decode cX5_readAmount 28 = .ok (.getfield 54, 3) := by decide +kernel
theorem dX5_readAmount_31 : decode cX5_readAmount 31 = .ok (.getfield 184, 3) := by decide +kernel
theorem dX5_readAmount_34 : decode cX5_readAmount 34 = .ok (.iload_n 2, 1) := by decide +kernel
theorem dX5_readAmount_35 : decode cX5_readAmount 35 = .ok (.if_icmp .le 9, 3) := by decide +kernel
theorem dX5_readAmount_38 : decode cX5_readAmount 38 = .ok (.aload_n 0, 1) := by decide +kernel
theorem dX5_readAmount_39 : decode cX5_readAmount 39 = .ok (.iconst 4, 1) := by decide +kernel
theorem dX5_readAmount_40 : decode cX5_readAmount 40 = .ok (.invokevirtual 144, 3) := by decide +kernel
theorem dX5_readAmount_43 : decode cX5_readAmount 43 = .ok (.ireturn, 1) := by decide +kernel
theorem dX5_readAmount_44 : decode cX5_readAmount 44 = .ok (.aload_n 0, 1) := by decide +kernel
theorem dX5_readAmount_45 : decode cX5_readAmount 45 = .ok (.aload_n 0, 1) := by decide +kernel
theorem dX5_readAmount_46 : decode cX5_readAmount 46 = .ok (.getfield 54, 3) := by decide +kernel
theorem dX5_readAmount_49 : decode cX5_readAmount 49 = .ok (.getfield 184, 3) := by decide +kernel
theorem dX5_readAmount_52 : decode cX5_readAmount 52 = .ok (.putfield 35, 3) := by decide +kernel
theorem dX5_readAmount_55 : decode cX5_readAmount 55 = .ok (.aload_n 0, 1) := by decide +kernel
theorem dX5_readAmount_56 : decode cX5_readAmount 56 = .ok (.getfield 54, 3) := by decide +kernel
theorem dX5_readAmount_59 : decode cX5_readAmount 59 = .ok (.invokevirtual 106, 3) := by decide +kernel
theorem dX5_readAmount_62 : decode cX5_readAmount 62 = .ok (.iconst 1, 1) := by decide +kernel
theorem dX5_readAmount_63 : decode cX5_readAmount 63 = .ok (.ireturn, 1) := by decide +kernel
theorem dX5_take_0 : decode cX5_take 0 = .ok (.aload_n 0, 1) := by decide +kernel
theorem dX5_take_1 : decode cX5_take 1 = .ok (.getfield 54, 3) := by decide +kernel
theorem dX5_take_4 : decode cX5_take 4 = .ok (.getfield 66, 3) := by decide +kernel
theorem dX5_take_7 : decode cX5_take 7 = .ok (.iload_n 1, 1) := by decide +kernel
theorem dX5_take_8 : decode cX5_take 8 = .ok (.if_icmp .eq 8, 3) := by decide +kernel
theorem dX5_take_11 : decode cX5_take 11 = .ok (.aload_n 0, 1) := by decide +kernel
theorem dX5_take_12 : decode cX5_take 12 = .ok (.invokevirtual 100, 3) := by decide +kernel
theorem dX5_take_15 : decode cX5_take 15 = .ok (.ireturn, 1) := by decide +kernel
theorem dX5_take_16 : decode cX5_take 16 = .ok (.aload_n 0, 1) := by decide +kernel
theorem dX5_take_17 : decode cX5_take 17 = .ok (.getfield 54, 3) := by decide +kernel
theorem dX5_take_20 : decode cX5_take 20 = .ok (.invokevirtual 106, 3) := by decide +kernel
theorem dX5_take_23 : decode cX5_take 23 = .ok (.iconst 1, 1) := by decide +kernel
theorem dX5_take_24 : decode cX5_take 24 = .ok (.ireturn, 1) := by decide +kernel
theorem dX5_misplaced_0 : decode cX5_misplaced 0 = .ok (.aload_n 0, 1) := by decide +kernel
theorem dX5_misplaced_1 : decode cX5_misplaced 1 = .ok (.aload_n 0, 1) := by decide +kernel
theorem dX5_misplaced_2 : decode cX5_misplaced 2 = .ok (.getfield 54, 3) := by decide +kernel
theorem dX5_misplaced_5 : decode cX5_misplaced 5 = .ok (.getfield 66, 3) := by decide +kernel
theorem dX5_misplaced_8 : decode cX5_misplaced 8 = .ok (.iconst 1, 1) := by decide +kernel
theorem dX5_misplaced_9 : decode cX5_misplaced 9 = .ok (.if_icmp .ne 7, 3) := by decide +kernel
theorem dX5_misplaced_12 : decode cX5_misplaced 12 = .ok (.iconst 1, 1) := by decide +kernel
theorem dX5_misplaced_13 : decode cX5_misplaced 13 = .ok (.goto 4, 3) := by decide +kernel
theorem dX5_misplaced_16 : decode cX5_misplaced 16 = .ok (.iconst 2, 1) := by decide +kernel
theorem dX5_misplaced_17 : decode cX5_misplaced 17 = .ok (.invokevirtual 144, 3) := by decide +kernel
theorem dX5_misplaced_20 : decode cX5_misplaced 20 = .ok (.ireturn, 1) := by decide +kernel
theorem dX5_refuse_0 : decode cX5_refuse 0 = .ok (.aload_n 0, 1) := by decide +kernel
theorem dX5_refuse_1 : decode cX5_refuse 1 = .ok (.iload_n 1, 1) := by decide +kernel
theorem dX5_refuse_2 : decode cX5_refuse 2 = .ok (.putfield 18, 3) := by decide +kernel
theorem dX5_refuse_5 : decode cX5_refuse 5 = .ok (.aload_n 0, 1) := by decide +kernel
theorem dX5_refuse_6 : decode cX5_refuse 6 = .ok (.aload_n 0, 1) := by decide +kernel
theorem dX5_refuse_7 : decode cX5_refuse 7 = .ok (.getfield 54, 3) := by decide +kernel
theorem dX5_refuse_10 : decode cX5_refuse 10 = .ok (.getfield 195, 3) := by decide +kernel
theorem dX5_refuse_13 : decode cX5_refuse 13 = .ok (.putfield 22, 3) := by decide +kernel
theorem dX5_refuse_16 : decode cX5_refuse 16 = .ok (.iconst 0, 1) := by decide +kernel
theorem dX5_refuse_17 : decode cX5_refuse 17 = .ok (.ireturn, 1) := by decide +kernel
theorem dX6_init_0 : decode cX6_init 0 = .ok (.aload_n 0, 1) := by decide +kernel
theorem dX6_init_1 : decode cX6_init 1 = .ok (.invokespecial 7, 3) := by decide +kernel
theorem dX6_init_4 : decode cX6_init 4 = .ok (.aload_n 0, 1) := by decide +kernel
theorem dX6_init_5 : decode cX6_init 5 = .ok (.bipush 7, 2) := by decide +kernel
theorem dX6_init_7 : decode cX6_init 7 = .ok (.newarray .int, 2) := by decide +kernel
theorem dX6_init_9 : decode cX6_init 9 = .ok (.putfield 13, 3) := by decide +kernel
theorem dX6_init_12 : decode cX6_init 12 = .ok (.aload_n 0, 1) := by decide +kernel
theorem dX6_init_13 : decode cX6_init 13 = .ok (.bipush 7, 2) := by decide +kernel
theorem dX6_init_15 : decode cX6_init 15 = .ok (.newarray .int, 2) := by decide +kernel
theorem dX6_init_17 : decode cX6_init 17 = .ok (.putfield 17, 3) := by decide +kernel
theorem dX6_init_20 : decode cX6_init 20 = .ok (.aload_n 0, 1) := by decide +kernel
theorem dX6_init_21 : decode cX6_init 21 = .ok (.bipush 7, 2) := by decide +kernel
theorem dX6_init_23 : decode cX6_init 23 = .ok (.newarray .int, 2) := by decide +kernel
theorem dX6_init_25 : decode cX6_init 25 = .ok (.putfield 20, 3) := by decide +kernel
theorem dX6_init_28 : decode cX6_init 28 = .ok (.aload_n 0, 1) := by decide +kernel
theorem dX6_init_29 : decode cX6_init 29 = .ok (.iconst 0, 1) := by decide +kernel
theorem dX6_init_30 : decode cX6_init 30 = .ok (.putfield 23, 3) := by decide +kernel
theorem dX6_init_33 : decode cX6_init 33 = .ok (.aload_n 0, 1) := by decide +kernel
theorem dX6_init_34 : decode cX6_init 34 = .ok (.iconst 0, 1) := by decide +kernel
theorem dX6_init_35 : decode cX6_init 35 = .ok (.putfield 27, 3) := by decide +kernel
theorem dX6_init_38 : decode cX6_init 38 = .ok (.aload_n 0, 1) := by decide +kernel
theorem dX6_init_39 : decode cX6_init 39 = .ok (.iconst 0, 1) := by decide +kernel
theorem dX6_init_40 : decode cX6_init 40 = .ok (.putfield 30, 3) := by decide +kernel
theorem dX6_init_43 : decode cX6_init 43 = .ok (.aload_n 0, 1) := by decide +kernel
theorem dX6_init_44 : decode cX6_init 44 = .ok (.bipush 6, 2) := by decide +kernel
theorem dX6_init_46 : decode cX6_init 46 = .ok (.newarray .int, 2) := by decide +kernel
theorem dX6_init_48 : decode cX6_init 48 = .ok (.putfield 35, 3) := by decide +kernel
theorem dX6_init_51 : decode cX6_init 51 = .ok (.aload_n 0, 1) := by decide +kernel
theorem dX6_init_52 : decode cX6_init 52 = .ok (.aload_n 1, 1) := by decide +kernel
theorem dX6_init_53 : decode cX6_init 53 = .ok (.putfield 38, 3) := by decide +kernel
theorem dX6_init_56 : decode cX6_init 56 = .ok (.return_, 1) := by decide +kernel
theorem dX6_begin_0 : decode cX6_begin 0 = .ok (.iconst 0, 1) := by decide +kernel
theorem dX6_begin_1 : decode cX6_begin 1 = .ok (.istore_n 1, 1) := by decide +kernel
theorem dX6_begin_2 : decode cX6_begin 2 = .ok (.iload_n 1, 1) := by decide +kernel
theorem dX6_begin_3 : decode cX6_begin 3 = .ok (.bipush 7, 2) := by decide +kernel
theorem dX6_begin_5 : decode cX6_begin 5 = .ok (.if_icmp .ge 16, 3) := by decide +kernel
theorem dX6_begin_8 : decode cX6_begin 8 = .ok (.aload_n 0, 1) := by decide +kernel
theorem dX6_begin_9 : decode cX6_begin 9 = .ok (.getfield 13, 3) := by decide +kernel
theorem dX6_begin_12 : decode cX6_begin 12 = .ok (.iload_n 1, 1) := by decide +kernel
theorem dX6_begin_13 : decode cX6_begin 13 = .ok (.iconst 0, 1) := by decide +kernel
theorem dX6_begin_14 : decode cX6_begin 14 = .ok (.iastore, 1) := by decide +kernel
theorem dX6_begin_15 : decode cX6_begin 15 = .ok (.iinc 1 1, 3) := by decide +kernel
theorem dX6_begin_18 : decode cX6_begin 18 = .ok (.goto (-16), 3) := by decide +kernel
theorem dX6_begin_21 : decode cX6_begin 21 = .ok (.aload_n 0, 1) := by decide +kernel
theorem dX6_begin_22 : decode cX6_begin 22 = .ok (.getfield 13, 3) := by decide +kernel
theorem dX6_begin_25 : decode cX6_begin 25 = .ok (.bipush 6, 2) := by decide +kernel
theorem dX6_begin_27 : decode cX6_begin 27 = .ok (.aload_n 0, 1) := by decide +kernel
theorem dX6_begin_28 : decode cX6_begin 28 = .ok (.getfield 38, 3) := by decide +kernel
theorem dX6_begin_31 : decode cX6_begin 31 = .ok (.getfield 42, 3) := by decide +kernel
theorem dX6_begin_34 : decode cX6_begin 34 = .ok (.iastore, 1) := by decide +kernel
theorem dX6_begin_35 : decode cX6_begin 35 = .ok (.aload_n 0, 1) := by decide +kernel
theorem dX6_begin_36 : decode cX6_begin 36 = .ok (.getfield 13, 3) := by decide +kernel
theorem dX6_begin_39 : decode cX6_begin 39 = .ok (.iconst 0, 1) := by decide +kernel
theorem dX6_begin_40 : decode cX6_begin 40 = .ok (.iconst 1, 1) := by decide +kernel
theorem dX6_begin_41 : decode cX6_begin 41 = .ok (.aload_n 0, 1) := by decide +kernel
theorem dX6_begin_42 : decode cX6_begin 42 = .ok (.getfield 38, 3) := by decide +kernel
theorem dX6_begin_45 : decode cX6_begin 45 = .ok (.getfield 45, 3) := by decide +kernel
theorem dX6_begin_48 : decode cX6_begin 48 = .ok (.ishl, 1) := by decide +kernel
theorem dX6_begin_49 : decode cX6_begin 49 = .ok (.iconst 1, 1) := by decide +kernel
theorem dX6_begin_50 : decode cX6_begin 50 = .ok (.isub, 1) := by decide +kernel
theorem dX6_begin_51 : decode cX6_begin 51 = .ok (.aload_n 0, 1) := by decide +kernel
theorem dX6_begin_52 : decode cX6_begin 52 = .ok (.getfield 38, 3) := by decide +kernel
theorem dX6_begin_55 : decode cX6_begin 55 = .ok (.getfield 42, 3) := by decide +kernel
theorem dX6_begin_58 : decode cX6_begin 58 = .ok (.iconst (-1), 1) := by decide +kernel
theorem dX6_begin_59 : decode cX6_begin 59 = .ok (.ixor, 1) := by decide +kernel
theorem dX6_begin_60 : decode cX6_begin 60 = .ok (.iand, 1) := by decide +kernel
theorem dX6_begin_61 : decode cX6_begin 61 = .ok (.iastore, 1) := by decide +kernel
theorem dX6_begin_62 : decode cX6_begin 62 = .ok (.iconst 0, 1) := by decide +kernel
theorem dX6_begin_63 : decode cX6_begin 63 = .ok (.istore_n 1, 1) := by decide +kernel
theorem dX6_begin_64 : decode cX6_begin 64 = .ok (.iload_n 1, 1) := by decide +kernel
theorem dX6_begin_65 : decode cX6_begin 65 = .ok (.bipush 7, 2) := by decide +kernel
theorem dX6_begin_67 : decode cX6_begin 67 = .ok (.if_icmp .ge 23, 3) := by decide +kernel
theorem dX6_begin_70 : decode cX6_begin 70 = .ok (.aload_n 0, 1) := by decide +kernel
theorem dX6_begin_71 : decode cX6_begin 71 = .ok (.getfield 17, 3) := by decide +kernel
theorem dX6_begin_74 : decode cX6_begin 74 = .ok (.iload_n 1, 1) := by decide +kernel
theorem dX6_begin_75 : decode cX6_begin 75 = .ok (.iload_n 1, 1) := by decide +kernel
theorem dX6_begin_76 : decode cX6_begin 76 = .ok (.iastore, 1) := by decide +kernel
theorem dX6_begin_77 : decode cX6_begin 77 = .ok (.aload_n 0, 1) := by decide +kernel
theorem dX6_begin_78 : decode cX6_begin 78 = .ok (.getfield 20, 3) := by decide +kernel
theorem dX6_begin_81 : decode cX6_begin 81 = .ok (.iload_n 1, 1) := by decide +kernel
theorem dX6_begin_82 : decode cX6_begin 82 = .ok (.iconst 0, 1) := by decide +kernel
theorem dX6_begin_83 : decode cX6_begin 83 = .ok (.iastore, 1) := by decide +kernel
theorem dX6_begin_84 : decode cX6_begin 84 = .ok (.iinc 1 1, 3) := by decide +kernel
theorem dX6_begin_87 : decode cX6_begin 87 = .ok (.goto (-23), 3) := by decide +kernel
theorem dX6_begin_90 : decode cX6_begin 90 = .ok (.aload_n 0, 1) := by decide +kernel
theorem dX6_begin_91 : decode cX6_begin 91 = .ok (.iconst 0, 1) := by decide +kernel
theorem dX6_begin_92 : decode cX6_begin 92 = .ok (.putfield 23, 3) := by decide +kernel
theorem dX6_begin_95 : decode cX6_begin 95 = .ok (.aload_n 0, 1) := by decide +kernel
theorem dX6_begin_96 : decode cX6_begin 96 = .ok (.iconst 0, 1) := by decide +kernel
theorem dX6_begin_97 : decode cX6_begin 97 = .ok (.putfield 27, 3) := by decide +kernel
theorem dX6_begin_100 : decode cX6_begin 100 = .ok (.aload_n 0, 1) := by decide +kernel
theorem dX6_begin_101 : decode cX6_begin 101 = .ok (.aload_n 0, 1) := by decide +kernel
theorem dX6_begin_102 : decode cX6_begin 102 = .ok (.getfield 38, 3) := by decide +kernel
theorem dX6_begin_105 : decode cX6_begin 105 = .ok (.getfield 48, 3) := by decide +kernel
theorem dX6_begin_108 : decode cX6_begin 108 = .ok (.putfield 30, 3) := by decide +kernel
theorem dX6_begin_111 : decode cX6_begin 111 = .ok (.return_, 1) := by decide +kernel
theorem dX6_copy_0 : decode cX6_copy 0 = .ok (.aload_n 1, 1) := by decide +kernel
theorem dX6_copy_1 : decode cX6_copy 1 = .ok (.getfield 13, 3) := by decide +kernel
theorem dX6_copy_4 : decode cX6_copy 4 = .ok (.iconst 0, 1) := by decide +kernel
theorem dX6_copy_5 : decode cX6_copy 5 = .ok (.aload_n 0, 1) := by decide +kernel
theorem dX6_copy_6 : decode cX6_copy 6 = .ok (.getfield 13, 3) := by decide +kernel
theorem dX6_copy_9 : decode cX6_copy 9 = .ok (.iconst 0, 1) := by decide +kernel
theorem dX6_copy_10 : decode cX6_copy 10 = .ok (.bipush 7, 2) := by decide +kernel
theorem dX6_copy_12 : decode cX6_copy 12 = .ok (.invokestatic 51, 3) := by decide +kernel
theorem dX6_copy_15 : decode cX6_copy 15 = .ok (.aload_n 1, 1) := by decide +kernel
theorem dX6_copy_16 : decode cX6_copy 16 = .ok (.getfield 17, 3) := by decide +kernel
theorem dX6_copy_19 : decode cX6_copy 19 = .ok (.iconst 0, 1) := by decide +kernel
theorem dX6_copy_20 : decode cX6_copy 20 = .ok (.aload_n 0, 1) := by decide +kernel
theorem dX6_copy_21 : decode cX6_copy 21 = .ok (.getfield 17, 3) := by decide +kernel
theorem dX6_copy_24 : decode cX6_copy 24 = .ok (.iconst 0, 1) := by decide +kernel
theorem dX6_copy_25 : decode cX6_copy 25 = .ok (.bipush 7, 2) := by decide +kernel
theorem dX6_copy_27 : decode cX6_copy 27 = .ok (.invokestatic 51, 3) := by decide +kernel
theorem dX6_copy_30 : decode cX6_copy 30 = .ok (.aload_n 1, 1) := by decide +kernel
theorem dX6_copy_31 : decode cX6_copy 31 = .ok (.getfield 20, 3) := by decide +kernel
theorem dX6_copy_34 : decode cX6_copy 34 = .ok (.iconst 0, 1) := by decide +kernel
theorem dX6_copy_35 : decode cX6_copy 35 = .ok (.aload_n 0, 1) := by decide +kernel
theorem dX6_copy_36 : decode cX6_copy 36 = .ok (.getfield 20, 3) := by decide +kernel
theorem dX6_copy_39 : decode cX6_copy 39 = .ok (.iconst 0, 1) := by decide +kernel
theorem dX6_copy_40 : decode cX6_copy 40 = .ok (.bipush 7, 2) := by decide +kernel
theorem dX6_copy_42 : decode cX6_copy 42 = .ok (.invokestatic 51, 3) := by decide +kernel
theorem dX6_copy_45 : decode cX6_copy 45 = .ok (.aload_n 0, 1) := by decide +kernel
theorem dX6_copy_46 : decode cX6_copy 46 = .ok (.aload_n 1, 1) := by decide +kernel
theorem dX6_copy_47 : decode cX6_copy 47 = .ok (.getfield 23, 3) := by decide +kernel
theorem dX6_copy_50 : decode cX6_copy 50 = .ok (.putfield 23, 3) := by decide +kernel
theorem dX6_copy_53 : decode cX6_copy 53 = .ok (.aload_n 0, 1) := by decide +kernel
theorem dX6_copy_54 : decode cX6_copy 54 = .ok (.aload_n 1, 1) := by decide +kernel
theorem dX6_copy_55 : decode cX6_copy 55 = .ok (.getfield 27, 3) := by decide +kernel
theorem dX6_copy_58 : decode cX6_copy 58 = .ok (.putfield 27, 3) := by decide +kernel
theorem dX6_copy_61 : decode cX6_copy 61 = .ok (.aload_n 0, 1) := by decide +kernel
theorem dX6_copy_62 : decode cX6_copy 62 = .ok (.aload_n 1, 1) := by decide +kernel
theorem dX6_copy_63 : decode cX6_copy 63 = .ok (.getfield 30, 3) := by decide +kernel
theorem dX6_copy_66 : decode cX6_copy 66 = .ok (.putfield 30, 3) := by decide +kernel
theorem dX6_copy_69 : decode cX6_copy 69 = .ok (.return_, 1) := by decide +kernel
theorem dX6_write_0 : decode cX6_write 0 = .ok (.iload_n 2, 1) := by decide +kernel
theorem dX6_write_1 : decode cX6_write 1 = .ok (.ifCond .lt 12, 3) := by decide +kernel
theorem dX6_write_4 : decode cX6_write 4 = .ok (.iload_n 2, 1) := by decide +kernel
theorem dX6_write_5 : decode cX6_write 5 = .ok (.aload_n 1, 1) := by decide +kernel
theorem dX6_write_6 : decode cX6_write 6 = .ok (.arraylength, 1) := by decide +kernel
theorem dX6_write_7 : decode cX6_write 7 = .ok (.bipush 24, 2) := by decide +kernel
theorem dX6_write_9 : decode cX6_write 9 = .ok (.isub, 1) := by decide +kernel
theorem dX6_write_10 : decode cX6_write 10 = .ok (.if_icmp .le 4, 3) := by decide +kernel
theorem dX6_write_13 : decode cX6_write 13 = .ok (.return_, 1) := by decide +kernel
theorem dX6_write_14 : decode cX6_write 14 = .ok (.aload_n 0, 1) := by decide +kernel
theorem dX6_write_15 : decode cX6_write 15 = .ok (.getfield 13, 3) := by decide +kernel
theorem dX6_write_18 : decode cX6_write 18 = .ok (.iconst 0, 1) := by decide +kernel
theorem dX6_write_19 : decode cX6_write 19 = .ok (.aload_n 1, 1) := by decide +kernel
theorem dX6_write_20 : decode cX6_write 20 = .ok (.iload_n 2, 1) := by decide +kernel
theorem dX6_write_21 : decode cX6_write 21 = .ok (.bipush 7, 2) := by decide +kernel
theorem dX6_write_23 : decode cX6_write 23 = .ok (.invokestatic 51, 3) := by decide +kernel
theorem dX6_write_26 : decode cX6_write 26 = .ok (.aload_n 0, 1) := by decide +kernel
theorem dX6_write_27 : decode cX6_write 27 = .ok (.getfield 17, 3) := by decide +kernel
theorem dX6_write_30 : decode cX6_write 30 = .ok (.iconst 0, 1) := by decide +kernel
theorem dX6_write_31 : decode cX6_write 31 = .ok (.aload_n 1, 1) := by decide +kernel
theorem dX6_write_32 : decode cX6_write 32 = .ok (.iload_n 2, 1) := by decide +kernel
theorem dX6_write_33 : decode cX6_write 33 = .ok (.bipush 7, 2) := by decide +kernel
theorem dX6_write_35 : decode cX6_write 35 = .ok (.iadd, 1) := by decide +kernel
theorem dX6_write_36 : decode cX6_write 36 = .ok (.bipush 7, 2) := by decide +kernel
theorem dX6_write_38 : decode cX6_write 38 = .ok (.invokestatic 51, 3) := by decide +kernel
theorem dX6_write_41 : decode cX6_write 41 = .ok (.aload_n 0, 1) := by decide +kernel
theorem dX6_write_42 : decode cX6_write 42 = .ok (.getfield 20, 3) := by decide +kernel
theorem dX6_write_45 : decode cX6_write 45 = .ok (.iconst 0, 1) := by decide +kernel
theorem dX6_write_46 : decode cX6_write 46 = .ok (.aload_n 1, 1) := by decide +kernel
theorem dX6_write_47 : decode cX6_write 47 = .ok (.iload_n 2, 1) := by decide +kernel
theorem dX6_write_48 : decode cX6_write 48 = .ok (.bipush 7, 2) := by decide +kernel
theorem dX6_write_50 : decode cX6_write 50 = .ok (.iadd, 1) := by decide +kernel
theorem dX6_write_51 : decode cX6_write 51 = .ok (.bipush 7, 2) := by decide +kernel
theorem dX6_write_53 : decode cX6_write 53 = .ok (.iadd, 1) := by decide +kernel
theorem dX6_write_54 : decode cX6_write 54 = .ok (.bipush 7, 2) := by decide +kernel
theorem dX6_write_56 : decode cX6_write 56 = .ok (.invokestatic 51, 3) := by decide +kernel
theorem dX6_write_59 : decode cX6_write 59 = .ok (.aload_n 1, 1) := by decide +kernel
theorem dX6_write_60 : decode cX6_write 60 = .ok (.iload_n 2, 1) := by decide +kernel
theorem dX6_write_61 : decode cX6_write 61 = .ok (.bipush 24, 2) := by decide +kernel
theorem dX6_write_63 : decode cX6_write 63 = .ok (.iadd, 1) := by decide +kernel
theorem dX6_write_64 : decode cX6_write 64 = .ok (.iconst 3, 1) := by decide +kernel
theorem dX6_write_65 : decode cX6_write 65 = .ok (.isub, 1) := by decide +kernel
theorem dX6_write_66 : decode cX6_write 66 = .ok (.aload_n 0, 1) := by decide +kernel
theorem dX6_write_67 : decode cX6_write 67 = .ok (.getfield 23, 3) := by decide +kernel
theorem dX6_write_70 : decode cX6_write 70 = .ok (.iastore, 1) := by decide +kernel
theorem dX6_write_71 : decode cX6_write 71 = .ok (.aload_n 1, 1) := by decide +kernel
theorem dX6_write_72 : decode cX6_write 72 = .ok (.iload_n 2, 1) := by decide +kernel
theorem dX6_write_73 : decode cX6_write 73 = .ok (.bipush 24, 2) := by decide +kernel
theorem dX6_write_75 : decode cX6_write 75 = .ok (.iadd, 1) := by decide +kernel
theorem dX6_write_76 : decode cX6_write 76 = .ok (.iconst 2, 1) := by decide +kernel
theorem dX6_write_77 : decode cX6_write 77 = .ok (.isub, 1) := by decide +kernel
theorem dX6_write_78 : decode cX6_write 78 = .ok (.aload_n 0, 1) := by decide +kernel
theorem dX6_write_79 : decode cX6_write 79 = .ok (.getfield 27, 3) := by decide +kernel
theorem dX6_write_82 : decode cX6_write 82 = .ok (.iastore, 1) := by decide +kernel
theorem dX6_write_83 : decode cX6_write 83 = .ok (.aload_n 1, 1) := by decide +kernel
theorem dX6_write_84 : decode cX6_write 84 = .ok (.iload_n 2, 1) := by decide +kernel
theorem dX6_write_85 : decode cX6_write 85 = .ok (.bipush 24, 2) := by decide +kernel
theorem dX6_write_87 : decode cX6_write 87 = .ok (.iadd, 1) := by decide +kernel
theorem dX6_write_88 : decode cX6_write 88 = .ok (.iconst 1, 1) := by decide +kernel
theorem dX6_write_89 : decode cX6_write 89 = .ok (.isub, 1) := by decide +kernel
theorem dX6_write_90 : decode cX6_write 90 = .ok (.aload_n 0, 1) := by decide +kernel
theorem dX6_write_91 : decode cX6_write 91 = .ok (.getfield 30, 3) := by decide +kernel
theorem dX6_write_94 : decode cX6_write 94 = .ok (.iastore, 1) := by decide +kernel
theorem dX6_write_95 : decode cX6_write 95 = .ok (.return_, 1) := by decide +kernel
theorem dX6_restore_0 : decode cX6_restore 0 = .ok (.iload_n 2, 1) := by decide +kernel
theorem dX6_restore_1 : decode cX6_restore 1 = .ok (.ifCond .lt 12, 3) := by decide +kernel
theorem dX6_restore_4 : decode cX6_restore 4 = .ok (.iload_n 2, 1) := by decide +kernel
theorem dX6_restore_5 : decode cX6_restore 5 = .ok (.aload_n 1, 1) := by decide +kernel
theorem dX6_restore_6 : decode cX6_restore 6 = .ok (.arraylength, 1) := by decide +kernel
theorem dX6_restore_7 : decode cX6_restore 7 = .ok (.bipush 24, 2) := by decide +kernel
theorem dX6_restore_9 : decode cX6_restore 9 = .ok (.isub, 1) := by decide +kernel
theorem dX6_restore_10 : decode cX6_restore 10 = .ok (.if_icmp .le 4, 3) := by decide +kernel
theorem dX6_restore_13 : decode cX6_restore 13 = .ok (.return_, 1) := by decide +kernel
theorem dX6_restore_14 : decode cX6_restore 14 = .ok (.aload_n 1, 1) := by decide +kernel
theorem dX6_restore_15 : decode cX6_restore 15 = .ok (.iload_n 2, 1) := by decide +kernel
theorem dX6_restore_16 : decode cX6_restore 16 = .ok (.aload_n 0, 1) := by decide +kernel
theorem dX6_restore_17 : decode cX6_restore 17 = .ok (.getfield 13, 3) := by decide +kernel
theorem dX6_restore_20 : decode cX6_restore 20 = .ok (.iconst 0, 1) := by decide +kernel
theorem dX6_restore_21 : decode cX6_restore 21 = .ok (.bipush 7, 2) := by decide +kernel
theorem dX6_restore_23 : decode cX6_restore 23 = .ok (.invokestatic 51, 3) := by decide +kernel
theorem dX6_restore_26 : decode cX6_restore 26 = .ok (.aload_n 1, 1) := by decide +kernel
theorem dX6_restore_27 : decode cX6_restore 27 = .ok (.iload_n 2, 1) := by decide +kernel
theorem dX6_restore_28 : decode cX6_restore 28 = .ok (.bipush 7, 2) := by decide +kernel
theorem dX6_restore_30 : decode cX6_restore 30 = .ok (.iadd, 1) := by decide +kernel
theorem dX6_restore_31 : decode cX6_restore 31 = .ok (.aload_n 0, 1) := by decide +kernel
theorem dX6_restore_32 : decode cX6_restore 32 = .ok (.getfield 17, 3) := by decide +kernel
theorem dX6_restore_35 : decode cX6_restore 35 = .ok (.iconst 0, 1) := by decide +kernel
theorem dX6_restore_36 : decode cX6_restore 36 = .ok (.bipush 7, 2) := by decide +kernel
theorem dX6_restore_38 : decode cX6_restore 38 = .ok (.invokestatic 51, 3) := by decide +kernel
theorem dX6_restore_41 : decode cX6_restore 41 = .ok (.aload_n 1, 1) := by decide +kernel
theorem dX6_restore_42 : decode cX6_restore 42 = .ok (.iload_n 2, 1) := by decide +kernel
theorem dX6_restore_43 : decode cX6_restore 43 = .ok (.bipush 7, 2) := by decide +kernel
theorem dX6_restore_45 : decode cX6_restore 45 = .ok (.iadd, 1) := by decide +kernel
theorem dX6_restore_46 : decode cX6_restore 46 = .ok (.bipush 7, 2) := by decide +kernel
theorem dX6_restore_48 : decode cX6_restore 48 = .ok (.iadd, 1) := by decide +kernel
theorem dX6_restore_49 : decode cX6_restore 49 = .ok (.aload_n 0, 1) := by decide +kernel
theorem dX6_restore_50 : decode cX6_restore 50 = .ok (.getfield 20, 3) := by decide +kernel
theorem dX6_restore_53 : decode cX6_restore 53 = .ok (.iconst 0, 1) := by decide +kernel
theorem dX6_restore_54 : decode cX6_restore 54 = .ok (.bipush 7, 2) := by decide +kernel
theorem dX6_restore_56 : decode cX6_restore 56 = .ok (.invokestatic 51, 3) := by decide +kernel
theorem dX6_restore_59 : decode cX6_restore 59 = .ok (.aload_n 0, 1) := by decide +kernel
theorem dX6_restore_60 : decode cX6_restore 60 = .ok (.aload_n 1, 1) := by decide +kernel
theorem dX6_restore_61 : decode cX6_restore 61 = .ok (.iload_n 2, 1) := by decide +kernel
theorem dX6_restore_62 : decode cX6_restore 62 = .ok (.bipush 24, 2) := by decide +kernel
theorem dX6_restore_64 : decode cX6_restore 64 = .ok (.iadd, 1) := by decide +kernel
theorem dX6_restore_65 : decode cX6_restore 65 = .ok (.iconst 3, 1) := by decide +kernel
theorem dX6_restore_66 : decode cX6_restore 66 = .ok (.isub, 1) := by decide +kernel
theorem dX6_restore_67 : decode cX6_restore 67 = .ok (.iaload, 1) := by decide +kernel
theorem dX6_restore_68 : decode cX6_restore 68 = .ok (.putfield 23, 3) := by decide +kernel
theorem dX6_restore_71 : decode cX6_restore 71 = .ok (.aload_n 0, 1) := by decide +kernel
theorem dX6_restore_72 : decode cX6_restore 72 = .ok (.aload_n 1, 1) := by decide +kernel
theorem dX6_restore_73 : decode cX6_restore 73 = .ok (.iload_n 2, 1) := by decide +kernel
theorem dX6_restore_74 : decode cX6_restore 74 = .ok (.bipush 24, 2) := by decide +kernel
theorem dX6_restore_76 : decode cX6_restore 76 = .ok (.iadd, 1) := by decide +kernel
theorem dX6_restore_77 : decode cX6_restore 77 = .ok (.iconst 2, 1) := by decide +kernel
theorem dX6_restore_78 : decode cX6_restore 78 = .ok (.isub, 1) := by decide +kernel
theorem dX6_restore_79 : decode cX6_restore 79 = .ok (.iaload, 1) := by decide +kernel
theorem dX6_restore_80 : decode cX6_restore 80 = .ok (.putfield 27, 3) := by decide +kernel
theorem dX6_restore_83 : decode cX6_restore 83 = .ok (.aload_n 0, 1) := by decide +kernel
theorem dX6_restore_84 : decode cX6_restore 84 = .ok (.aload_n 1, 1) := by decide +kernel
theorem dX6_restore_85 : decode cX6_restore 85 = .ok (.iload_n 2, 1) := by decide +kernel
theorem dX6_restore_86 : decode cX6_restore 86 = .ok (.bipush 24, 2) := by decide +kernel
theorem dX6_restore_88 : decode cX6_restore 88 = .ok (.iadd, 1) := by decide +kernel
theorem dX6_restore_89 : decode cX6_restore 89 = .ok (.iconst 1, 1) := by decide +kernel
theorem dX6_restore_90 : decode cX6_restore 90 = .ok (.isub, 1) := by decide +kernel
theorem dX6_restore_91 : decode cX6_restore 91 = .ok (.iaload, 1) := by decide +kernel
theorem dX6_restore_92 : decode cX6_restore 92 = .ok (.putfield 30, 3) := by decide +kernel
theorem dX6_restore_95 : decode cX6_restore 95 = .ok (.return_, 1) := by decide +kernel
theorem dX6_waits_0 : decode cX6_waits 0 = .ok (.aload_n 0, 1) := by decide +kernel
theorem dX6_waits_1 : decode cX6_waits 1 = .ok (.getfield 13, 3) := by decide +kernel
theorem dX6_waits_4 : decode cX6_waits 4 = .ok (.iconst 0, 1) := by decide +kernel
theorem dX6_waits_5 : decode cX6_waits 5 = .ok (.iaload, 1) := by decide +kernel
theorem dX6_waits_6 : decode cX6_waits 6 = .ok (.iload_n 1, 1) := by decide +kernel
theorem dX6_waits_7 : decode cX6_waits 7 = .ok (.ishr, 1) := by decide +kernel
theorem dX6_waits_8 : decode cX6_waits 8 = .ok (.iconst 1, 1) := by decide +kernel
theorem dX6_waits_9 : decode cX6_waits 9 = .ok (.iand, 1) := by decide +kernel
theorem dX6_waits_10 : decode cX6_waits 10 = .ok (.ifCond .eq 7, 3) := by decide +kernel
theorem dX6_waits_13 : decode cX6_waits 13 = .ok (.iconst 1, 1) := by decide +kernel
theorem dX6_waits_14 : decode cX6_waits 14 = .ok (.goto 4, 3) := by decide +kernel
theorem dX6_waits_17 : decode cX6_waits 17 = .ok (.iconst 0, 1) := by decide +kernel
theorem dX6_waits_18 : decode cX6_waits 18 = .ok (.ireturn, 1) := by decide +kernel
theorem dX6_waited_0 : decode cX6_waited 0 = .ok (.aload_n 0, 1) := by decide +kernel
theorem dX6_waited_1 : decode cX6_waited 1 = .ok (.getfield 23, 3) := by decide +kernel
theorem dX6_waited_4 : decode cX6_waited 4 = .ok (.aload_n 0, 1) := by decide +kernel
theorem dX6_waited_5 : decode cX6_waited 5 = .ok (.getfield 20, 3) := by decide +kernel
theorem dX6_waited_8 : decode cX6_waited 8 = .ok (.iload_n 1, 1) := by decide +kernel
theorem dX6_waited_9 : decode cX6_waited 9 = .ok (.iaload, 1) := by decide +kernel
theorem dX6_waited_10 : decode cX6_waited 10 = .ok (.isub, 1) := by decide +kernel
theorem dX6_waited_11 : decode cX6_waited 11 = .ok (.ireturn, 1) := by decide +kernel
theorem dX6_sortOf_0 : decode cX6_sortOf 0 = .ok (.iconst 0, 1) := by decide +kernel
theorem dX6_sortOf_1 : decode cX6_sortOf 1 = .ok (.istore_n 2, 1) := by decide +kernel
theorem dX6_sortOf_2 : decode cX6_sortOf 2 = .ok (.iload_n 2, 1) := by decide +kernel
theorem dX6_sortOf_3 : decode cX6_sortOf 3 = .ok (.bipush 7, 2) := by decide +kernel
theorem dX6_sortOf_5 : decode cX6_sortOf 5 = .ok (.if_icmp .ge 24, 3) := by decide +kernel
theorem dX6_sortOf_8 : decode cX6_sortOf 8 = .ok (.aload_n 0, 1) := by decide +kernel
theorem dX6_sortOf_9 : decode cX6_sortOf 9 = .ok (.getfield 13, 3) := by decide +kernel
theorem dX6_sortOf_12 : decode cX6_sortOf 12 = .ok (.iload_n 2, 1) := by decide +kernel
theorem dX6_sortOf_13 : decode cX6_sortOf 13 = .ok (.iaload, 1) := by decide +kernel
theorem dX6_sortOf_14 : decode cX6_sortOf 14 = .ok (.iload_n 1, 1) := by decide +kernel
theorem dX6_sortOf_15 : decode cX6_sortOf 15 = .ok (.ishr, 1) := by decide +kernel
theorem dX6_sortOf_16 : decode cX6_sortOf 16 = .ok (.iconst 1, 1) := by decide +kernel
theorem dX6_sortOf_17 : decode cX6_sortOf 17 = .ok (.iand, 1) := by decide +kernel
theorem dX6_sortOf_18 : decode cX6_sortOf 18 = .ok (.ifCond .eq 5, 3) := by decide +kernel
theorem dX6_sortOf_21 : decode cX6_sortOf 21 = .ok (.iload_n 2, 1) := by decide +kernel
theorem dX6_sortOf_22 : decode cX6_sortOf 22 = .ok (.ireturn, 1) := by decide +kernel
theorem dX6_sortOf_23 : decode cX6_sortOf 23 = .ok (.iinc 2 1, 3) := by decide +kernel
theorem dX6_sortOf_26 : decode cX6_sortOf 26 = .ok (.goto (-24), 3) := by decide +kernel
theorem dX6_sortOf_29 : decode cX6_sortOf 29 = .ok (.bipush (-2), 2) := by decide +kernel
theorem dX6_sortOf_31 : decode cX6_sortOf 31 = .ok (.ireturn, 1) := by decide +kernel
theorem dX6_orderOf_0 : decode cX6_orderOf 0 = .ok (.aload_n 0, 1) := by decide +kernel
theorem dX6_orderOf_1 : decode cX6_orderOf 1 = .ok (.iload_n 1, 1) := by decide +kernel
theorem dX6_orderOf_2 : decode cX6_orderOf 2 = .ok (.iload_n 2, 1) := by decide +kernel
theorem dX6_orderOf_3 : decode cX6_orderOf 3 = .ok (.invokevirtual 57, 3) := by decide +kernel
theorem dX6_orderOf_6 : decode cX6_orderOf 6 = .ok (.aload_n 0, 1) := by decide +kernel
theorem dX6_orderOf_7 : decode cX6_orderOf 7 = .ok (.getfield 38, 3) := by decide +kernel
theorem dX6_orderOf_10 : decode cX6_orderOf 10 = .ok (.getfield 61, 3) := by decide +kernel
theorem dX6_orderOf_13 : decode cX6_orderOf 13 = .ok (.aload_n 0, 1) := by decide +kernel
theorem dX6_orderOf_14 : decode cX6_orderOf 14 = .ok (.getfield 35, 3) := by decide +kernel
theorem dX6_orderOf_17 : decode cX6_orderOf 17 = .ok (.invokevirtual 65, 3) := by decide +kernel
theorem dX6_orderOf_20 : decode cX6_orderOf 20 = .ok (.ireturn, 1) := by decide +kernel
theorem dX6_answerOf_0 : decode cX6_answerOf 0 = .ok (.aload_n 0, 1) := by decide +kernel
theorem dX6_answerOf_1 : decode cX6_answerOf 1 = .ok (.iload_n 1, 1) := by decide +kernel
theorem dX6_answerOf_2 : decode cX6_answerOf 2 = .ok (.aload_n 0, 1) := by decide +kernel
theorem dX6_answerOf_3 : decode cX6_answerOf 3 = .ok (.getfield 38, 3) := by decide +kernel
theorem dX6_answerOf_6 : decode cX6_answerOf 6 = .ok (.getfield 69, 3) := by decide +kernel
theorem dX6_answerOf_9 : decode cX6_answerOf 9 = .ok (.iload_n 1, 1) := by decide +kernel
theorem dX6_answerOf_10 : decode cX6_answerOf 10 = .ok (.iaload, 1) := by decide +kernel
theorem dX6_answerOf_11 : decode cX6_answerOf 11 = .ok (.invokevirtual 57, 3) := by decide +kernel
theorem dX6_answerOf_14 : decode cX6_answerOf 14 = .ok (.aload_n 0, 1) := by decide +kernel
theorem dX6_answerOf_15 : decode cX6_answerOf 15 = .ok (.getfield 38, 3) := by decide +kernel
theorem dX6_answerOf_18 : decode cX6_answerOf 18 = .ok (.getfield 72, 3) := by decide +kernel
theorem dX6_answerOf_21 : decode cX6_answerOf 21 = .ok (.aload_n 0, 1) := by decide +kernel
theorem dX6_answerOf_22 : decode cX6_answerOf 22 = .ok (.getfield 35, 3) := by decide +kernel
theorem dX6_answerOf_25 : decode cX6_answerOf 25 = .ok (.invokevirtual 65, 3) := by decide +kernel
theorem dX6_answerOf_28 : decode cX6_answerOf 28 = .ok (.ireturn, 1) := by decide +kernel
theorem dX6_gather_0 : decode cX6_gather 0 = .ok (.aload_n 0, 1) := by decide +kernel
theorem dX6_gather_1 : decode cX6_gather 1 = .ok (.getfield 35, 3) := by decide +kernel
theorem dX6_gather_4 : decode cX6_gather 4 = .ok (.iconst 0, 1) := by decide +kernel
theorem dX6_gather_5 : decode cX6_gather 5 = .ok (.iload_n 2, 1) := by decide +kernel
theorem dX6_gather_6 : decode cX6_gather 6 = .ok (.iastore, 1) := by decide +kernel
theorem dX6_gather_7 : decode cX6_gather 7 = .ok (.aload_n 0, 1) := by decide +kernel
theorem dX6_gather_8 : decode cX6_gather 8 = .ok (.getfield 35, 3) := by decide +kernel
theorem dX6_gather_11 : decode cX6_gather 11 = .ok (.iconst 1, 1) := by decide +kernel
theorem dX6_gather_12 : decode cX6_gather 12 = .ok (.aload_n 0, 1) := by decide +kernel
theorem dX6_gather_13 : decode cX6_gather 13 = .ok (.getfield 38, 3) := by decide +kernel
theorem dX6_gather_16 : decode cX6_gather 16 = .ok (.getfield 75, 3) := by decide +kernel
theorem dX6_gather_19 : decode cX6_gather 19 = .ok (.iload_n 1, 1) := by decide +kernel
theorem dX6_gather_20 : decode cX6_gather 20 = .ok (.iaload, 1) := by decide +kernel
theorem dX6_gather_21 : decode cX6_gather 21 = .ok (.iastore, 1) := by decide +kernel
theorem dX6_gather_22 : decode cX6_gather 22 = .ok (.aload_n 0, 1) := by decide +kernel
theorem dX6_gather_23 : decode cX6_gather 23 = .ok (.getfield 35, 3) := by decide +kernel
theorem dX6_gather_26 : decode cX6_gather 26 = .ok (.iconst 2, 1) := by decide +kernel
theorem dX6_gather_27 : decode cX6_gather 27 = .ok (.aload_n 0, 1) := by decide +kernel
theorem dX6_gather_28 : decode cX6_gather 28 = .ok (.iload_n 1, 1) := by decide +kernel
theorem dX6_gather_29 : decode cX6_gather 29 = .ok (.invokevirtual 78, 3) := by decide +kernel
theorem dX6_gather_32 : decode cX6_gather 32 = .ok (.iastore, 1) := by decide +kernel
theorem dX6_gather_33 : decode cX6_gather 33 = .ok (.aload_n 0, 1) := by decide +kernel
theorem dX6_gather_34 : decode cX6_gather 34 = .ok (.getfield 35, 3) := by decide +kernel
theorem dX6_gather_37 : decode cX6_gather 37 = .ok (.iconst 3, 1) := by decide +kernel
theorem dX6_gather_38 : decode cX6_gather 38 = .ok (.aload_n 0, 1) := by decide +kernel
theorem dX6_gather_39 : decode cX6_gather 39 = .ok (.getfield 17, 3) := by decide +kernel
theorem dX6_gather_42 : decode cX6_gather 42 = .ok (.iload_n 1, 1) := by decide +kernel
theorem dX6_gather_43 : decode cX6_gather 43 = .ok (.iaload, 1) := by decide +kernel
theorem dX6_gather_44 : decode cX6_gather 44 = .ok (.iastore, 1) := by decide +kernel
theorem dX6_gather_45 : decode cX6_gather 45 = .ok (.aload_n 0, 1) := by decide +kernel
theorem dX6_gather_46 : decode cX6_gather 46 = .ok (.getfield 35, 3) := by decide +kernel
theorem dX6_gather_49 : decode cX6_gather 49 = .ok (.iconst 4, 1) := by decide +kernel
theorem dX6_gather_50 : decode cX6_gather 50 = .ok (.aload_n 0, 1) := by decide +kernel
theorem dX6_gather_51 : decode cX6_gather 51 = .ok (.getfield 13, 3) := by decide +kernel
theorem dX6_gather_54 : decode cX6_gather 54 = .ok (.iconst 1, 1) := by decide +kernel
theorem dX6_gather_55 : decode cX6_gather 55 = .ok (.iaload, 1) := by decide +kernel
theorem dX6_gather_56 : decode cX6_gather 56 = .ok (.aload_n 0, 1) := by decide +kernel
theorem dX6_gather_57 : decode cX6_gather 57 = .ok (.getfield 13, 3) := by decide +kernel
theorem dX6_gather_60 : decode cX6_gather 60 = .ok (.iconst 2, 1) := by decide +kernel
theorem dX6_gather_61 : decode cX6_gather 61 = .ok (.iaload, 1) := by decide +kernel
theorem dX6_gather_62 : decode cX6_gather 62 = .ok (.ior, 1) := by decide +kernel
theorem dX6_gather_63 : decode cX6_gather 63 = .ok (.invokestatic 82, 3) := by decide +kernel
theorem dX6_gather_66 : decode cX6_gather 66 = .ok (.iastore, 1) := by decide +kernel
theorem dX6_gather_67 : decode cX6_gather 67 = .ok (.aload_n 0, 1) := by decide +kernel
theorem dX6_gather_68 : decode cX6_gather 68 = .ok (.getfield 35, 3) := by decide +kernel
theorem dX6_gather_71 : decode cX6_gather 71 = .ok (.iconst 5, 1) := by decide +kernel
theorem dX6_gather_72 : decode cX6_gather 72 = .ok (.aload_n 0, 1) := by decide +kernel
theorem dX6_gather_73 : decode cX6_gather 73 = .ok (.getfield 23, 3) := by decide +kernel
theorem dX6_gather_76 : decode cX6_gather 76 = .ok (.iastore, 1) := by decide +kernel
theorem dX6_gather_77 : decode cX6_gather 77 = .ok (.return_, 1) := by decide +kernel
theorem dX6_turn_0 : decode cX6_turn 0 = .ok (.iconst (-1), 1) := by decide +kernel
theorem dX6_turn_1 : decode cX6_turn 1 = .ok (.istore_n 1, 1) := by decide +kernel
theorem dX6_turn_2 : decode cX6_turn 2 = .ok (.iconst 0, 1) := by decide +kernel
theorem dX6_turn_3 : decode cX6_turn 3 = .ok (.istore_n 2, 1) := by decide +kernel
theorem dX6_turn_4 : decode cX6_turn 4 = .ok (.iconst 0, 1) := by decide +kernel
theorem dX6_turn_5 : decode cX6_turn 5 = .ok (.istore_n 3, 1) := by decide +kernel
theorem dX6_turn_6 : decode cX6_turn 6 = .ok (.iload_n 3, 1) := by decide +kernel
theorem dX6_turn_7 : decode cX6_turn 7 = .ok (.aload_n 0, 1) := by decide +kernel
theorem dX6_turn_8 : decode cX6_turn 8 = .ok (.getfield 38, 3) := by decide +kernel
theorem dX6_turn_11 : decode cX6_turn 11 = .ok (.getfield 45, 3) := by decide +kernel
theorem dX6_turn_14 : decode cX6_turn 14 = .ok (.if_icmp .ge 83, 3) := by decide +kernel
theorem dX6_turn_17 : decode cX6_turn 17 = .ok (.aload_n 0, 1) := by decide +kernel
theorem dX6_turn_18 : decode cX6_turn 18 = .ok (.iload_n 3, 1) := by decide +kernel
theorem dX6_turn_19 : decode cX6_turn 19 = .ok (.invokevirtual 87, 3) := by decide +kernel
theorem dX6_turn_22 : decode cX6_turn 22 = .ok (.ifCond .eq 69, 3) := by decide +kernel
theorem dX6_turn_25 : decode cX6_turn 25 = .ok (.aload_n 0, 1) := by decide +kernel
theorem dX6_turn_26 : decode cX6_turn 26 = .ok (.iload_n 3, 1) := by decide +kernel
theorem dX6_turn_27 : decode cX6_turn 27 = .ok (.aload_n 0, 1) := by decide +kernel
theorem dX6_turn_28 : decode cX6_turn 28 = .ok (.getfield 38, 3) := by decide +kernel
theorem dX6_turn_31 : decode cX6_turn 31 = .ok (.getfield 69, 3) := by decide +kernel
theorem dX6_turn_34 : decode cX6_turn 34 = .ok (.iload_n 3, 1) := by decide +kernel
theorem dX6_turn_35 : decode cX6_turn 35 = .ok (.iaload, 1) := by decide +kernel
theorem dX6_turn_36 : decode cX6_turn 36 = .ok (.invokevirtual 57, 3) := by decide +kernel
theorem dX6_turn_39 : decode cX6_turn 39 = .ok (.aload_n 0, 1) := by decide +kernel
theorem dX6_turn_40 : decode cX6_turn 40 = .ok (.getfield 38, 3) := by decide +kernel
theorem dX6_turn_43 : decode cX6_turn 43 = .ok (.getfield 61, 3) := by decide +kernel
theorem dX6_turn_46 : decode cX6_turn 46 = .ok (.aload_n 0, 1) := by decide +kernel
theorem dX6_turn_47 : decode cX6_turn 47 = .ok (.getfield 35, 3) := by decide +kernel
theorem dX6_turn_50 : decode cX6_turn 50 = .ok (.invokevirtual 65, 3) := by decide +kernel
theorem dX6_turn_53 : decode cX6_turn 53 = .ok (.istore 4, 2) := by decide +kernel
theorem dX6_turn_55 : decode cX6_turn 55 = .ok (.iload_n 1, 1) := by decide +kernel
theorem dX6_turn_56 : decode cX6_turn 56 = .ok (.ifCond .lt 30, 3) := by decide +kernel
theorem dX6_turn_59 : decode cX6_turn 59 = .ok (.iload 4, 2) := by decide +kernel
theorem dX6_turn_61 : decode cX6_turn 61 = .ok (.iload_n 2, 1) := by decide +kernel
theorem dX6_turn_62 : decode cX6_turn 62 = .ok (.if_icmp .gt 24, 3) := by decide +kernel
theorem dX6_turn_65 : decode cX6_turn 65 = .ok (.iload 4, 2) := by decide +kernel
theorem dX6_turn_67 : decode cX6_turn 67 = .ok (.iload_n 2, 1) := by decide +kernel
theorem dX6_turn_68 : decode cX6_turn 68 = .ok (.if_icmp .ne 23, 3) := by decide +kernel
theorem dX6_turn_71 : decode cX6_turn 71 = .ok (.aload_n 0, 1) := by decide +kernel
theorem dX6_turn_72 : decode cX6_turn 72 = .ok (.getfield 17, 3) := by decide +kernel
theorem dX6_turn_75 : decode cX6_turn 75 = .ok (.iload_n 3, 1) := by decide +kernel
theorem dX6_turn_76 : decode cX6_turn 76 = .ok (.iaload, 1) := by decide +kernel
theorem dX6_turn_77 : decode cX6_turn 77 = .ok (.aload_n 0, 1) := by decide +kernel
theorem dX6_turn_78 : decode cX6_turn 78 = .ok (.getfield 17, 3) := by decide +kernel
theorem dX6_turn_81 : decode cX6_turn 81 = .ok (.iload_n 1, 1) := by decide +kernel
theorem dX6_turn_82 : decode cX6_turn 82 = .ok (.iaload, 1) := by decide +kernel
theorem dX6_turn_83 : decode cX6_turn 83 = .ok (.if_icmp .ge 8, 3) := by decide +kernel
theorem dX6_turn_86 : decode cX6_turn 86 = .ok (.iload_n 3, 1) := by decide +kernel
theorem dX6_turn_87 : decode cX6_turn 87 = .ok (.istore_n 1, 1) := by decide +kernel
theorem dX6_turn_88 : decode cX6_turn 88 = .ok (.iload 4, 2) := by decide +kernel
theorem dX6_turn_90 : decode cX6_turn 90 = .ok (.istore_n 2, 1) := by decide +kernel
theorem dX6_turn_91 : decode cX6_turn 91 = .ok (.iinc 3 1, 3) := by decide +kernel
theorem dX6_turn_94 : decode cX6_turn 94 = .ok (.goto (-88), 3) := by decide +kernel
theorem dX6_turn_97 : decode cX6_turn 97 = .ok (.iload_n 1, 1) := by decide +kernel
theorem dX6_turn_98 : decode cX6_turn 98 = .ok (.ireturn, 1) := by decide +kernel
theorem dX6_move_0 : decode cX6_move 0 = .ok (.aload_n 0, 1) := by decide +kernel
theorem dX6_move_1 : decode cX6_move 1 = .ok (.getfield 13, 3) := by decide +kernel
theorem dX6_move_4 : decode cX6_move 4 = .ok (.iload_n 2, 1) := by decide +kernel
theorem dX6_move_5 : decode cX6_move 5 = .ok (.dup2, 1) := by decide +kernel
theorem dX6_move_6 : decode cX6_move 6 = .ok (.iaload, 1) := by decide +kernel
theorem dX6_move_7 : decode cX6_move 7 = .ok (.iload_n 1, 1) := by decide +kernel
theorem dX6_move_8 : decode cX6_move 8 = .ok (.iconst (-1), 1) := by decide +kernel
theorem dX6_move_9 : decode cX6_move 9 = .ok (.ixor, 1) := by decide +kernel
theorem dX6_move_10 : decode cX6_move 10 = .ok (.iand, 1) := by decide +kernel
theorem dX6_move_11 : decode cX6_move 11 = .ok (.iastore, 1) := by decide +kernel
theorem dX6_move_12 : decode cX6_move 12 = .ok (.aload_n 0, 1) := by decide +kernel
theorem dX6_move_13 : decode cX6_move 13 = .ok (.getfield 13, 3) := by decide +kernel
theorem dX6_move_16 : decode cX6_move 16 = .ok (.iload_n 3, 1) := by decide +kernel
theorem dX6_move_17 : decode cX6_move 17 = .ok (.dup2, 1) := by decide +kernel
theorem dX6_move_18 : decode cX6_move 18 = .ok (.iaload, 1) := by decide +kernel
theorem dX6_move_19 : decode cX6_move 19 = .ok (.iload_n 1, 1) := by decide +kernel
theorem dX6_move_20 : decode cX6_move 20 = .ok (.ior, 1) := by decide +kernel
theorem dX6_move_21 : decode cX6_move 21 = .ok (.iastore, 1) := by decide +kernel
theorem dX6_move_22 : decode cX6_move 22 = .ok (.return_, 1) := by decide +kernel
theorem dX6_hearDrawn_0 : decode cX6_hearDrawn 0 = .ok (.aload_n 0, 1) := by decide +kernel
theorem dX6_hearDrawn_1 : decode cX6_hearDrawn 1 = .ok (.iload_n 1, 1) := by decide +kernel
theorem dX6_hearDrawn_2 : decode cX6_hearDrawn 2 = .ok (.invokevirtual 91, 3) := by decide +kernel
theorem dX6_hearDrawn_5 : decode cX6_hearDrawn 5 = .ok (.istore_n 2, 1) := by decide +kernel
theorem dX6_hearDrawn_6 : decode cX6_hearDrawn 6 = .ok (.aload_n 0, 1) := by decide +kernel
theorem dX6_hearDrawn_7 : decode cX6_hearDrawn 7 = .ok (.aload_n 0, 1) := by decide +kernel
theorem dX6_hearDrawn_8 : decode cX6_hearDrawn 8 = .ok (.getfield 30, 3) := by decide +kernel
theorem dX6_hearDrawn_11 : decode cX6_hearDrawn 11 = .ok (.sipush 137, 3) := by decide +kernel
theorem dX6_hearDrawn_14 : decode cX6_hearDrawn 14 = .ok (.imul, 1) := by decide +kernel
theorem dX6_hearDrawn_15 : decode cX6_hearDrawn 15 = .ok (.bipush 71, 2) := by decide +kernel
theorem dX6_hearDrawn_17 : decode cX6_hearDrawn 17 = .ok (.iadd, 1) := by decide +kernel
theorem dX6_hearDrawn_18 : decode cX6_hearDrawn 18 = .ok (.sipush 1000, 3) := by decide +kernel
theorem dX6_hearDrawn_21 : decode cX6_hearDrawn 21 = .ok (.irem, 1) := by decide +kernel
theorem dX6_hearDrawn_22 : decode cX6_hearDrawn 22 = .ok (.putfield 30, 3) := by decide +kernel
theorem dX6_hearDrawn_25 : decode cX6_hearDrawn 25 = .ok (.aload_n 0, 1) := by decide +kernel
theorem dX6_hearDrawn_26 : decode cX6_hearDrawn 26 = .ok (.iload_n 1, 1) := by decide +kernel
theorem dX6_hearDrawn_27 : decode cX6_hearDrawn 27 = .ok (.aload_n 0, 1) := by decide +kernel
theorem dX6_hearDrawn_28 : decode cX6_hearDrawn 28 = .ok (.getfield 30, 3) := by decide +kernel
theorem dX6_hearDrawn_31 : decode cX6_hearDrawn 31 = .ok (.bipush 100, 2) := by decide +kernel
theorem dX6_hearDrawn_33 : decode cX6_hearDrawn 33 = .ok (.irem, 1) := by decide +kernel
theorem dX6_hearDrawn_34 : decode cX6_hearDrawn 34 = .ok (.iload_n 2, 1) := by decide +kernel
theorem dX6_hearDrawn_35 : decode cX6_hearDrawn 35 = .ok (.if_icmp .ge 7, 3) := by decide +kernel
theorem dX6_hearDrawn_38 : decode cX6_hearDrawn 38 = .ok (.iconst 1, 1) := by decide +kernel
theorem dX6_hearDrawn_39 : decode cX6_hearDrawn 39 = .ok (.goto 4, 3) := by decide +kernel
theorem dX6_hearDrawn_42 : decode cX6_hearDrawn 42 = .ok (.iconst 2, 1) := by decide +kernel
theorem dX6_hearDrawn_43 : decode cX6_hearDrawn 43 = .ok (.invokevirtual 94, 3) := by decide +kernel
theorem dX6_hearDrawn_46 : decode cX6_hearDrawn 46 = .ok (.return_, 1) := by decide +kernel
theorem dX6_hearAs_0 : decode cX6_hearAs 0 = .ok (.aload_n 0, 1) := by decide +kernel
theorem dX6_hearAs_1 : decode cX6_hearAs 1 = .ok (.iconst 1, 1) := by decide +kernel
theorem dX6_hearAs_2 : decode cX6_hearAs 2 = .ok (.iload_n 1, 1) := by decide +kernel
theorem dX6_hearAs_3 : decode cX6_hearAs 3 = .ok (.ishl, 1) := by decide +kernel
theorem dX6_hearAs_4 : decode cX6_hearAs 4 = .ok (.iconst 0, 1) := by decide +kernel
theorem dX6_hearAs_5 : decode cX6_hearAs 5 = .ok (.iload_n 2, 1) := by decide +kernel
theorem dX6_hearAs_6 : decode cX6_hearAs 6 = .ok (.invokevirtual 97, 3) := by decide +kernel
theorem dX6_hearAs_9 : decode cX6_hearAs 9 = .ok (.aload_n 0, 1) := by decide +kernel
theorem dX6_hearAs_10 : decode cX6_hearAs 10 = .ok (.dup, 1) := by decide +kernel
theorem dX6_hearAs_11 : decode cX6_hearAs 11 = .ok (.getfield 23, 3) := by decide +kernel
theorem dX6_hearAs_14 : decode cX6_hearAs 14 = .ok (.aload_n 0, 1) := by decide +kernel
theorem dX6_hearAs_15 : decode cX6_hearAs 15 = .ok (.getfield 38, 3) := by decide +kernel
theorem dX6_hearAs_18 : decode cX6_hearAs 18 = .ok (.getfield 75, 3) := by decide +kernel
theorem dX6_hearAs_21 : decode cX6_hearAs 21 = .ok (.iload_n 1, 1) := by decide +kernel
theorem dX6_hearAs_22 : decode cX6_hearAs 22 = .ok (.iaload, 1) := by decide +kernel
theorem dX6_hearAs_23 : decode cX6_hearAs 23 = .ok (.iadd, 1) := by decide +kernel
theorem dX6_hearAs_24 : decode cX6_hearAs 24 = .ok (.putfield 23, 3) := by decide +kernel
theorem dX6_hearAs_27 : decode cX6_hearAs 27 = .ok (.aload_n 0, 1) := by decide +kernel
theorem dX6_hearAs_28 : decode cX6_hearAs 28 = .ok (.aload_n 0, 1) := by decide +kernel
theorem dX6_hearAs_29 : decode cX6_hearAs 29 = .ok (.getfield 38, 3) := by decide +kernel
theorem dX6_hearAs_32 : decode cX6_hearAs 32 = .ok (.getfield 101, 3) := by decide +kernel
theorem dX6_hearAs_35 : decode cX6_hearAs 35 = .ok (.iload_n 1, 1) := by decide +kernel
theorem dX6_hearAs_36 : decode cX6_hearAs 36 = .ok (.iaload, 1) := by decide +kernel
theorem dX6_hearAs_37 : decode cX6_hearAs 37 = .ok (.aload_n 0, 1) := by decide +kernel
theorem dX6_hearAs_38 : decode cX6_hearAs 38 = .ok (.getfield 13, 3) := by decide +kernel
theorem dX6_hearAs_41 : decode cX6_hearAs 41 = .ok (.iconst 0, 1) := by decide +kernel
theorem dX6_hearAs_42 : decode cX6_hearAs 42 = .ok (.iaload, 1) := by decide +kernel
theorem dX6_hearAs_43 : decode cX6_hearAs 43 = .ok (.iand, 1) := by decide +kernel
theorem dX6_hearAs_44 : decode cX6_hearAs 44 = .ok (.iconst 0, 1) := by decide +kernel
theorem dX6_hearAs_45 : decode cX6_hearAs 45 = .ok (.iconst 3, 1) := by decide +kernel
theorem dX6_hearAs_46 : decode cX6_hearAs 46 = .ok (.invokevirtual 97, 3) := by decide +kernel
theorem dX6_hearAs_49 : decode cX6_hearAs 49 = .ok (.aload_n 0, 1) := by decide +kernel
theorem dX6_hearAs_50 : decode cX6_hearAs 50 = .ok (.getfield 38, 3) := by decide +kernel
theorem dX6_hearAs_53 : decode cX6_hearAs 53 = .ok (.getfield 104, 3) := by decide +kernel
theorem dX6_hearAs_56 : decode cX6_hearAs 56 = .ok (.iload_n 1, 1) := by decide +kernel
theorem dX6_hearAs_57 : decode cX6_hearAs 57 = .ok (.iaload, 1) := by decide +kernel
theorem dX6_hearAs_58 : decode cX6_hearAs 58 = .ok (.aload_n 0, 1) := by decide +kernel
theorem dX6_hearAs_59 : decode cX6_hearAs 59 = .ok (.getfield 13, 3) := by decide +kernel
theorem dX6_hearAs_62 : decode cX6_hearAs 62 = .ok (.bipush 6, 2) := by decide +kernel
theorem dX6_hearAs_64 : decode cX6_hearAs 64 = .ok (.iaload, 1) := by decide +kernel
theorem dX6_hearAs_65 : decode cX6_hearAs 65 = .ok (.iand, 1) := by decide +kernel
theorem dX6_hearAs_66 : decode cX6_hearAs 66 = .ok (.istore_n 3, 1) := by decide +kernel
theorem dX6_hearAs_67 : decode cX6_hearAs 67 = .ok (.aload_n 0, 1) := by decide +kernel
theorem dX6_hearAs_68 : decode cX6_hearAs 68 = .ok (.iload_n 3, 1) := by decide +kernel
theorem dX6_hearAs_69 : decode cX6_hearAs 69 = .ok (.bipush 6, 2) := by decide +kernel
theorem dX6_hearAs_71 : decode cX6_hearAs 71 = .ok (.iconst 0, 1) := by decide +kernel
theorem dX6_hearAs_72 : decode cX6_hearAs 72 = .ok (.invokevirtual 97, 3) := by decide +kernel
theorem dX6_hearAs_75 : decode cX6_hearAs 75 = .ok (.iconst 0, 1) := by decide +kernel
theorem dX6_hearAs_76 : decode cX6_hearAs 76 = .ok (.istore 4, 2) := by decide +kernel
theorem dX6_hearAs_78 : decode cX6_hearAs 78 = .ok (.iload 4, 2) := by decide +kernel
theorem dX6_hearAs_80 : decode cX6_hearAs 80 = .ok (.aload_n 0, 1) := by decide +kernel
theorem dX6_hearAs_81 : decode cX6_hearAs 81 = .ok (.getfield 38, 3) := by decide +kernel
theorem dX6_hearAs_84 : decode cX6_hearAs 84 = .ok (.getfield 45, 3) := by decide +kernel
theorem dX6_hearAs_87 : decode cX6_hearAs 87 = .ok (.if_icmp .ge 29, 3) := by decide +kernel
theorem dX6_hearAs_90 : decode cX6_hearAs 90 = .ok (.iload_n 3, 1) := by decide +kernel
theorem dX6_hearAs_91 : decode cX6_hearAs 91 = .ok (.iload 4, 2) := by decide +kernel
theorem dX6_hearAs_93 : decode cX6_hearAs 93 = .ok (.ishr, 1) := by decide +kernel
theorem dX6_hearAs_94 : decode cX6_hearAs 94 = .ok (.iconst 1, 1) := by decide +kernel
theorem dX6_hearAs_95 : decode cX6_hearAs 95 = .ok (.iand, 1) := by decide +kernel
theorem dX6_hearAs_96 : decode cX6_hearAs 96 = .ok (.ifCond .eq 14, 3) := by decide +kernel
theorem dX6_hearAs_99 : decode cX6_hearAs 99 = .ok (.aload_n 0, 1) := by decide +kernel
theorem dX6_hearAs_100 : decode cX6_hearAs 100 = .ok (.getfield 20, 3) := by decide +kernel
theorem dX6_hearAs_103 : decode cX6_hearAs 103 = .ok (.iload 4, 2) := by decide +kernel
theorem dX6_hearAs_105 : decode cX6_hearAs 105 = .ok (.aload_n 0, 1) := by decide +kernel
theorem dX6_hearAs_106 : decode cX6_hearAs 106 = .ok (.getfield 23, 3) := by decide +kernel
theorem dX6_hearAs_109 : decode cX6_hearAs 109 = .ok (.iastore, 1) := by decide +kernel
theorem dX6_hearAs_110 : decode cX6_hearAs 110 = .ok (.iinc 4 1, 3) := by decide +kernel
theorem dX6_hearAs_113 : decode cX6_hearAs 113 = .ok (.goto (-35), 3) := by decide +kernel
theorem dX6_hearAs_116 : decode cX6_hearAs 116 = .ok (.aload_n 0, 1) := by decide +kernel
theorem dX6_hearAs_117 : decode cX6_hearAs 117 = .ok (.invokevirtual 107, 3) := by decide +kernel
theorem dX6_hearAs_120 : decode cX6_hearAs 120 = .ok (.pop, 1) := by decide +kernel
theorem dX6_hearAs_121 : decode cX6_hearAs 121 = .ok (.return_, 1) := by decide +kernel
theorem dX6_letPass_0 : decode cX6_letPass 0 = .ok (.aload_n 0, 1) := by decide +kernel
theorem dX6_letPass_1 : decode cX6_letPass 1 = .ok (.dup, 1) := by decide +kernel
theorem dX6_letPass_2 : decode cX6_letPass 2 = .ok (.getfield 23, 3) := by decide +kernel
theorem dX6_letPass_5 : decode cX6_letPass 5 = .ok (.iload_n 1, 1) := by decide +kernel
theorem dX6_letPass_6 : decode cX6_letPass 6 = .ok (.iadd, 1) := by decide +kernel
theorem dX6_letPass_7 : decode cX6_letPass 7 = .ok (.putfield 23, 3) := by decide +kernel
theorem dX6_letPass_10 : decode cX6_letPass 10 = .ok (.aload_n 0, 1) := by decide +kernel
theorem dX6_letPass_11 : decode cX6_letPass 11 = .ok (.invokevirtual 107, 3) := by decide +kernel
theorem dX6_letPass_14 : decode cX6_letPass 14 = .ok (.ireturn, 1) := by decide +kernel
theorem dX6_exchange_0 : decode cX6_exchange 0 = .ok (.aload_n 0, 1) := by decide +kernel
theorem dX6_exchange_1 : decode cX6_exchange 1 = .ok (.getfield 17, 3) := by decide +kernel
theorem dX6_exchange_4 : decode cX6_exchange 4 = .ok (.iload_n 1, 1) := by decide +kernel
theorem dX6_exchange_5 : decode cX6_exchange 5 = .ok (.iaload, 1) := by decide +kernel
theorem dX6_exchange_6 : decode cX6_exchange 6 = .ok (.istore_n 3, 1) := by decide +kernel
theorem dX6_exchange_7 : decode cX6_exchange 7 = .ok (.aload_n 0, 1) := by decide +kernel
theorem dX6_exchange_8 : decode cX6_exchange 8 = .ok (.getfield 17, 3) := by decide +kernel
theorem dX6_exchange_11 : decode cX6_exchange 11 = .ok (.iload_n 1, 1) := by decide +kernel
theorem dX6_exchange_12 : decode cX6_exchange 12 = .ok (.aload_n 0, 1) := by decide +kernel
theorem dX6_exchange_13 : decode cX6_exchange 13 = .ok (.getfield 17, 3) := by decide +kernel
theorem dX6_exchange_16 : decode cX6_exchange 16 = .ok (.iload_n 2, 1) := by decide +kernel
theorem dX6_exchange_17 : decode cX6_exchange 17 = .ok (.iaload, 1) := by decide +kernel
theorem dX6_exchange_18 : decode cX6_exchange 18 = .ok (.iastore, 1) := by decide +kernel
theorem dX6_exchange_19 : decode cX6_exchange 19 = .ok (.aload_n 0, 1) := by decide +kernel
theorem dX6_exchange_20 : decode cX6_exchange 20 = .ok (.getfield 17, 3) := by decide +kernel
theorem dX6_exchange_23 : decode cX6_exchange 23 = .ok (.iload_n 2, 1) := by decide +kernel
theorem dX6_exchange_24 : decode cX6_exchange 24 = .ok (.iload_n 3, 1) := by decide +kernel
theorem dX6_exchange_25 : decode cX6_exchange 25 = .ok (.iastore, 1) := by decide +kernel
theorem dX6_exchange_26 : decode cX6_exchange 26 = .ok (.return_, 1) := by decide +kernel
theorem dX6_dismiss_0 : decode cX6_dismiss 0 = .ok (.iconst 0, 1) := by decide +kernel
theorem dX6_dismiss_1 : decode cX6_dismiss 1 = .ok (.istore_n 1, 1) := by decide +kernel
theorem dX6_dismiss_2 : decode cX6_dismiss 2 = .ok (.iconst 0, 1) := by decide +kernel
theorem dX6_dismiss_3 : decode cX6_dismiss 3 = .ok (.istore_n 2, 1) := by decide +kernel
theorem dX6_dismiss_4 : decode cX6_dismiss 4 = .ok (.iload_n 2, 1) := by decide +kernel
theorem dX6_dismiss_5 : decode cX6_dismiss 5 = .ok (.aload_n 0, 1) := by decide +kernel
theorem dX6_dismiss_6 : decode cX6_dismiss 6 = .ok (.getfield 38, 3) := by decide +kernel
theorem dX6_dismiss_9 : decode cX6_dismiss 9 = .ok (.getfield 45, 3) := by decide +kernel
theorem dX6_dismiss_12 : decode cX6_dismiss 12 = .ok (.if_icmp .ge 40, 3) := by decide +kernel
theorem dX6_dismiss_15 : decode cX6_dismiss 15 = .ok (.aload_n 0, 1) := by decide +kernel
theorem dX6_dismiss_16 : decode cX6_dismiss 16 = .ok (.iload_n 2, 1) := by decide +kernel
theorem dX6_dismiss_17 : decode cX6_dismiss 17 = .ok (.invokevirtual 87, 3) := by decide +kernel
theorem dX6_dismiss_20 : decode cX6_dismiss 20 = .ok (.ifCond .eq 26, 3) := by decide +kernel
theorem dX6_dismiss_23 : decode cX6_dismiss 23 = .ok (.aload_n 0, 1) := by decide +kernel
theorem dX6_dismiss_24 : decode cX6_dismiss 24 = .ok (.iload_n 2, 1) := by decide +kernel
theorem dX6_dismiss_25 : decode cX6_dismiss 25 = .ok (.invokevirtual 78, 3) := by decide +kernel
theorem dX6_dismiss_28 : decode cX6_dismiss 28 = .ok (.aload_n 0, 1) := by decide +kernel
theorem dX6_dismiss_29 : decode cX6_dismiss 29 = .ok (.getfield 38, 3) := by decide +kernel
theorem dX6_dismiss_32 : decode cX6_dismiss 32 = .ok (.getfield 111, 3) := by decide +kernel
theorem dX6_dismiss_35 : decode cX6_dismiss 35 = .ok (.iload_n 2, 1) := by decide +kernel
theorem dX6_dismiss_36 : decode cX6_dismiss 36 = .ok (.iaload, 1) := by decide +kernel
theorem dX6_dismiss_37 : decode cX6_dismiss 37 = .ok (.if_icmp .le 9, 3) := by decide +kernel
theorem dX6_dismiss_40 : decode cX6_dismiss 40 = .ok (.iload_n 1, 1) := by decide +kernel
theorem dX6_dismiss_41 : decode cX6_dismiss 41 = .ok (.iconst 1, 1) := by decide +kernel
theorem dX6_dismiss_42 : decode cX6_dismiss 42 = .ok (.iload_n 2, 1) := by decide +kernel
theorem dX6_dismiss_43 : decode cX6_dismiss 43 = .ok (.ishl, 1) := by decide +kernel
theorem dX6_dismiss_44 : decode cX6_dismiss 44 = .ok (.ior, 1) := by decide +kernel
theorem dX6_dismiss_45 : decode cX6_dismiss 45 = .ok (.istore_n 1, 1) := by decide +kernel
theorem dX6_dismiss_46 : decode cX6_dismiss 46 = .ok (.iinc 2 1, 3) := by decide +kernel
theorem dX6_dismiss_49 : decode cX6_dismiss 49 = .ok (.goto (-45), 3) := by decide +kernel
theorem dX6_dismiss_52 : decode cX6_dismiss 52 = .ok (.aload_n 0, 1) := by decide +kernel
theorem dX6_dismiss_53 : decode cX6_dismiss 53 = .ok (.iload_n 1, 1) := by decide +kernel
theorem dX6_dismiss_54 : decode cX6_dismiss 54 = .ok (.iconst 0, 1) := by decide +kernel
theorem dX6_dismiss_55 : decode cX6_dismiss 55 = .ok (.iconst 4, 1) := by decide +kernel
theorem dX6_dismiss_56 : decode cX6_dismiss 56 = .ok (.invokevirtual 97, 3) := by decide +kernel
theorem dX6_dismiss_59 : decode cX6_dismiss 59 = .ok (.iload_n 1, 1) := by decide +kernel
theorem dX6_dismiss_60 : decode cX6_dismiss 60 = .ok (.invokestatic 82, 3) := by decide +kernel
theorem dX6_dismiss_63 : decode cX6_dismiss 63 = .ok (.ireturn, 1) := by decide +kernel
theorem dX7_init_0 : decode cX7_init 0 = .ok (.aload_n 0, 1) := by decide +kernel
theorem dX7_init_1 : decode cX7_init 1 = .ok (.invokespecial 3, 3) := by decide +kernel
theorem dX7_init_4 : decode cX7_init 4 = .ok (.aload_n 0, 1) := by decide +kernel
theorem dX7_init_5 : decode cX7_init 5 = .ok (.iconst 0, 1) := by decide +kernel
theorem dX7_init_6 : decode cX7_init 6 = .ok (.putfield 9, 3) := by decide +kernel
theorem dX7_init_9 : decode cX7_init 9 = .ok (.aload_n 0, 1) := by decide +kernel
theorem dX7_init_10 : decode cX7_init 10 = .ok (.bipush 7, 2) := by decide +kernel
theorem dX7_init_12 : decode cX7_init 12 = .ok (.newarray .int, 2) := by decide +kernel
theorem dX7_init_14 : decode cX7_init 14 = .ok (.putfield 15, 3) := by decide +kernel
theorem dX7_init_17 : decode cX7_init 17 = .ok (.aload_n 0, 1) := by decide +kernel
theorem dX7_init_18 : decode cX7_init 18 = .ok (.aload_n 1, 1) := by decide +kernel
theorem dX7_init_19 : decode cX7_init 19 = .ok (.putfield 19, 3) := by decide +kernel
theorem dX7_init_22 : decode cX7_init 22 = .ok (.aload_n 0, 1) := by decide +kernel
theorem dX7_init_23 : decode cX7_init 23 = .ok (.aload_n 2, 1) := by decide +kernel
theorem dX7_init_24 : decode cX7_init 24 = .ok (.putfield 23, 3) := by decide +kernel
theorem dX7_init_27 : decode cX7_init 27 = .ok (.return_, 1) := by decide +kernel
theorem dX7_weigh_0 : decode cX7_weigh 0 = .ok (.iconst 0, 1) := by decide +kernel
theorem dX7_weigh_1 : decode cX7_weigh 1 = .ok (.istore_n 2, 1) := by decide +kernel
theorem dX7_weigh_2 : decode cX7_weigh 2 = .ok (.iconst 0, 1) := by decide +kernel
theorem dX7_weigh_3 : decode cX7_weigh 3 = .ok (.istore_n 3, 1) := by decide +kernel
theorem dX7_weigh_4 : decode cX7_weigh 4 = .ok (.iload_n 3, 1) := by decide +kernel
theorem dX7_weigh_5 : decode cX7_weigh 5 = .ok (.aload_n 0, 1) := by decide +kernel
theorem dX7_weigh_6 : decode cX7_weigh 6 = .ok (.getfield 19, 3) := by decide +kernel
theorem dX7_weigh_9 : decode cX7_weigh 9 = .ok (.getfield 27, 3) := by decide +kernel
theorem dX7_weigh_12 : decode cX7_weigh 12 = .ok (.if_icmp .ge 83, 3) := by decide +kernel
theorem dX7_weigh_15 : decode cX7_weigh 15 = .ok (.iload_n 1, 1) := by decide +kernel
theorem dX7_weigh_16 : decode cX7_weigh 16 = .ok (.iload_n 3, 1) := by decide +kernel
theorem dX7_weigh_17 : decode cX7_weigh 17 = .ok (.ishr, 1) := by decide +kernel
theorem dX7_weigh_18 : decode cX7_weigh 18 = .ok (.iconst 1, 1) := by decide +kernel
theorem dX7_weigh_19 : decode cX7_weigh 19 = .ok (.iand, 1) := by decide +kernel
theorem dX7_weigh_20 : decode cX7_weigh 20 = .ok (.ifCond .eq 69, 3) := by decide +kernel
theorem dX7_weigh_23 : decode cX7_weigh 23 = .ok (.iload_n 2, 1) := by decide +kernel
theorem dX7_weigh_24 : decode cX7_weigh 24 = .ok (.aload_n 0, 1) := by decide +kernel
theorem dX7_weigh_25 : decode cX7_weigh 25 = .ok (.getfield 19, 3) := by decide +kernel
theorem dX7_weigh_28 : decode cX7_weigh 28 = .ok (.getfield 30, 3) := by decide +kernel
theorem dX7_weigh_31 : decode cX7_weigh 31 = .ok (.iload_n 3, 1) := by decide +kernel
theorem dX7_weigh_32 : decode cX7_weigh 32 = .ok (.iaload, 1) := by decide +kernel
theorem dX7_weigh_33 : decode cX7_weigh 33 = .ok (.iadd, 1) := by decide +kernel
theorem dX7_weigh_34 : decode cX7_weigh 34 = .ok (.istore_n 2, 1) := by decide +kernel
theorem dX7_weigh_35 : decode cX7_weigh 35 = .ok (.iload_n 3, 1) := by decide +kernel
theorem dX7_weigh_36 : decode cX7_weigh 36 = .ok (.iconst 1, 1) := by decide +kernel
theorem dX7_weigh_37 : decode cX7_weigh 37 = .ok (.iadd, 1) := by decide +kernel
theorem dX7_weigh_38 : decode cX7_weigh 38 = .ok (.istore 4, 2) := by decide +kernel
theorem dX7_weigh_40 : decode cX7_weigh 40 = .ok (.iload 4, 2) := by decide +kernel
theorem dX7_weigh_42 : decode cX7_weigh 42 = .ok (.aload_n 0, 1) := by decide +kernel
theorem dX7_weigh_43 : decode cX7_weigh 43 = .ok (.getfield 19, 3) := by decide +kernel
theorem dX7_weigh_46 : decode cX7_weigh 46 = .ok (.getfield 27, 3) := by decide +kernel
theorem dX7_weigh_49 : decode cX7_weigh 49 = .ok (.if_icmp .ge 40, 3) := by decide +kernel
theorem dX7_weigh_52 : decode cX7_weigh 52 = .ok (.iload_n 2, 1) := by decide +kernel
theorem dX7_weigh_53 : decode cX7_weigh 53 = .ok (.iload_n 1, 1) := by decide +kernel
theorem dX7_weigh_54 : decode cX7_weigh 54 = .ok (.iload 4, 2) := by decide +kernel
theorem dX7_weigh_56 : decode cX7_weigh 56 = .ok (.ishr, 1) := by decide +kernel
theorem dX7_weigh_57 : decode cX7_weigh 57 = .ok (.iconst 1, 1) := by decide +kernel
theorem dX7_weigh_58 : decode cX7_weigh 58 = .ok (.iand, 1) := by decide +kernel
theorem dX7_weigh_59 : decode cX7_weigh 59 = .ok (.ifCond .eq 21, 3) := by decide +kernel
theorem dX7_weigh_62 : decode cX7_weigh 62 = .ok (.aload_n 0, 1) := by decide +kernel
theorem dX7_weigh_63 : decode cX7_weigh 63 = .ok (.getfield 19, 3) := by decide +kernel
theorem dX7_weigh_66 : decode cX7_weigh 66 = .ok (.getfield 33, 3) := by decide +kernel
theorem dX7_weigh_69 : decode cX7_weigh 69 = .ok (.iload_n 3, 1) := by decide +kernel
theorem dX7_weigh_70 : decode cX7_weigh 70 = .ok (.bipush 7, 2) := by decide +kernel
theorem dX7_weigh_72 : decode cX7_weigh 72 = .ok (.imul, 1) := by decide +kernel
theorem dX7_weigh_73 : decode cX7_weigh 73 = .ok (.iload 4, 2) := by decide +kernel
theorem dX7_weigh_75 : decode cX7_weigh 75 = .ok (.iadd, 1) := by decide +kernel
theorem dX7_weigh_76 : decode cX7_weigh 76 = .ok (.iaload, 1) := by decide +kernel
theorem dX7_weigh_77 : decode cX7_weigh 77 = .ok (.goto 4, 3) := by decide +kernel
theorem dX7_weigh_80 : decode cX7_weigh 80 = .ok (.iconst 0, 1) := by decide +kernel
theorem dX7_weigh_81 : decode cX7_weigh 81 = .ok (.iadd, 1) := by decide +kernel
theorem dX7_weigh_82 : decode cX7_weigh 82 = .ok (.istore_n 2, 1) := by decide +kernel
theorem dX7_weigh_83 : decode cX7_weigh 83 = .ok (.iinc 4 1, 3) := by decide +kernel
theorem dX7_weigh_86 : decode cX7_weigh 86 = .ok (.goto (-46), 3) := by decide +kernel
theorem dX7_weigh_89 : decode cX7_weigh 89 = .ok (.iinc 3 1, 3) := by decide +kernel
theorem dX7_weigh_92 : decode cX7_weigh 92 = .ok (.goto (-88), 3) := by decide +kernel
theorem dX7_weigh_95 : decode cX7_weigh 95 = .ok (.iload_n 2, 1) := by decide +kernel
theorem dX7_weigh_96 : decode cX7_weigh 96 = .ok (.ireturn, 1) := by decide +kernel
theorem dX7_isBarredBy_0 : decode cX7_isBarredBy 0 = .ok (.aload_n 0, 1) := by decide +kernel
theorem dX7_isBarredBy_1 : decode cX7_isBarredBy 1 = .ok (.iload_n 1, 1) := by decide +kernel
theorem dX7_isBarredBy_2 : decode cX7_isBarredBy 2 = .ok (.invokevirtual 36, 3) := by decide +kernel
theorem dX7_isBarredBy_5 : decode cX7_isBarredBy 5 = .ok (.aload_n 0, 1) := by decide +kernel
theorem dX7_isBarredBy_6 : decode cX7_isBarredBy 6 = .ok (.getfield 19, 3) := by decide +kernel
theorem dX7_isBarredBy_9 : decode cX7_isBarredBy 9 = .ok (.getfield 40, 3) := by decide +kernel
theorem dX7_isBarredBy_12 : decode cX7_isBarredBy 12 = .ok (.if_icmp .lt 7, 3) := by decide +kernel
theorem dX7_isBarredBy_15 : decode cX7_isBarredBy 15 = .ok (.iconst 1, 1) := by decide +kernel
theorem dX7_isBarredBy_16 : decode cX7_isBarredBy 16 = .ok (.goto 4, 3) := by decide +kernel
theorem dX7_isBarredBy_19 : decode cX7_isBarredBy 19 = .ok (.iconst 0, 1) := by decide +kernel
theorem dX7_isBarredBy_20 : decode cX7_isBarredBy 20 = .ok (.ireturn, 1) := by decide +kernel
theorem dX7_threatens_0 : decode cX7_threatens 0 = .ok (.iload_n 1, 1) := by decide +kernel
theorem dX7_threatens_1 : decode cX7_threatens 1 = .ok (.aload_n 0, 1) := by decide +kernel
theorem dX7_threatens_2 : decode cX7_threatens 2 = .ok (.getfield 23, 3) := by decide +kernel
theorem dX7_threatens_5 : decode cX7_threatens 5 = .ok (.getfield 43, 3) := by decide +kernel
theorem dX7_threatens_8 : decode cX7_threatens 8 = .ok (.iconst 0, 1) := by decide +kernel
theorem dX7_threatens_9 : decode cX7_threatens 9 = .ok (.iaload, 1) := by decide +kernel
theorem dX7_threatens_10 : decode cX7_threatens 10 = .ok (.iconst (-1), 1) := by decide +kernel
theorem dX7_threatens_11 : decode cX7_threatens 11 = .ok (.ixor, 1) := by decide +kernel
theorem dX7_threatens_12 : decode cX7_threatens 12 = .ok (.iand, 1) := by decide +kernel
theorem dX7_threatens_13 : decode cX7_threatens 13 = .ok (.ifCond .ne 25, 3) := by decide +kernel
theorem dX7_threatens_16 : decode cX7_threatens 16 = .ok (.aload_n 0, 1) := by decide +kernel
theorem dX7_threatens_17 : decode cX7_threatens 17 = .ok (.aload_n 0, 1) := by decide +kernel
theorem dX7_threatens_18 : decode cX7_threatens 18 = .ok (.getfield 23, 3) := by decide +kernel
theorem dX7_threatens_21 : decode cX7_threatens 21 = .ok (.getfield 43, 3) := by decide +kernel
theorem dX7_threatens_24 : decode cX7_threatens 24 = .ok (.iconst 2, 1) := by decide +kernel
